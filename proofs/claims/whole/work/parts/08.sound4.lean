theorem zcat_eq {ad : Nat → Nat → Nat} : ∀ t : List zV, ((t.map (zc ad)).map (fun v => v.category)).sum = zcat t
  | [] => rfl
  | .inl x :: t => by show 1 + ((t.map (zc ad)).map (fun v => v.category)).sum = 1 + zcat t; rw [zcat_eq t]
  | .inr (.inl x) :: t => by show 2 + ((t.map (zc ad)).map (fun v => v.category)).sum = 2 + zcat t; rw [zcat_eq t]
  | .inr (.inr x) :: t => by show 1 + ((t.map (zc ad)).map (fun v => v.category)).sum = 1 + zcat t; rw [zcat_eq t]
theorem zcI_other {h : zH} {K j K1 j1 n : Nat} {q : Nat × Nat} (hq : q ≠ (K1, j1)) : (zcI h K j K1 j1 n).1 q.1 q.2 = h.1 q.1 q.2 := by
  funext k'
  have : ¬ (q.1 = K1 ∧ q.2 = j1 ∧ k' < n) := fun e => hq (Prod.ext e.1 e.2.1)
  simp only [zcI, if_neg this]
theorem zcJ_other {h : zH} {K j K1 j1 n : Nat} {q : Nat × Nat} (hq : q ≠ (K1, j1)) : (zcJ h K j K1 j1 n).2 q.1 q.2 = h.2 q.1 q.2 := by
  funext k'
  have : ¬ (q.1 = K1 ∧ q.2 = j1 ∧ k' < n) := fun e => hq (Prod.ext e.1 e.2.1)
  simp only [zcJ, if_neg this]
/-- the words of System.arraycopy, of Math's two, at a link -/
def zLk (own : String) (idx : Nat) : Prop := Cond.methodLink own idx arraycopyName ∈ zT ∧ Cond.native arraycopyName ∈ zT ∧ Cond.static arraycopyName ∈ zT ∧ Cond.initialized "java/lang/System" ∈ zT
def zLmax (own : String) (idx : Nat) : Prop := Cond.methodLink own idx Lib.Math.max.name ∈ zT ∧ Cond.static Lib.Math.max.name ∈ zT ∧ Cond.initialized "java/lang/Math" ∈ zT ∧ Cond.code Lib.Math.max.name Lib.Math.max.code 2 (some .int) ∈ zT
def zLmin (own : String) (idx : Nat) : Prop := Cond.methodLink own idx Lib.Math.min.name ∈ zT ∧ Cond.static Lib.Math.min.name ∈ zT ∧ Cond.initialized "java/lang/Math" ∈ zT ∧ Cond.code Lib.Math.min.name Lib.Math.min.code 2 (some .int) ∈ zT
theorem zs_cpyI {X : zCtx} {own : String} {cc : ByteArray} {nL pc nx idx : Nat} (hX : zXok X own cc nL) (hF : zLk own idx) (hd : decode cc pc = .ok (.invokestatic idx, 3)) (hn : pc + 3 = nx) : zSo X pc (zo_cpyI nx) := by
  intro K ls st h res he hk
  obtain ⟨⟨p, l, e, R, s, m, args, below, meth, c⟩, ⟨D, ad, cy, L, A, H0⟩, ⟨own9, cc9, nL9, Q, cf, sf⟩⟩ := X
  obtain ⟨hx, hb, hml, hown, hts, hK, hD, hcl, hcf, hsf, rfl, rfl, rfl, hR1, hR2, hc1, hc2⟩ := hX
  subst hn
  obtain ⟨f1, f2, f3, f4⟩ := hF
  match st, he with
  | .inl n :: .inl dp :: .inr (.inr (C1, j1)) :: .inl sp :: .inr (.inr (C, j)) :: t, he =>
    intro ho hl H locs lsA hP hS hL
    obtain ⟨hc, he2⟩ := zbrec he
    simp only [Bool.and_eq_true, decide_eq_true_eq, Bool.not_eq_true', decide_eq_false_iff_not] at hc
    obtain ⟨⟨⟨⟨⟨⟨⟨ht, ht1⟩, rfl⟩, rfl⟩, hn0⟩, hl0⟩, hl1⟩, hcat⟩ := hc
    have ht := Nat.eq_of_beq_eq_true ht
    have ht1 := Nat.eq_of_beq_eq_true ht1
    have hl0 := Nat.le_of_ble_eq_true hl0
    have hl1 := Nat.le_of_ble_eq_true hl1
    have hcat := Nat.le_of_ble_eq_true hcat
    have hq1 : (C1, j1) ∈ L := zmem (zk0 (zk1 (zk1 ho))) (by rw [ht1]; decide)
    have hq : (C, j) ∈ L := zmem (zk0 (zk1 (zk1 (zk1 (zk1 ho))))) (by rw [ht]; decide)
    obtain ⟨p0, hp0, hp1⟩ := zws_at (ad := ad) (cy := cy) h hq
    obtain ⟨q0, hq0, hqq⟩ := zws_at (ad := ad) (cy := cy) h hq1
    rw [zcon1 ht] at hp1
    rw [zcon1 ht1] at hqq
    have e0 : (0 : Int32).toNatClampNeg = 0 := by decide
    have hlc : ((t.map (zc ad)).map (fun v => v.category)).sum + (nativeFrameWords "java/lang/System" "arraycopy" 5 + 11) ≤ R.locals := by
      have e1 : nativeFrameWords "java/lang/System" "arraycopy" 5 = 7 := by decide +kernel
      rw [zcat_eq, e1]; omega
    refine va_copyi (sp := 0) (dp := 0) (n := n) hx hb (hml.trans hL.1.symm) hown (hts _ f1) (hts _ f2) (hts _ f3) (hts _ f4) hK hP (hD h) hS p0 q0 0 0 hp1 hqq rfl rfl rfl (by decide) (by decide) hn0 (by rw [e0]; omega) (by rw [e0]; omega) (fun _ _ => rfl) hR1 hlc hd (fun H1 locs1 hP1 hD1 hS1 => ?_)
    have hset : (zws ad cy L h).set q0 (ad C1 j1, .inl (cy 1, zlen C1, .inl (va_cpy (h.1 C j) (h.1 C1 j1) (0 : Int32).toNatClampNeg (0 : Int32).toNatClampNeg n.toNatClampNeg))) = zws ad cy L (zcI h C j C1 j1 n.toNatClampNeg) := zws_set (zclo.nodup hcl) hq0 (by
      rw [zcon1 ht1, e0]
      have ee : (zcI h C j C1 j1 n.toNatClampNeg).1 C1 j1 = va_cpy (h.1 C j) (h.1 C1 j1) 0 0 n.toNatClampNeg := by funext k; simp [zcI, va_cpy]
      rw [ee]) (fun q hne => (zcon_congr (zcI_other hne) rfl))
    rw [hset] at hP1
    exact hk _ ls t (zcI h C j C1 j1 n.toNatClampNeg) he2 (zk1 (zk1 (zk1 (zk1 (zk1 ho))))) hl H1 locs1 lsA hP1 hS1 hL
theorem zs_cpyJ {X : zCtx} {own : String} {cc : ByteArray} {nL pc nx idx : Nat} (hX : zXok X own cc nL) (hF : zLk own idx) (hd : decode cc pc = .ok (.invokestatic idx, 3)) (hn : pc + 3 = nx) : zSo X pc (zo_cpyJ nx) := by
  intro K ls st h res he hk
  obtain ⟨⟨p, l, e, R, s, m, args, below, meth, c⟩, ⟨D, ad, cy, L, A, H0⟩, ⟨own9, cc9, nL9, Q, cf, sf⟩⟩ := X
  obtain ⟨hx, hb, hml, hown, hts, hK, hD, hcl, hcf, hsf, rfl, rfl, rfl, hR1, hR2, hc1, hc2⟩ := hX
  subst hn
  obtain ⟨f1, f2, f3, f4⟩ := hF
  match st, he with
  | .inl n :: .inl dp :: .inr (.inr (C1, j1)) :: .inl sp :: .inr (.inr (C, j)) :: t, he =>
    intro ho hl H locs lsA hP hS hL
    obtain ⟨hc, he2⟩ := zbrec he
    simp only [Bool.and_eq_true, decide_eq_true_eq, Bool.not_eq_true', decide_eq_false_iff_not] at hc
    obtain ⟨⟨⟨⟨⟨⟨⟨ht, ht1⟩, rfl⟩, rfl⟩, hn0⟩, hl0⟩, hl1⟩, hcat⟩ := hc
    have ht := Nat.eq_of_beq_eq_true ht
    have ht1 := Nat.eq_of_beq_eq_true ht1
    have hl0 := Nat.le_of_ble_eq_true hl0
    have hl1 := Nat.le_of_ble_eq_true hl1
    have hcat := Nat.le_of_ble_eq_true hcat
    have hq1 : (C1, j1) ∈ L := zmem (zk0 (zk1 (zk1 ho))) (by rw [ht1]; decide)
    have hq : (C, j) ∈ L := zmem (zk0 (zk1 (zk1 (zk1 (zk1 ho))))) (by rw [ht]; decide)
    obtain ⟨p0, hp0, hp1⟩ := zws_at (ad := ad) (cy := cy) h hq
    obtain ⟨q0, hq0, hqq⟩ := zws_at (ad := ad) (cy := cy) h hq1
    rw [zcon2 ht] at hp1
    rw [zcon2 ht1] at hqq
    have e0 : (0 : Int32).toNatClampNeg = 0 := by decide
    have hlc : ((t.map (zc ad)).map (fun v => v.category)).sum + (nativeFrameWords "java/lang/System" "arraycopy" 5 + 11) ≤ R.locals := by
      have e1 : nativeFrameWords "java/lang/System" "arraycopy" 5 = 7 := by decide +kernel
      rw [zcat_eq, e1]; omega
    refine va_copyl (sp := 0) (dp := 0) (n := n) hx hb (hml.trans hL.1.symm) hown (hts _ f1) (hts _ f2) (hts _ f3) (hts _ f4) hK hP (hD h) hS p0 q0 1 1 hp1 hqq rfl rfl rfl (by decide) (by decide) hn0 (by rw [e0]; omega) (by rw [e0]; omega) (fun _ _ => rfl) hR1 hlc hd (fun H1 locs1 hP1 hD1 hS1 => ?_)
    have hset : (zws ad cy L h).set q0 (ad C1 j1, .inl (cy 2, zlen C1, .inr (.inl (va_cpy (h.2 C j) (h.2 C1 j1) (0 : Int32).toNatClampNeg (0 : Int32).toNatClampNeg n.toNatClampNeg)))) = zws ad cy L (zcJ h C j C1 j1 n.toNatClampNeg) := zws_set (zclo.nodup hcl) hq0 (by
      rw [zcon2 ht1, e0]
      have ee : (zcJ h C j C1 j1 n.toNatClampNeg).2 C1 j1 = va_cpy (h.2 C j) (h.2 C1 j1) 0 0 n.toNatClampNeg := by funext k; simp [zcJ, va_cpy]
      rw [ee]) (fun q hne => (zcon_congr rfl (zcJ_other hne)))
    rw [hset] at hP1
    exact hk _ ls t (zcJ h C j C1 j1 n.toNatClampNeg) he2 (zk1 (zk1 (zk1 (zk1 (zk1 ho))))) hl H1 locs1 lsA hP1 hS1 hL
theorem zs_max {X : zCtx} {own : String} {cc : ByteArray} {nL pc nx idx : Nat} (hX : zXok X own cc nL) (hF : zLmax own idx) (hd : decode cc pc = .ok (.invokestatic idx, 3)) (hn : pc + 3 = nx) : zSo X pc (zo_max nx) := by
  intro K ls st h res he hk
  obtain ⟨⟨p, l, e, R, s, m, args, below, meth, c⟩, ⟨D, ad, cy, L, A, H0⟩, ⟨own9, cc9, nL9, Q, cf, sf⟩⟩ := X
  obtain ⟨hx, hb, hml, hown, hts, hK, hD, hcl, hcf, hsf, rfl, rfl, rfl, hR1, hR2, hc1, hc2⟩ := hX
  subst hn
  obtain ⟨f1, f2, f3, f4⟩ := hF
  match st, he with
  | .inl y :: .inl x :: t, he =>
    intro ho hl H locs lsA hP hS hL
    obtain ⟨hcat, he⟩ := zbrec he
    have hcat := Nat.le_of_ble_eq_true hcat
    exact va_mmax hx hb (hml.trans hL.1.symm) hown (hts _ f1) (hts _ f2) (hts _ f3) (hts _ f4) hR1 (by rw [zcat_eq]; omega) (hc1 ls) (hc2 ls) hd (hk _ ls (.inl (if x < y then y else x) :: t) h he (zk2 trivial (zk1 (zk1 ho))) hl H locs lsA hP hS hL)
theorem zs_min {X : zCtx} {own : String} {cc : ByteArray} {nL pc nx idx : Nat} (hX : zXok X own cc nL) (hF : zLmin own idx) (hd : decode cc pc = .ok (.invokestatic idx, 3)) (hn : pc + 3 = nx) : zSo X pc (zo_min nx) := by
  intro K ls st h res he hk
  obtain ⟨⟨p, l, e, R, s, m, args, below, meth, c⟩, ⟨D, ad, cy, L, A, H0⟩, ⟨own9, cc9, nL9, Q, cf, sf⟩⟩ := X
  obtain ⟨hx, hb, hml, hown, hts, hK, hD, hcl, hcf, hsf, rfl, rfl, rfl, hR1, hR2, hc1, hc2⟩ := hX
  subst hn
  obtain ⟨f1, f2, f3, f4⟩ := hF
  match st, he with
  | .inl y :: .inl x :: t, he =>
    intro ho hl H locs lsA hP hS hL
    obtain ⟨hcat, he⟩ := zbrec he
    have hcat := Nat.le_of_ble_eq_true hcat
    exact va_mmin hx hb (hml.trans hL.1.symm) hown (hts _ f1) (hts _ f2) (hts _ f3) (hts _ f4) hR1 (by rw [zcat_eq]; omega) (hc1 ls) (hc2 ls) hd (hk _ ls (.inl (if y < x then y else x) :: t) h he (zk2 trivial (zk1 (zk1 ho))) hl H locs lsA hP hS hL)
/-! calls -/
def zA (ad : Nat → Nat → Nat) (L : List (Nat × Nat)) : Nat → Prop := fun q => ∃ r ∈ L, q = ad r.1 r.2
def zroom (d : Nat) : Room := { frames := d + 1, cells := 0, slots := 0, locals := 64 * (d + 1) }
def zWd (D : va_G) (ad : Nat → Nat → Nat) (cy : Nat → ClassId) (L : List (Nat × Nat)) (h : zH) (t : State) : Prop := va_P D zcl (zws ad cy L h) t.heap ∧ va_K D zcl (ztys cy) t
def zQc (D : va_G) (ad : Nat → Nat → Nat) (cy : Nat → ClassId) (L : List (Nat × Nat)) (res : zRes) : Array Value → State → Outcome → State → Prop := match res with
  | (none, h) => va_Qv (S := Unit) (fun _ => True) (fun _ t => zWd D ad cy L h t) (zA ad L)
  | (some (.inl r), h) => va_Qi (S := Unit) (fun r' _ => r' = r) (fun _ t => zWd D ad cy L h t) (zA ad L)
  | (some (.inr (.inl r)), h) => va_Ql (S := Unit) (fun r' _ => r' = r) (fun _ t => zWd D ad cy L h t) (zA ad L)
  | (some (.inr (.inr _)), _) => fun _ _ _ _ => False
def zMt (l : Launch) (D : va_G) (ad : Nat → Nat → Nat) (cy : Nat → ClassId) (L : List (Nat × Nat)) (d : Nat) (y : MethodName) (w0 : Cond) (a : List zV) (h : zH) (res : zRes) : Prop :=
  Met l y (w0 :: zT) (zroom d) (va_Pc (a.map (zc ad)) (zWd D ad cy L h)) (zQc D ad cy L res) 0 0 (zA ad L)
/-- what a call's meaning owes: the method's contract -/
def zCk (l : Launch) (D : va_G) (ad : Nat → Nat → Nat) (cy : Nat → ClassId) (L : List (Nat × Nat)) (d : Nat) (cs : zS) (y : MethodName) (w0 : Cond) : Prop :=
  ∀ (a : List zV) (h : zH) (res : zRes), cs a h = some res → (∀ v ∈ a, zok L v) → zMt l D ad cy L d y w0 a h res
def zXc (X : zCtx) (d : Nat) (cs : zS) (y : MethodName) (w0 : Cond) : Prop := match X with
  | ((_, l, _, R, _, _, _, _, _, _), (D, ad, cy, L, _, _), _) => zCk l D ad cy L d cs y w0 ∧ (zroom d).frames + 1 ≤ R.frames ∧ 64 + (zroom d).locals ≤ R.locals
theorem zblind {D : va_G} {ad : Nat → Nat → Nat} {cy : Nat → ClassId} {L : List (Nat × Nat)} {h : zH} {av : List Value} : FrameBlind (va_Pc av (zWd D ad cy L h)) := fun a U g mk q => ⟨q.1, q.2.1, va_K.moved (u := U) (U := U.calling g mk a) (Vm.Alike.refl U.vm) q.2.2⟩
theorem zgood {w0 : Cond} (h : w0 ∈ zT) : GoodIn zT (w0 :: zT) := by
  intro w hw
  have h1 : w ∈ zT := by
    rcases List.mem_cons.mp hw with rfl | h2
    · exact h
    · exact h2
  exact ⟨h1, good_of_word (List.mem_filter.mp h1).2⟩
theorem zpop_spec : ∀ (n : Nat) (acc st a t : List zV), zpop n acc st = some (a, t) → ∃ pre, st = pre ++ t ∧ pre.length = n ∧ a = pre.reverse ++ acc
  | 0, acc, st, a, t, h => by
    obtain ⟨rfl, rfl⟩ := Prod.mk.inj (Option.some.inj h)
    exact ⟨[], rfl, rfl, rfl⟩
  | n + 1, acc, v :: st, a, t, h => by
    obtain ⟨pre, h1, h2, h3⟩ := zpop_spec n (v :: acc) st a t h
    exact ⟨v :: pre, by rw [h1]; rfl, by simp [h2], by rw [h3]; simp⟩
  | n + 1, acc, [], a, t, h => by cases h
/-- the words of a call by its link: an object's method, a static one -/
def zMV (own : String) (idx C : Nat) (y : MethodName) (bytes : ByteArray) (maxL : Nat) (ret : Option FieldType) (n : Nat) : Prop := (Cond.methodLink own idx y ∈ zT ∧ Cond.instanceMethod y ∈ zT ∧ Cond.selects y.cls y y ∈ zT ∧ Cond.initialized y.cls ∈ zT ∧ Cond.code y bytes maxL ret ∈ zT) ∧ maxL ≤ 45 ∧ zty C = 0 ∧ (∃ (T : u_T) (N : Nat), zcl[C]? = some (y.cls, T, N)) ∧
  y.cls ≠ "java/lang/invoke/MethodHandle" ∧ y.cls ≠ "java/lang/invoke/VarHandle" ∧ (parseMethodDescriptor y.desc).map (fun d => d.parameters.length) = some n
def zMS (own : String) (idx : Nat) (y : MethodName) (bytes : ByteArray) (maxL : Nat) (ret : Option FieldType) (n : Nat) : Prop := (Cond.methodLink own idx y ∈ zT ∧ Cond.static y ∈ zT ∧ Cond.initialized y.cls ∈ zT ∧ Cond.code y bytes maxL ret ∈ zT) ∧ maxL ≤ 45 ∧
  y.cls ≠ "java/lang/invoke/MethodHandle" ∧ y.cls ≠ "java/lang/invoke/VarHandle" ∧ (parseMethodDescriptor y.desc).map (fun d => d.parameters.length) = some n
theorem zA_of {A : Nat → Prop} {ad : Nat → Nat → Nat} {cy : Nat → ClassId} {L : List (Nat × Nat)} {h : zH} (hD : va_D A (zws ad cy L h)) : ∀ q, zA ad L q → A q := by
  rintro q ⟨r, hr, rfl⟩
  obtain ⟨k, -, hk⟩ := zws_at (ad := ad) (cy := cy) h (K := r.1) (j := r.2) hr
  exact hD.2 k _ hk
theorem zcall_ok {L : List (Nat × Nat)} {pre t : List zV} (ho : ∀ v ∈ pre ++ t, zok L v) : (∀ v ∈ pre.reverse ++ [], zok L v) ∧ ∀ v ∈ t, zok L v :=
  ⟨fun v hv => ho v (List.mem_append_left _ (by simpa using hv)), fun v hv => ho v (List.mem_append_right _ hv)⟩
theorem zs_callVi {X : zCtx} {own : String} {cc : ByteArray} {nL pc nx : Nat} {C n idx d : Nat} {cs : zS} {y : MethodName} {bytes : ByteArray} {maxL : Nat} {ret : Option FieldType} (hX : zXok X own cc nL) (hM : zMV own idx C y bytes maxL ret n) (hC : zXc X d cs y (.code y bytes maxL ret)) (hd : decode cc pc = .ok (.invokevirtual idx, 3)) (hn : pc + 3 = nx) : zSo X pc (zo_vir C (n + 1) (zo_calli cs (n + 1) nx)) := by
  intro K ls st h res he hk
  obtain ⟨⟨p, l, e, R, s, m, args, below, meth, c⟩, ⟨D, ad, cy, L, A, H0⟩, ⟨own9, cc9, nL9, Q, cf, sf⟩⟩ := X
  obtain ⟨hx, hb, hml, hown, hts, hK, hD, hcl, hcf, hsf, rfl, rfl, rfl, hR1, hR2, hc1, hc2⟩ := hX
  subst hn
  obtain ⟨hC, hRf, hRl⟩ := hC
  obtain ⟨⟨f1, f2, f3, f4, f5⟩, hmx, htC, ⟨T, N, hcC⟩, hn1, hn2, hn3⟩ := hM
  intro ho hl H locs lsA hP hS hL
  cases hz : zpop (n + 1) [] st with
  | none => unfold zo_vir at he; rw [hz] at he; cases he
  | some at9 =>
    obtain ⟨a, t⟩ := at9
    have he : (Bool.rec (motive := fun _ => Option zRes) none (zo_calli cs (n + 1) (pc + 3) K ls st h) (zrecv C a)) = some res := by unfold zo_vir at he; rw [hz] at he; exact he
    obtain ⟨hrv, he⟩ := zbrec he
    have he : (Bool.rec (motive := fun _ => Option zRes) none (zci (cs a h) (fun r h' => K (pc + 3) ls (.inl r :: t) h')) (Nat.ble (zcat t) 8)) = some res := by unfold zo_calli at he; rw [hz] at he; exact he
    obtain ⟨hcat, he3⟩ := zbrec he
    have hcat := Nat.le_of_ble_eq_true hcat
    obtain ⟨pre, hst, hpl, ha⟩ := zpop_spec _ _ _ _ _ hz
    subst hst
    obtain ⟨hoa, hot⟩ := zcall_ok ho
    rw [← ha] at hoa
    have hcs : ∃ r h2, cs a h = some (some (.inl r), h2) ∧ K (pc + 3) ls (.inl r :: t) h2 = some res := by
      unfold zci at he3
      split at he3
      · rename_i r h2 hcs
        exact ⟨r, h2, hcs, he3⟩
      · cases he3
    obtain ⟨r, h2, hcs, hK2⟩ := hcs
    have hMet := hC a h _ hcs hoa
    match a, hrv, ha, hoa, hMet with
    | .inr (.inr (C0, j)) :: as, hrv, ha, hoa, hMet =>
    have hC0 : C0 = C := Nat.eq_of_beq_eq_true hrv
    subst hC0
    have hq : (C0, j) ∈ L := zmem (zk0 hoa) (by rw [htC]; decide)
    obtain ⟨q0, hq0, hq1⟩ := zws_at (ad := ad) (cy := cy) h hq
    rw [zcon0 htC] at hq1
    have hpre : pre = as.reverse ++ [.inr (.inr (C0, j))] := by have := congrArg List.reverse ha; simp at this; exact this.symm
    have hasl : as.length = n := by have := congrArg List.length hpre; simp [hpl] at this; omega
    have hstk : ((pre ++ t).map (zc ad)) = (as.map (zc ad)).reverse ++ .ref (ad C0 j) :: t.map (zc ad) := by rw [hpre]; simp [zc]
    have hcw : CallW R s args own9 y.cls idx y bytes maxL ret (Cond.code y bytes maxL ret :: zT) (zroom d) 0 0 n := ⟨callB_of n hts (zgood f5) rfl rfl rfl (hts _ f4) (hts _ f1) ⟨hn1, hn2, hn3⟩ ⟨hRf, by omega⟩, hts _ f2, hts _ f3⟩
    have hPV : PreV s H y.cls (ad C0 j) (va_Pc ((.inr (.inr (C0, j)) :: as).map (zc ad)) (zWd D ad cy L h)) (as.map (zc ad)) := ⟨zblind, va_recv hK hP hcC hq1, fun U hU hW => ⟨rfl, by rw [hU]; exact hP, va_K.moved hW.alike hK⟩⟩
    refine va_calli (va_runV (As := as.map (zc ad)) (rest := t.map (zc ad)) (b := ad C0 j) ⟨hx, hb, hml, hown, hts⟩ hMet hcw hPV rfl (by simpa using hasl) hL.1 hstk (lv_room (by rw [zcat_eq]; exact hcat)) hd ⟨hc1 ls, hc2 ls⟩) hS (fun q _ hq2 => zA_of (hD h) q hq2) (fun q hq2 => zA_of (hD h) q hq2) (fun r1 u t1 H1 locs1 ht1 hvm hw hB hz1 hk1 hS1 => ?_)
    have hw : r1 = r := hw
    subst hw
    obtain ⟨hP1, hK1⟩ := hB
    rw [ht1] at hP1
    exact hk _ ls (.inl r1 :: t) h2 hK2 (zk2 trivial hot) hl H1 locs1 lsA hP1 hS1 hL
theorem zs_callSi {X : zCtx} {own : String} {cc : ByteArray} {nL pc nx : Nat} {n idx d : Nat} {cs : zS} {y : MethodName} {bytes : ByteArray} {maxL : Nat} {ret : Option FieldType} (hX : zXok X own cc nL) (hM : zMS own idx y bytes maxL ret n) (hC : zXc X d cs y (.code y bytes maxL ret)) (hd : decode cc pc = .ok (.invokestatic idx, 3)) (hn : pc + 3 = nx) : zSo X pc (zo_calli cs n nx) := by
  intro K ls st h res he hk
  obtain ⟨⟨p, l, e, R, s, m, args, below, meth, c⟩, ⟨D, ad, cy, L, A, H0⟩, ⟨own9, cc9, nL9, Q, cf, sf⟩⟩ := X
  obtain ⟨hx, hb, hml, hown, hts, hK, hD, hcl, hcf, hsf, rfl, rfl, rfl, hR1, hR2, hc1, hc2⟩ := hX
  subst hn
  obtain ⟨hC, hRf, hRl⟩ := hC
  obtain ⟨⟨f1, f2, f4, f5⟩, hmx, hn1, hn2, hn3⟩ := hM
  intro ho hl H locs lsA hP hS hL
  cases hz : zpop n [] st with
  | none => unfold zo_calli at he; rw [hz] at he; cases he
  | some at9 =>
    obtain ⟨a, t⟩ := at9
    have he : (Bool.rec (motive := fun _ => Option zRes) none (zci (cs a h) (fun r h' => K (pc + 3) ls (.inl r :: t) h')) (Nat.ble (zcat t) 8)) = some res := by unfold zo_calli at he; rw [hz] at he; exact he
    obtain ⟨hcat, he3⟩ := zbrec he
    have hcat := Nat.le_of_ble_eq_true hcat
    obtain ⟨pre, hst, hpl, ha⟩ := zpop_spec _ _ _ _ _ hz
    subst hst
    obtain ⟨hoa, hot⟩ := zcall_ok ho
    rw [← ha] at hoa
    have hcs : ∃ r h2, cs a h = some (some (.inl r), h2) ∧ K (pc + 3) ls (.inl r :: t) h2 = some res := by
      unfold zci at he3
      split at he3
      · rename_i r h2 hcs
        exact ⟨r, h2, hcs, he3⟩
      · cases he3
    obtain ⟨r, h2, hcs, hK2⟩ := hcs
    have hMet := hC a h _ hcs hoa
    have hpre : pre = a.reverse := by have := congrArg List.reverse ha; simpa using this.symm
    have hasl : a.length = n := by rw [ha]; simpa using hpl
    have hstk : ((pre ++ t).map (zc ad)) = (a.map (zc ad)).reverse ++ t.map (zc ad) := by rw [hpre]; simp
    have hcw : CallB R s args own9 idx y bytes maxL ret (Cond.code y bytes maxL ret :: zT) (zroom d) 0 0 n ∧ (Cond.static y).before args s = true := ⟨callB_of n hts (zgood f5) rfl rfl rfl (hts _ f4) (hts _ f1) ⟨hn1, hn2, hn3⟩ ⟨hRf, by omega⟩, hts _ f2⟩
    have hPS : PreS s H (va_Pc (a.map (zc ad)) (zWd D ad cy L h)) (a.map (zc ad)) := ⟨zblind, fun U hU hW => ⟨rfl, by rw [hU]; exact hP, va_K.moved hW.alike hK⟩⟩
    refine va_calli (va_runS (As := a.map (zc ad)) (rest := t.map (zc ad)) ⟨hx, hb, hml, hown, hts⟩ hMet hcw hPS rfl (by simpa using hasl) hL.1 hstk (lv_room (by rw [zcat_eq]; exact hcat)) hd ⟨hc1 ls, hc2 ls⟩) hS (fun q _ hq2 => zA_of (hD h) q hq2) (fun q hq2 => zA_of (hD h) q hq2) (fun r1 u t1 H1 locs1 ht1 hvm hw hB hz1 hk1 hS1 => ?_)
    have hw : r1 = r := hw
    subst hw
    obtain ⟨hP1, hK1⟩ := hB
    rw [ht1] at hP1
    exact hk _ ls (.inl r1 :: t) h2 hK2 (zk2 trivial hot) hl H1 locs1 lsA hP1 hS1 hL
theorem zs_callVj {X : zCtx} {own : String} {cc : ByteArray} {nL pc nx : Nat} {C n idx d : Nat} {cs : zS} {y : MethodName} {bytes : ByteArray} {maxL : Nat} {ret : Option FieldType} (hX : zXok X own cc nL) (hM : zMV own idx C y bytes maxL ret n) (hC : zXc X d cs y (.code y bytes maxL ret)) (hd : decode cc pc = .ok (.invokevirtual idx, 3)) (hn : pc + 3 = nx) : zSo X pc (zo_vir C (n + 1) (zo_callj cs (n + 1) nx)) := by
  intro K ls st h res he hk
  obtain ⟨⟨p, l, e, R, s, m, args, below, meth, c⟩, ⟨D, ad, cy, L, A, H0⟩, ⟨own9, cc9, nL9, Q, cf, sf⟩⟩ := X
  obtain ⟨hx, hb, hml, hown, hts, hK, hD, hcl, hcf, hsf, rfl, rfl, rfl, hR1, hR2, hc1, hc2⟩ := hX
  subst hn
  obtain ⟨hC, hRf, hRl⟩ := hC
  obtain ⟨⟨f1, f2, f3, f4, f5⟩, hmx, htC, ⟨T, N, hcC⟩, hn1, hn2, hn3⟩ := hM
  intro ho hl H locs lsA hP hS hL
  cases hz : zpop (n + 1) [] st with
  | none => unfold zo_vir at he; rw [hz] at he; cases he
  | some at9 =>
    obtain ⟨a, t⟩ := at9
    have he : (Bool.rec (motive := fun _ => Option zRes) none (zo_callj cs (n + 1) (pc + 3) K ls st h) (zrecv C a)) = some res := by unfold zo_vir at he; rw [hz] at he; exact he
    obtain ⟨hrv, he⟩ := zbrec he
    have he : (Bool.rec (motive := fun _ => Option zRes) none (zcj (cs a h) (fun r h' => K (pc + 3) ls (.inr (.inl r) :: t) h')) (Nat.ble (zcat t) 8)) = some res := by unfold zo_callj at he; rw [hz] at he; exact he
    obtain ⟨hcat, he3⟩ := zbrec he
    have hcat := Nat.le_of_ble_eq_true hcat
    obtain ⟨pre, hst, hpl, ha⟩ := zpop_spec _ _ _ _ _ hz
    subst hst
    obtain ⟨hoa, hot⟩ := zcall_ok ho
    rw [← ha] at hoa
    have hcs : ∃ r h2, cs a h = some (some (.inr (.inl r)), h2) ∧ K (pc + 3) ls (.inr (.inl r) :: t) h2 = some res := by
      unfold zcj at he3
      split at he3
      · rename_i r h2 hcs
        exact ⟨r, h2, hcs, he3⟩
      · cases he3
    obtain ⟨r, h2, hcs, hK2⟩ := hcs
    have hMet := hC a h _ hcs hoa
    match a, hrv, ha, hoa, hMet with
    | .inr (.inr (C0, j)) :: as, hrv, ha, hoa, hMet =>
    have hC0 : C0 = C := Nat.eq_of_beq_eq_true hrv
    subst hC0
    have hq : (C0, j) ∈ L := zmem (zk0 hoa) (by rw [htC]; decide)
    obtain ⟨q0, hq0, hq1⟩ := zws_at (ad := ad) (cy := cy) h hq
    rw [zcon0 htC] at hq1
    have hpre : pre = as.reverse ++ [.inr (.inr (C0, j))] := by have := congrArg List.reverse ha; simp at this; exact this.symm
    have hasl : as.length = n := by have := congrArg List.length hpre; simp [hpl] at this; omega
    have hstk : ((pre ++ t).map (zc ad)) = (as.map (zc ad)).reverse ++ .ref (ad C0 j) :: t.map (zc ad) := by rw [hpre]; simp [zc]
    have hcw : CallW R s args own9 y.cls idx y bytes maxL ret (Cond.code y bytes maxL ret :: zT) (zroom d) 0 0 n := ⟨callB_of n hts (zgood f5) rfl rfl rfl (hts _ f4) (hts _ f1) ⟨hn1, hn2, hn3⟩ ⟨hRf, by omega⟩, hts _ f2, hts _ f3⟩
    have hPV : PreV s H y.cls (ad C0 j) (va_Pc ((.inr (.inr (C0, j)) :: as).map (zc ad)) (zWd D ad cy L h)) (as.map (zc ad)) := ⟨zblind, va_recv hK hP hcC hq1, fun U hU hW => ⟨rfl, by rw [hU]; exact hP, va_K.moved hW.alike hK⟩⟩
    refine va_calll (va_runV (As := as.map (zc ad)) (rest := t.map (zc ad)) (b := ad C0 j) ⟨hx, hb, hml, hown, hts⟩ hMet hcw hPV rfl (by simpa using hasl) hL.1 hstk (lv_room (by rw [zcat_eq]; exact hcat)) hd ⟨hc1 ls, hc2 ls⟩) hS (fun q _ hq2 => zA_of (hD h) q hq2) (fun q hq2 => zA_of (hD h) q hq2) (fun r1 u t1 H1 locs1 ht1 hvm hw hB hz1 hk1 hS1 => ?_)
    have hw : r1 = r := hw
    subst hw
    obtain ⟨hP1, hK1⟩ := hB
    rw [ht1] at hP1
    exact hk _ ls (.inr (.inl r1) :: t) h2 hK2 (zk2 trivial hot) hl H1 locs1 lsA hP1 hS1 hL
theorem zs_callSj {X : zCtx} {own : String} {cc : ByteArray} {nL pc nx : Nat} {n idx d : Nat} {cs : zS} {y : MethodName} {bytes : ByteArray} {maxL : Nat} {ret : Option FieldType} (hX : zXok X own cc nL) (hM : zMS own idx y bytes maxL ret n) (hC : zXc X d cs y (.code y bytes maxL ret)) (hd : decode cc pc = .ok (.invokestatic idx, 3)) (hn : pc + 3 = nx) : zSo X pc (zo_callj cs n nx) := by
  intro K ls st h res he hk
  obtain ⟨⟨p, l, e, R, s, m, args, below, meth, c⟩, ⟨D, ad, cy, L, A, H0⟩, ⟨own9, cc9, nL9, Q, cf, sf⟩⟩ := X
  obtain ⟨hx, hb, hml, hown, hts, hK, hD, hcl, hcf, hsf, rfl, rfl, rfl, hR1, hR2, hc1, hc2⟩ := hX
  subst hn
  obtain ⟨hC, hRf, hRl⟩ := hC
  obtain ⟨⟨f1, f2, f4, f5⟩, hmx, hn1, hn2, hn3⟩ := hM
  intro ho hl H locs lsA hP hS hL
  cases hz : zpop n [] st with
  | none => unfold zo_callj at he; rw [hz] at he; cases he
  | some at9 =>
    obtain ⟨a, t⟩ := at9
    have he : (Bool.rec (motive := fun _ => Option zRes) none (zcj (cs a h) (fun r h' => K (pc + 3) ls (.inr (.inl r) :: t) h')) (Nat.ble (zcat t) 8)) = some res := by unfold zo_callj at he; rw [hz] at he; exact he
    obtain ⟨hcat, he3⟩ := zbrec he
    have hcat := Nat.le_of_ble_eq_true hcat
    obtain ⟨pre, hst, hpl, ha⟩ := zpop_spec _ _ _ _ _ hz
    subst hst
    obtain ⟨hoa, hot⟩ := zcall_ok ho
    rw [← ha] at hoa
    have hcs : ∃ r h2, cs a h = some (some (.inr (.inl r)), h2) ∧ K (pc + 3) ls (.inr (.inl r) :: t) h2 = some res := by
      unfold zcj at he3
      split at he3
      · rename_i r h2 hcs
        exact ⟨r, h2, hcs, he3⟩
      · cases he3
    obtain ⟨r, h2, hcs, hK2⟩ := hcs
    have hMet := hC a h _ hcs hoa
    have hpre : pre = a.reverse := by have := congrArg List.reverse ha; simpa using this.symm
    have hasl : a.length = n := by rw [ha]; simpa using hpl
    have hstk : ((pre ++ t).map (zc ad)) = (a.map (zc ad)).reverse ++ t.map (zc ad) := by rw [hpre]; simp
    have hcw : CallB R s args own9 idx y bytes maxL ret (Cond.code y bytes maxL ret :: zT) (zroom d) 0 0 n ∧ (Cond.static y).before args s = true := ⟨callB_of n hts (zgood f5) rfl rfl rfl (hts _ f4) (hts _ f1) ⟨hn1, hn2, hn3⟩ ⟨hRf, by omega⟩, hts _ f2⟩
    have hPS : PreS s H (va_Pc (a.map (zc ad)) (zWd D ad cy L h)) (a.map (zc ad)) := ⟨zblind, fun U hU hW => ⟨rfl, by rw [hU]; exact hP, va_K.moved hW.alike hK⟩⟩
    refine va_calll (va_runS (As := a.map (zc ad)) (rest := t.map (zc ad)) ⟨hx, hb, hml, hown, hts⟩ hMet hcw hPS rfl (by simpa using hasl) hL.1 hstk (lv_room (by rw [zcat_eq]; exact hcat)) hd ⟨hc1 ls, hc2 ls⟩) hS (fun q _ hq2 => zA_of (hD h) q hq2) (fun q hq2 => zA_of (hD h) q hq2) (fun r1 u t1 H1 locs1 ht1 hvm hw hB hz1 hk1 hS1 => ?_)
    have hw : r1 = r := hw
    subst hw
    obtain ⟨hP1, hK1⟩ := hB
    rw [ht1] at hP1
    exact hk _ ls (.inr (.inl r1) :: t) h2 hK2 (zk2 trivial hot) hl H1 locs1 lsA hP1 hS1 hL
theorem zs_callVv {X : zCtx} {own : String} {cc : ByteArray} {nL pc nx : Nat} {C n idx d : Nat} {cs : zS} {y : MethodName} {bytes : ByteArray} {maxL : Nat} {ret : Option FieldType} (hX : zXok X own cc nL) (hM : zMV own idx C y bytes maxL ret n) (hC : zXc X d cs y (.code y bytes maxL ret)) (hd : decode cc pc = .ok (.invokevirtual idx, 3)) (hn : pc + 3 = nx) : zSo X pc (zo_vir C (n + 1) (zo_callv cs (n + 1) nx)) := by
  intro K ls st h res he hk
  obtain ⟨⟨p, l, e, R, s, m, args, below, meth, c⟩, ⟨D, ad, cy, L, A, H0⟩, ⟨own9, cc9, nL9, Q, cf, sf⟩⟩ := X
  obtain ⟨hx, hb, hml, hown, hts, hK, hD, hcl, hcf, hsf, rfl, rfl, rfl, hR1, hR2, hc1, hc2⟩ := hX
  subst hn
  obtain ⟨hC, hRf, hRl⟩ := hC
  obtain ⟨⟨f1, f2, f3, f4, f5⟩, hmx, htC, ⟨T, N, hcC⟩, hn1, hn2, hn3⟩ := hM
  intro ho hl H locs lsA hP hS hL
  cases hz : zpop (n + 1) [] st with
  | none => unfold zo_vir at he; rw [hz] at he; cases he
  | some at9 =>
    obtain ⟨a, t⟩ := at9
    have he : (Bool.rec (motive := fun _ => Option zRes) none (zo_callv cs (n + 1) (pc + 3) K ls st h) (zrecv C a)) = some res := by unfold zo_vir at he; rw [hz] at he; exact he
    obtain ⟨hrv, he⟩ := zbrec he
    have he : (Bool.rec (motive := fun _ => Option zRes) none (zcv (cs a h) (fun h' => K (pc + 3) ls t h')) (Nat.ble (zcat t) 8)) = some res := by unfold zo_callv at he; rw [hz] at he; exact he
    obtain ⟨hcat, he3⟩ := zbrec he
    have hcat := Nat.le_of_ble_eq_true hcat
    obtain ⟨pre, hst, hpl, ha⟩ := zpop_spec _ _ _ _ _ hz
    subst hst
    obtain ⟨hoa, hot⟩ := zcall_ok ho
    rw [← ha] at hoa
    have hcs : ∃ h2, cs a h = some (none, h2) ∧ K (pc + 3) ls (t) h2 = some res := by
      unfold zcv at he3
      split at he3
      · rename_i h2 hcs
        exact ⟨h2, hcs, he3⟩
      · cases he3
    obtain ⟨h2, hcs, hK2⟩ := hcs
    have hMet := hC a h _ hcs hoa
    match a, hrv, ha, hoa, hMet with
    | .inr (.inr (C0, j)) :: as, hrv, ha, hoa, hMet =>
    have hC0 : C0 = C := Nat.eq_of_beq_eq_true hrv
    subst hC0
    have hq : (C0, j) ∈ L := zmem (zk0 hoa) (by rw [htC]; decide)
    obtain ⟨q0, hq0, hq1⟩ := zws_at (ad := ad) (cy := cy) h hq
    rw [zcon0 htC] at hq1
    have hpre : pre = as.reverse ++ [.inr (.inr (C0, j))] := by have := congrArg List.reverse ha; simp at this; exact this.symm
    have hasl : as.length = n := by have := congrArg List.length hpre; simp [hpl] at this; omega
    have hstk : ((pre ++ t).map (zc ad)) = (as.map (zc ad)).reverse ++ .ref (ad C0 j) :: t.map (zc ad) := by rw [hpre]; simp [zc]
    have hcw : CallW R s args own9 y.cls idx y bytes maxL ret (Cond.code y bytes maxL ret :: zT) (zroom d) 0 0 n := ⟨callB_of n hts (zgood f5) rfl rfl rfl (hts _ f4) (hts _ f1) ⟨hn1, hn2, hn3⟩ ⟨hRf, by omega⟩, hts _ f2, hts _ f3⟩
    have hPV : PreV s H y.cls (ad C0 j) (va_Pc ((.inr (.inr (C0, j)) :: as).map (zc ad)) (zWd D ad cy L h)) (as.map (zc ad)) := ⟨zblind, va_recv hK hP hcC hq1, fun U hU hW => ⟨rfl, by rw [hU]; exact hP, va_K.moved hW.alike hK⟩⟩
    refine va_callv (va_runV (As := as.map (zc ad)) (rest := t.map (zc ad)) (b := ad C0 j) ⟨hx, hb, hml, hown, hts⟩ hMet hcw hPV rfl (by simpa using hasl) hL.1 hstk (lv_room (by rw [zcat_eq]; exact hcat)) hd ⟨hc1 ls, hc2 ls⟩) hS (fun q _ hq2 => zA_of (hD h) q hq2) (fun q hq2 => zA_of (hD h) q hq2) (fun u t1 H1 locs1 ht1 hvm hw hB hz1 hk1 hS1 => ?_)
    obtain ⟨hP1, hK1⟩ := hB
    rw [ht1] at hP1
    exact hk _ ls (t) h2 hK2 (hot) hl H1 locs1 lsA hP1 hS1 hL
theorem zs_callSv {X : zCtx} {own : String} {cc : ByteArray} {nL pc nx : Nat} {n idx d : Nat} {cs : zS} {y : MethodName} {bytes : ByteArray} {maxL : Nat} {ret : Option FieldType} (hX : zXok X own cc nL) (hM : zMS own idx y bytes maxL ret n) (hC : zXc X d cs y (.code y bytes maxL ret)) (hd : decode cc pc = .ok (.invokestatic idx, 3)) (hn : pc + 3 = nx) : zSo X pc (zo_callv cs n nx) := by
  intro K ls st h res he hk
  obtain ⟨⟨p, l, e, R, s, m, args, below, meth, c⟩, ⟨D, ad, cy, L, A, H0⟩, ⟨own9, cc9, nL9, Q, cf, sf⟩⟩ := X
  obtain ⟨hx, hb, hml, hown, hts, hK, hD, hcl, hcf, hsf, rfl, rfl, rfl, hR1, hR2, hc1, hc2⟩ := hX
  subst hn
  obtain ⟨hC, hRf, hRl⟩ := hC
  obtain ⟨⟨f1, f2, f4, f5⟩, hmx, hn1, hn2, hn3⟩ := hM
  intro ho hl H locs lsA hP hS hL
  cases hz : zpop n [] st with
  | none => unfold zo_callv at he; rw [hz] at he; cases he
  | some at9 =>
    obtain ⟨a, t⟩ := at9
    have he : (Bool.rec (motive := fun _ => Option zRes) none (zcv (cs a h) (fun h' => K (pc + 3) ls t h')) (Nat.ble (zcat t) 8)) = some res := by unfold zo_callv at he; rw [hz] at he; exact he
    obtain ⟨hcat, he3⟩ := zbrec he
    have hcat := Nat.le_of_ble_eq_true hcat
    obtain ⟨pre, hst, hpl, ha⟩ := zpop_spec _ _ _ _ _ hz
    subst hst
    obtain ⟨hoa, hot⟩ := zcall_ok ho
    rw [← ha] at hoa
    have hcs : ∃ h2, cs a h = some (none, h2) ∧ K (pc + 3) ls (t) h2 = some res := by
      unfold zcv at he3
      split at he3
      · rename_i h2 hcs
        exact ⟨h2, hcs, he3⟩
      · cases he3
    obtain ⟨h2, hcs, hK2⟩ := hcs
    have hMet := hC a h _ hcs hoa
    have hpre : pre = a.reverse := by have := congrArg List.reverse ha; simpa using this.symm
    have hasl : a.length = n := by rw [ha]; simpa using hpl
    have hstk : ((pre ++ t).map (zc ad)) = (a.map (zc ad)).reverse ++ t.map (zc ad) := by rw [hpre]; simp
    have hcw : CallB R s args own9 idx y bytes maxL ret (Cond.code y bytes maxL ret :: zT) (zroom d) 0 0 n ∧ (Cond.static y).before args s = true := ⟨callB_of n hts (zgood f5) rfl rfl rfl (hts _ f4) (hts _ f1) ⟨hn1, hn2, hn3⟩ ⟨hRf, by omega⟩, hts _ f2⟩
    have hPS : PreS s H (va_Pc (a.map (zc ad)) (zWd D ad cy L h)) (a.map (zc ad)) := ⟨zblind, fun U hU hW => ⟨rfl, by rw [hU]; exact hP, va_K.moved hW.alike hK⟩⟩
    refine va_callv (va_runS (As := a.map (zc ad)) (rest := t.map (zc ad)) ⟨hx, hb, hml, hown, hts⟩ hMet hcw hPS rfl (by simpa using hasl) hL.1 hstk (lv_room (by rw [zcat_eq]; exact hcat)) hd ⟨hc1 ls, hc2 ls⟩) hS (fun q _ hq2 => zA_of (hD h) q hq2) (fun q hq2 => zA_of (hD h) q hq2) (fun u t1 H1 locs1 ht1 hvm hw hB hz1 hk1 hS1 => ?_)
    obtain ⟨hP1, hK1⟩ := hB
    rw [ht1] at hP1
    exact hk _ ls (t) h2 hK2 (hot) hl H1 locs1 lsA hP1 hS1 hL
/-! returns, and a method's contract -/
def zRt (X : zCtx) (ret : Option FieldType) : Prop := match X with
  | ((_, _, _, _, s, _, args, below, meth, _), (D, ad, cy, L, A, H0), (_, _, _, Q, cf, sf)) => meth.sig.returnType = ret ∧ meth.locks = false ∧ (∀ res, Q res = MQ below (zQc D ad cy L res) args s 0 0 (zA ad L)) ∧ (∀ ls, cf ls = 0) ∧ (∀ ls, sf ls = 0) ∧ A = zA ad L ∧ H0 = s.heap

theorem zs_zretc {X : zCtx} {own : String} {cc : ByteArray} {nL pc : Nat} (hX : zXok X own cc nL) (hr : zRt X (some .boolean)) (hd : decode cc pc = .ok (.ireturn, 1)) : zSo X pc zo_zretc := by
  intro K ls st h res he hk
  obtain ⟨⟨p, l, e, R, s, m, args, below, meth, c⟩, ⟨D, ad, cy, L, A, H0⟩, ⟨own9, cc9, nL9, Q, cf, sf⟩⟩ := X
  obtain ⟨hx, hb, hml, hown, hts, hK, hD, hcl, hcf, hsf, rfl, rfl, rfl, hR1, hR2, hc1, hc2⟩ := hX
  obtain ⟨hr, hlocks, hQ, hcf0, hsf0, rfl, rfl⟩ := hr
  match st, he with
  | [.inl x], he =>
    intro ho hl H locs lsA hP hS hL
    obtain ⟨h01, he⟩ := zbrec he
    have hnar : narrow .boolean (.int x) = .int x := by
      simp only [z01, Bool.or_eq_true, decide_eq_true_eq] at h01
      rcases h01 with rfl | rfl <;> decide +kernel
    have he := Option.some.inj he
    subst he
    rw [hQ, hcf0, hsf0]
    exact W.zret hx hb hr hnar (fun t ht hw => ⟨⟨x, (), rfl, rfl, by rw [ht]; exact hP, va_K.moved hw.alike hK⟩, hS.F ht⟩) hS.2.2 hd hlocks
theorem zs_iret {X : zCtx} {own : String} {cc : ByteArray} {nL pc : Nat} (hX : zXok X own cc nL) (hr : zRt X (some .int)) (hd : decode cc pc = .ok (.ireturn, 1)) : zSo X pc zo_iret := by
  intro K ls st h res he hk
  obtain ⟨⟨p, l, e, R, s, m, args, below, meth, c⟩, ⟨D, ad, cy, L, A, H0⟩, ⟨own9, cc9, nL9, Q, cf, sf⟩⟩ := X
  obtain ⟨hx, hb, hml, hown, hts, hK, hD, hcl, hcf, hsf, rfl, rfl, rfl, hR1, hR2, hc1, hc2⟩ := hX
  obtain ⟨hr, hlocks, hQ, hcf0, hsf0, rfl, rfl⟩ := hr
  match st, he with
  | [.inl x], he =>
    intro ho hl H locs lsA hP hS hL
    have he := Option.some.inj he
    subst he
    rw [hQ, hcf0, hsf0]
    exact W.iret hx hb hr (fun t ht hw => ⟨⟨x, (), rfl, rfl, by rw [ht]; exact hP, va_K.moved hw.alike hK⟩, hS.F ht⟩) hS.2.2 hd hlocks
theorem zs_zret {X : zCtx} {own : String} {cc : ByteArray} {nL pc : Nat} (hX : zXok X own cc nL) (hr : zRt X (some .boolean)) (hd : decode cc pc = .ok (.ireturn, 1)) : zSo X pc zo_zret := by
  intro K ls st h res he hk
  obtain ⟨⟨p, l, e, R, s, m, args, below, meth, c⟩, ⟨D, ad, cy, L, A, H0⟩, ⟨own9, cc9, nL9, Q, cf, sf⟩⟩ := X
  obtain ⟨hx, hb, hml, hown, hts, hK, hD, hcl, hcf, hsf, rfl, rfl, rfl, hR1, hR2, hc1, hc2⟩ := hX
  obtain ⟨hr, hlocks, hQ, hcf0, hsf0, rfl, rfl⟩ := hr
  match st, he with
  | [.inl x], he =>
    intro ho hl H locs lsA hP hS hL
    obtain ⟨h01, he⟩ := zfel he
    have hnar : narrow .boolean (.int x) = .int x := by
      rcases h01 with rfl | rfl <;> decide +kernel
    have he := Option.some.inj he
    subst he
    rw [hQ, hcf0, hsf0]
    exact W.zret hx hb hr hnar (fun t ht hw => ⟨⟨x, (), rfl, rfl, by rw [ht]; exact hP, va_K.moved hw.alike hK⟩, hS.F ht⟩) hS.2.2 hd hlocks
theorem zs_lret {X : zCtx} {own : String} {cc : ByteArray} {nL pc : Nat} (hX : zXok X own cc nL) (hr : zRt X (some .long)) (hd : decode cc pc = .ok (.lreturn, 1)) : zSo X pc zo_lret := by
  intro K ls st h res he hk
  obtain ⟨⟨p, l, e, R, s, m, args, below, meth, c⟩, ⟨D, ad, cy, L, A, H0⟩, ⟨own9, cc9, nL9, Q, cf, sf⟩⟩ := X
  obtain ⟨hx, hb, hml, hown, hts, hK, hD, hcl, hcf, hsf, rfl, rfl, rfl, hR1, hR2, hc1, hc2⟩ := hX
  obtain ⟨hr, hlocks, hQ, hcf0, hsf0, rfl, rfl⟩ := hr
  match st, he with
  | [.inr (.inl x)], he =>
    intro ho hl H locs lsA hP hS hL
    have he := Option.some.inj he
    subst he
    rw [hQ, hcf0, hsf0]
    exact W.lret hx hb hr (fun t ht hw => ⟨⟨x, (), rfl, rfl, by rw [ht]; exact hP, va_K.moved hw.alike hK⟩, hS.F ht⟩) hS.2.2 hd hlocks
theorem zs_ret {X : zCtx} {own : String} {cc : ByteArray} {nL pc : Nat} (hX : zXok X own cc nL) (hr : zRt X none) (hd : decode cc pc = .ok (.return_, 1)) : zSo X pc zo_ret := by
  intro K ls st h res he hk
  obtain ⟨⟨p, l, e, R, s, m, args, below, meth, c⟩, ⟨D, ad, cy, L, A, H0⟩, ⟨own9, cc9, nL9, Q, cf, sf⟩⟩ := X
  obtain ⟨hx, hb, hml, hown, hts, hK, hD, hcl, hcf, hsf, rfl, rfl, rfl, hR1, hR2, hc1, hc2⟩ := hX
  obtain ⟨hr, hlocks, hQ, hcf0, hsf0, rfl, rfl⟩ := hr
  match st, he with
  | [], he =>
    intro ho hl H locs lsA hP hS hL
    have he := Option.some.inj he
    subst he
    rw [hQ, hcf0, hsf0]
    exact W.vret hx hb hr (fun t ht hw => ⟨⟨(), rfl, trivial, by rw [ht]; exact hP, va_K.moved hw.alike hK⟩, hS.F ht⟩) hS.2.2 hd hlocks
