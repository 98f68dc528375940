/-! SoapTreaty.rests returns or throws; the law's rests catches it: their contracts. -/
def zE9 : String := "java/util/NoSuchElementException"
def zNx9 : List String := ["java/lang/RuntimeException", "java/lang/Exception"]
def zroomX : Room := { frames := 40, cells := 1, slots := 6, locals := 3000 }
def zQcx (D : va_G) (ad : Nat → Nat → Nat) (cy : Nat → ClassId) (L : List (Nat × Nat)) (res : zRes) : Array Value → State → Outcome → State → Prop := va_Qi (S := Unit) (fun r _ => res.1 = some (.inl r)) (fun _ t => zWd D ad cy L res.2 t) (zA ad L)
def zXCx (D : va_G) (ad : Nat → Nat → Nat) (cy : Nat → ClassId) (L : List (Nat × Nat)) (res : zRes) : String → State → State → Prop := vx_X (S := Unit) (fun _ => ∃ q, res.1 = some (.inr (.inr q))) (fun E _ t => E = zE9 ∧ zWd D ad cy L res.2 t) (zA ad L)
/-- words that a warmer machine keeps, though no row says so -/
def zB9 : List Cond := [.declares (Bundle.init0 "java/lang/RuntimeException"), .declares (Bundle.init0 "java/lang/Exception"), .declares (Bundle.init0 Bundle.tN), .castable zE9 zE9]
def zNw9 (U : State) : Prop := ∀ w ∈ zB9, w.before #[] U = true
theorem zNw9.moved {u U : State} (hvm : u.vm.Alike U.vm) (h : zNw9 u) : zNw9 U := by
  intro w hw
  have h1 := h w hw
  simp only [zB9, List.mem_cons, List.not_mem_nil, or_false] at hw
  rcases hw with rfl | rfl | rfl | rfl
  · exact va_tabs rfl (rfl : (u.setVm U.vm).vm = U.vm) (by rw [Cond.declares_setVm hvm]; exact h1)
  · exact va_tabs rfl (rfl : (u.setVm U.vm).vm = U.vm) (by rw [Cond.declares_setVm hvm]; exact h1)
  · exact va_tabs rfl (rfl : (u.setVm U.vm).vm = U.vm) (by rw [Cond.declares_setVm hvm]; exact h1)
  · exact va_tabs rfl (rfl : (u.setVm U.vm).vm = U.vm) (by rw [Cond.castable_setVm hvm]; exact h1)
theorem zB9_t : ∀ w ∈ zB9, w.onTables = true := by decide +kernel
theorem zNw9.use {s : State} {args : Array Value} (h : zNw9 s) : ∀ w ∈ zB9, w.before args s = true := fun w hw => va_tabs (zB9_t w hw) rfl (h w hw)
/-- what Throwable's statics hold -/
def zZ9 (ad : Nat → Nat → Nat) (L : List (Nat × Nat)) (U : State) : Prop := vx_Zq Bundle.tN "UNASSIGNED_STACK" Bundle.steD (zA ad L) U U.heap ∧ vx_Zq Bundle.tN "SUPPRESSED_SENTINEL" Bundle.listD (zA ad L) U U.heap ∧ zNw9 U
def zRx (X : zCtx) : Prop := match X with
  | ((_, l, _, R, s, _, args, below, meth, c), (D, ad, cy, L, A, H0), (_, _, _, Q, cf, sf)) => meth.sig.returnType = some .int ∧ meth.locks = false ∧ (∀ res, Q res = vx_MQ below (zQcx D ad cy L res) (zXCx D ad cy L res) args s 1 6 (zA ad L)) ∧ (∀ ls, cf ls = 0) ∧ (∀ ls, sf ls = 0) ∧ A = zA ad L ∧ H0 = s.heap ∧ l.stackTraces = false ∧ (∀ x ∈ c.exceptionTable.toList, False) ∧ zZ9 ad L s ∧ R = zroomX
theorem zw_at0 : ∀ w ∈ (vx_at0 "SoapTreaty" 268 zE9 zNx9).filter goodWord, w ∈ zT := by
  have h1 : ∀ w ∈ vx_at0 "SoapTreaty" 268 zE9 zNx9, w ∈ lw_tbl := by decide +kernel
  exact fun w hw => List.mem_filter.mpr ⟨h1 w (List.mem_filter.mp hw).1, (List.mem_filter.mp hw).2⟩
theorem zw_at1 : ∀ w ∈ (vx_at0 "SoapTreaty" 268 zE9 zNx9).filter (fun w => !goodWord w), w ∈ zB9 := by decide +kernel
theorem zw_cl9 : Cond.classLink "SoapTreaty" 266 zE9 ∈ zT := by
  have h1 : Cond.classLink "SoapTreaty" 266 zE9 ∈ lw_tbl := by decide +kernel
  exact List.mem_filter.mpr ⟨h1, by decide +kernel⟩
theorem zw_in9 : Cond.initialized zE9 ∈ zT := by
  have h1 : Cond.initialized zE9 ∈ lw_tbl := by decide +kernel
  exact List.mem_filter.mpr ⟨h1, by decide +kernel⟩
theorem zs_iretx {X : zCtx} {own : String} {cc : ByteArray} {nL pc : Nat} (hX : zXok X own cc nL) (hr : zRx X) (hd : decode cc pc = .ok (.ireturn, 1)) : zSo X pc zo_iret := by
  intro K ls st h res he hk
  obtain ⟨⟨p, l, e, R, s, m, args, below, meth, c⟩, ⟨D, ad, cy, L, A, H0⟩, ⟨own9, cc9, nL9, Q, cf, sf⟩⟩ := X
  obtain ⟨hx, hb, hml, hown, hts, hK, hD, hcl, hcf, hsf, rfl, rfl, rfl, hR1, hR2, hc1, hc2⟩ := hX
  obtain ⟨hr, hlocks, hQ, hcf0, hsf0, rfl, rfl, -, -, -, -⟩ := hr
  match st, he with
  | [.inl x], he =>
    intro ho hl H locs lsA hP hS hL
    have he := Option.some.inj he
    subst he
    rw [hQ, hcf0, hsf0]
    refine vx_ret (W.widen (k := 1) (n := 6) (by omega) (by omega) ?_)
    exact W.iret hx hb hr (fun t ht hw => ⟨⟨x, (), rfl, rfl, by rw [ht]; exact hP, va_K.moved hw.alike hK⟩, hS.F ht⟩) hS.2.2 hd hlocks
theorem zs_throw {X : zCtx} {nL pc : Nat} {cc : ByteArray} (hX : zXok X "SoapTreaty" cc nL) (hr : zRx X) (d0 : decode cc pc = .ok (.new 266, 3)) (d3 : decode cc (pc + 3) = .ok (.dup, 1)) (d4 : decode cc (pc + 4) = .ok (.invokespecial 268, 3)) (d7 : decode cc (pc + 7) = .ok (.athrow, 1)) : zSo X pc zo_throw := by
  intro K ls st h res he hk
  obtain ⟨⟨p, l, e, R, s, m, args, below, meth, c⟩, ⟨D, ad, cy, L, A, H0⟩, ⟨own9, cc9, nL9, Q, cf, sf⟩⟩ := X
  obtain ⟨hx, hb, hml, hown, hts, hK, hD, hcl, hcf, hsf, rfl, rfl, rfl, hR1, hR2, hc1, hc2⟩ := hX
  obtain ⟨hr, hlocks, hQ, hcf0, hsf0, rfl, rfl, hst, htab, ⟨hU, hN, hB9⟩, rfl⟩ := hr
  match st, he with
  | [], he =>
    intro ho hl H locs lsA hP hS hL
    have he := Option.some.inj he
    subst he
    rw [hQ, hcf0, hsf0]
    refine vx_throw0 (names := zNx9) hx hb hst hown (by decide +kernel) (by decide +kernel) (hts _ zw_cl9) (hts _ zw_in9) (vx_hat (fun w hw => hts w (zw_at0 w hw)) zw_at1 hB9.use) (by decide +kernel) hU hN hS (hL.1.trans hml.symm) d0 d3 d4 d7 (fun x hx9 => (htab x hx9).elim) (by decide) (show (0 : Nat) + (13 * (zNx9.length + 1) + 42) ≤ zroomX.locals by decide) (by decide) (by decide) hlocks (fun t hal hsz hkeep => ?_) hS.2.2 (by decide) (by decide)
    refine ⟨(), ⟨_, rfl⟩, ⟨rfl, fun k q hq => (hP k q hq).kept (hkeep q.1 (hP k q hq).lt), va_K.moved hal hK⟩, Nat.le_trans hS.1 hsz, fun q h1 h2 => ?_⟩
    rw [hkeep q (Nat.lt_of_lt_of_le h1 hS.1)]
    exact hS.2.1 q h1 h2
theorem zXc_x {X : zCtx} {l : Launch} {D : va_G} {ad : Nat → Nat → Nat} {cy : Nat → ClassId} {L : List (Nat × Nat)} {d' : Nat} {cs : zS} {y : MethodName} {w0 : Cond} (hX : zXl X l D ad cy L zroomX) (hd : d' < 10) (hC : zCk l D ad cy L d' cs y w0) : zXc X d' cs y w0 := by
  obtain ⟨⟨p, l9, e, R, s, m, args, below, meth, c⟩, ⟨D9, ad9, cy9, L9, A, H0⟩, ⟨own9, cc9, nL9, Q, cf, sf⟩⟩ := X
  obtain ⟨rfl, rfl, rfl, rfl, rfl, rfl⟩ := hX
  exact ⟨hC, by simp only [zroom, zroomX]; omega, by simp only [zroom, zroomX]; omega⟩
set_option maxRecDepth 20000 in
theorem s_X11_rests_0 {l : Launch} {D : va_G} {ad : Nat → Nat → Nat} {cy : Nat → ClassId} {L : List (Nat × Nat)} (hcl : zclo L = true) (hinj : zAd ad L) {X : zCtx} (hX : zXok X "SoapTreaty" prog_1_method_30_code 7) (hR : zRx X) (hl : zXl X l D ad cy L zroomX) : zAllR (zSo X) p_X11_rests_0 := ⟨zs_iload_n (i := 1) rfl hX (by decide +kernel : decode prog_1_method_30_code 0 = .ok (.iload_n 1, 1)) rfl (by decide),
  zs_callSi hX zMS_11_263 (zXc_x hl (by decide) (k_X11_isStake hcl hinj)) (by decide +kernel : decode prog_1_method_30_code 1 = .ok (.invokestatic 263, 3)) rfl,
  zs_0eq hX (by decide +kernel : decode prog_1_method_30_code 4 = .ok (.ifCond .eq 17, 3)) (by decide) rfl,
  zs_iload_n (i := 2) rfl hX (by decide +kernel : decode prog_1_method_30_code 7 = .ok (.iload_n 2, 1)) rfl (by decide),
  zs_callSi hX zMS_11_263 (zXc_x hl (by decide) (k_X11_isStake hcl hinj)) (by decide +kernel : decode prog_1_method_30_code 8 = .ok (.invokestatic 263, 3)) rfl,
  zs_0eq hX (by decide +kernel : decode prog_1_method_30_code 11 = .ok (.ifCond .eq 10, 3)) (by decide) rfl,
  zs_iload_n (i := 3) rfl hX (by decide +kernel : decode prog_1_method_30_code 14 = .ok (.iload_n 3, 1)) rfl (by decide),
  zs_callSi hX zMS_11_263 (zXc_x hl (by decide) (k_X11_isStake hcl hinj)) (by decide +kernel : decode prog_1_method_30_code 15 = .ok (.invokestatic 263, 3)) rfl,
  zs_0ne hX (by decide +kernel : decode prog_1_method_30_code 18 = .ok (.ifCond .ne 11, 3)) (by decide) rfl,
  zs_throw hX hR (by decide +kernel : decode prog_1_method_30_code 21 = .ok (.new 266, 3)) (by decide +kernel : decode prog_1_method_30_code (21 + 3) = .ok (.dup, 1)) (by decide +kernel : decode prog_1_method_30_code (21 + 4) = .ok (.invokespecial 268, 3)) (by decide +kernel : decode prog_1_method_30_code (21 + 7) = .ok (.athrow, 1)),
  zs_pushI (zg_iconst (by decide) hX (by decide +kernel : decode prog_1_method_30_code 29 = .ok (.iconst 0, 1)) rfl),
  zs_istore hX (by decide +kernel : decode prog_1_method_30_code 30 = .ok (.istore 5, 2)) rfl (by decide),
  zs_pushI (zg_iconst (by decide) hX (by decide +kernel : decode prog_1_method_30_code 32 = .ok (.iconst 0, 1)) rfl),
  zs_istore hX (by decide +kernel : decode prog_1_method_30_code 33 = .ok (.istore 6, 2)) rfl (by decide),
  zs_kill hX (by decide) (zs_iload hX (by decide +kernel : decode prog_1_method_30_code 35 = .ok (.iload 6, 2)) rfl (by decide)),
  zs_pushI (zg_iconst (by decide) hX (by decide +kernel : decode prog_1_method_30_code 37 = .ok (.iconst 4, 1)) rfl),
  zs_cge hX (by decide +kernel : decode prog_1_method_30_code 38 = .ok (.if_icmp .ge 33, 3)) (by decide) rfl,
  zs_iload_n (i := 1) rfl hX (by decide +kernel : decode prog_1_method_30_code 41 = .ok (.iload_n 1, 1)) rfl (by decide),
  zs_iload_n (i := 2) rfl hX (by decide +kernel : decode prog_1_method_30_code 42 = .ok (.iload_n 2, 1)) rfl (by decide),
  zs_iload_n (i := 3) rfl hX (by decide +kernel : decode prog_1_method_30_code 43 = .ok (.iload_n 3, 1)) rfl (by decide), trivial⟩
set_option maxRecDepth 20000 in
theorem s_X11_rests_1 {l : Launch} {D : va_G} {ad : Nat → Nat → Nat} {cy : Nat → ClassId} {L : List (Nat × Nat)} (hcl : zclo L = true) (hinj : zAd ad L) {X : zCtx} (hX : zXok X "SoapTreaty" prog_1_method_30_code 7) (hR : zRx X) (hl : zXl X l D ad cy L zroomX) : zAllR (zSo X) p_X11_rests_1 := ⟨zs_iload hX (by decide +kernel : decode prog_1_method_30_code 44 = .ok (.iload 6, 2)) rfl (by decide),
  zs_callSi hX zMS_11_269 (zXc_x hl (by decide) (k_X11_isAtRest hcl hinj)) (by decide +kernel : decode prog_1_method_30_code 46 = .ok (.invokestatic 269, 3)) rfl,
  zs_0eq hX (by decide +kernel : decode prog_1_method_30_code 49 = .ok (.ifCond .eq 16, 3)) (by decide) rfl,
  zs_iload hX (by decide +kernel : decode prog_1_method_30_code 52 = .ok (.iload 5, 2)) rfl (by decide),
  zs_iload hX (by decide +kernel : decode prog_1_method_30_code 54 = .ok (.iload 4, 2)) rfl (by decide),
  zs_cne hX (by decide +kernel : decode prog_1_method_30_code 56 = .ok (.if_icmp .ne 6, 3)) (by decide) rfl,
  zs_iload hX (by decide +kernel : decode prog_1_method_30_code 59 = .ok (.iload 6, 2)) rfl (by decide),
  zs_iretx hX hR (by decide +kernel : decode prog_1_method_30_code 61 = .ok (.ireturn, 1)),
  zs_iinc hX (by decide +kernel : decode prog_1_method_30_code 62 = .ok (.iinc 5 1, 3)) (by decide) rfl (by decide),
  zs_iinc hX (by decide +kernel : decode prog_1_method_30_code 65 = .ok (.iinc 6 1, 3)) (by decide) rfl (by decide),
  zs_goto hX (by decide +kernel : decode prog_1_method_30_code 68 = .ok (.goto (-33), 3)) (by decide),
  zs_iload hX (by decide +kernel : decode prog_1_method_30_code 71 = .ok (.iload 4, 2)) rfl (by decide),
  zs_pushI (zg_iconst (by decide) hX (by decide +kernel : decode prog_1_method_30_code 73 = .ok (.iconst (-1), 1)) rfl),
  zs_ceq hX (by decide +kernel : decode prog_1_method_30_code 74 = .ok (.if_icmp .eq 11, 3)) (by decide) rfl,
  zs_throw hX hR (by decide +kernel : decode prog_1_method_30_code 77 = .ok (.new 266, 3)) (by decide +kernel : decode prog_1_method_30_code (77 + 3) = .ok (.dup, 1)) (by decide +kernel : decode prog_1_method_30_code (77 + 4) = .ok (.invokespecial 268, 3)) (by decide +kernel : decode prog_1_method_30_code (77 + 7) = .ok (.athrow, 1)),
  zs_iload hX (by decide +kernel : decode prog_1_method_30_code 85 = .ok (.iload 5, 2)) rfl (by decide),
  zs_iretx hX hR (by decide +kernel : decode prog_1_method_30_code 87 = .ok (.ireturn, 1)), trivial⟩
/-- what rests' contract starts from -/
def zPx (D : va_G) (ad : Nat → Nat → Nat) (cy : Nat → ClassId) (L : List (Nat × Nat)) (h : zH) (U : State) : Prop := zWd D ad cy L h U ∧ zZ9 ad L U
theorem k_X11_rests {l : Launch} {D : va_G} {ad : Nat → Nat → Nat} {cy : Nat → ClassId} {L : List (Nat × Nat)} (hst : l.stackTraces = false) (hcl : zclo L = true) (hinj : zAd ad L) {a : List zV} {h : zH} {res : zRes} (hE : f_X11_rests a h = some res) (hok : ∀ v ∈ a, zok L v) :
    vx_Met l y_X11_rests (.code y_X11_rests prog_1_method_30_code 7 (some .int) :: zT) zroomX (va_Pc (a.map (zc ad)) (zPx D ad cy L h)) (zQcx D ad cy L res) (zXCx D ad cy L res) 1 6 (zA ad L) := by
  obtain ⟨hlen, hE⟩ := zbif (show (bif Nat.ble (zar a).length 7 then zL p_X11_rests 0 (zent 7 a) [] h else none) = some res from hE)
  have hlen := Nat.le_of_ble_eq_true hlen
  obtain ⟨n, hn⟩ := (zL_iff t_X11_rests).mp hE
  refine vx_ofW (cc := prog_1_method_30_code) (maxL := 7) (ret := some .int) (by decide) rfl ?_
  intro p e s m args below meth c s₁ B hml htab hv
  obtain ⟨rfl, ⟨hP0, hK⟩, hZ⟩ := hv
  have hts := atoms_spec (ws := Cond.code y_X11_rests prog_1_method_30_code 7 (some .int) :: zT) B.pre
  have hown : s.vm.findClass "SoapTreaty" = some m.cls := findClass_of_methodNamed B.named
  have hl := lv_entry (a.map (zc ad)) (n := 7) (by rw [zar_len]; exact hlen)
  rw [lg_entry_eq]
  generalize (lg_sl (a.map (zc ad)) ++ List.replicate (7 - (lg_sl (a.map (zc ad))).length) Slot.unset).toArray = lsA at hl ⊢
  let X : zCtx := ((p, l, e, zroomX, s, m, (a.map (zc ad)).toArray, below, meth, c), (D, ad, cy, L, zA ad L, s.heap), ("SoapTreaty", prog_1_method_30_code, 7, fun res => vx_MQ below (zQcx D ad cy L res) (zXCx D ad cy L res) (a.map (zc ad)).toArray s 1 6 (zA ad L), fun _ => 0, fun _ => 0))
  have hX : zXok X "SoapTreaty" prog_1_method_30_code 7 := ⟨B.exec, B.bytes, hml, hown, fun w hw => hts w (List.mem_cons_of_mem _ hw), hK, zD_of (zclo.nodup hcl) hinj, hcl, fun _ _ _ _ => rfl, fun _ _ _ _ => rfl, rfl, rfl, rfl, by decide, by decide, fun _ => Nat.zero_le _, fun _ => Nat.zero_le _⟩
  have hR : zRx X := ⟨B.returns, B.notSynchronized, fun _ => rfl, fun _ => rfl, fun _ => rfl, rfl, rfl, hst, htab, hZ, rfl⟩
  have hl9 : zXl X l D ad cy L zroomX := ⟨rfl, rfl, rfl, rfl, rfl, rfl⟩
  have hW := z_run (X := X) (fun k => zgs_all (Q := zSo X) (c := [(44, p_X11_rests_0), (88, p_X11_rests_1)]) (fun _ => zs_bad) ⟨s_X11_rests_0 hcl hinj hX hR hl9, s_X11_rests_1 hcl hinj hX hR hl9, trivial⟩ k) n 0 (zent 7 a) [] h res hn
  exact hW (fun v hv => by cases hv) (fun i v hv => hok v (zar_mem (ad := ad) a 0 i v (zg_pad _ _ _ _ hv)).1) s.heap [] lsA hP0 va_S.rf ⟨hl.1, hl.2.1, fun i v _ hv => by
    have := (zar_mem (ad := ad) a 0 i v (zg_pad _ _ _ _ hv)).2
    rw [Nat.zero_add] at this
    exact hl.2.2 _ this⟩
