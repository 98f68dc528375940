/-! The law's call of its rests. -/
def zXz (X : zCtx) : Prop := match X with
  | ((_, l, _, R, s, _, _, _, _, _), (_, ad, _, L, A, H0), (_, _, _, _, cf, sf)) => l.stackTraces = false ∧ vx_Zq Bundle.tN "UNASSIGNED_STACK" Bundle.steD A s H0 ∧ vx_Zq Bundle.tN "SUPPRESSED_SENTINEL" Bundle.listD A s H0 ∧ zNw9 s ∧ R = room_1 ∧ (∃ c0 s0 : Nat, c0 ≤ 600000 ∧ s0 ≤ 7000000 ∧ cf = (fun ls => c0 + zcn ls) ∧ sf = (fun ls => s0 + 6 * zcn ls)) ∧ zAd ad L
theorem zw_r1 : Cond.methodLink "SoapTreatyLaw" 142 y_Lrests ∈ zT := by
  have h1 : Cond.methodLink "SoapTreatyLaw" 142 y_Lrests ∈ lw_tbl := by decide +kernel
  exact List.mem_filter.mpr ⟨h1, by decide +kernel⟩
theorem zw_r2 : Cond.static y_Lrests ∈ zT := by
  have h1 : Cond.static y_Lrests ∈ lw_tbl := by decide +kernel
  exact List.mem_filter.mpr ⟨h1, by decide +kernel⟩
theorem zw_r3 : Cond.initialized y_Lrests.cls ∈ zT := by
  have h1 : Cond.initialized y_Lrests.cls ∈ lw_tbl := by decide +kernel
  exact List.mem_filter.mpr ⟨h1, by decide +kernel⟩
theorem zw_r4 : GoodIn zT (va_wsS "SoapTreatyLaw" 142 y_Lrests (Cond.codeWith y_Lrests method_3_code 7 (some .int) [(0, 14, 17, 13)] :: zT)) := by
  intro w hw
  have h1 : w ∈ zT := by
    unfold va_wsS at hw
    rcases List.mem_append.mp hw with h | h
    · simp only [List.mem_cons, List.not_mem_nil, or_false] at h
      rcases h with rfl | rfl | rfl
      · exact zw_r1
      · exact zw_r2
      · exact zw_r3
    · rcases List.mem_cons.mp h with rfl | h2
      · exact zw_cw
      · exact h2
  exact ⟨h1, good_of_word (List.mem_filter.mp h1).2⟩
theorem zcn_up {ls : zLo} {b : Int32} (h : zg ls 7 = some (.inl b)) (hb : b < 600 ∧ ¬ b < 0) : zcn (zs ls 7 (some (.inl (b + 1)))) = zcn ls + 1 ∧ zcn ls < 600 := by
  obtain ⟨n, hn, rfl⟩ := nI_have (n := 600) hb.2 hb.1 (by omega)
  have e1 : zcn ls = n := by
    unfold zcn; rw [h]
    show min (nI n).toNatClampNeg 600 = n
    rw [nI_clamp (by omega)]; omega
  have hg : ∀ (l2 : zLo) (i : Nat) (v w : zV), zg l2 i = some v → zg (zs l2 i (some w)) i = some w := by
    intro l2
    induction l2 with
    | nil => intro i v w h; cases h
    | cons a t ih =>
      intro i v w h
      cases i with
      | zero => rfl
      | succ i => exact ih i v w h
  have e2 : zcn (zs ls 7 (some (.inl (nI n + 1)))) = n + 1 := by
    unfold zcn; rw [hg ls 7 _ _ h]
    show min (nI n + 1).toNatClampNeg 600 = n + 1
    rw [nI_1, nI_clamp (by omega)]; omega
  rw [e1, e2]; exact ⟨rfl, hn⟩
theorem zg_s7 {ls : zLo} {i : Nat} {o : Option zV} {v : zV} (h : zg (zs ls 7 o) i = some v) : (i = 7 ∧ o = some v) ∨ zg ls i = some v := by
  by_cases e : i = 7
  · subst e; exact Or.inl ⟨rfl, zg_self h⟩
  · rw [zg_ne e] at h; exact Or.inr h
theorem zXr_of {X : zCtx} (hX : zXok X "SoapTreatyLaw" code 7) (hZ : zXz X) : zXr X := by
  intro pc nx hd hn K ls st h res he hk
  obtain ⟨⟨p, l, e, R, s, m, args, below, meth, c⟩, ⟨D, ad, cy, L, A, H0⟩, ⟨own9, cc9, nL9, Q, cf, sf⟩⟩ := X
  obtain ⟨hx, hb, hml, hown, hts, hK, hD, hcl, hcf, hsf, rfl, rfl, rfl, hR1, hR2, hc1, hc2⟩ := hX
  obtain ⟨hst, hU, hN, hB9, rfl, ⟨c0, s0, hc0, hs0, rfl, rfl⟩, hinj⟩ := hZ
  subst hn
  intro ho hl H locs lsA hP hS hL
  cases hz : zpop 6 [] st with
  | none => unfold zo_callr at he; rw [hz] at he; cases he
  | some at9 =>
    obtain ⟨a, t⟩ := at9
    cases hg7 : zg ls 7 with
    | none => unfold zo_callr at he; rw [hz, hg7] at he; cases he
    | some v7 =>
    match v7, hg7 with
    | .inr x, hg7 => unfold zo_callr at he; rw [hz, hg7] at he; cases he
    | .inl b, hg7 =>
    have he : (Bool.rec (motive := fun _ => Option zRes) none (zf (b < 600 ∧ ¬ b < 0) (zci (f_Lrests a h) (fun r h' => K (pc + 3) (zs ls 7 (some (.inl (b + 1)))) (.inl r :: t) h')) none) (Nat.ble (zcat t) 8)) = some res := by unfold zo_callr at he; rw [hz, hg7] at he; exact he
    obtain ⟨hcat, he3⟩ := zbrec he
    have hcat := Nat.le_of_ble_eq_true hcat
    obtain ⟨hb7, he3⟩ := zfel he3
    obtain ⟨hu1, hu2⟩ := zcn_up hg7 hb7
    obtain ⟨pre, hst9, hpl, ha⟩ := zpop_spec _ _ _ _ _ hz
    subst hst9
    obtain ⟨hoa, hot⟩ := zcall_ok ho
    rw [← ha] at hoa
    have hcs : ∃ r h2, f_Lrests a h = some (some (.inl r), h2) ∧ K (pc + 3) (zs ls 7 (some (.inl (b + 1)))) (.inl r :: t) h2 = some res := by
      unfold zci at he3
      split at he3
      · rename_i r h2 hcs
        exact ⟨r, h2, hcs, he3⟩
      · cases he3
    obtain ⟨r, h2, hcs, hK2⟩ := hcs
    have hMet := k_Lrests (D := D) (ad := ad) (cy := cy) (L := L) hst hcl hinj hcs hoa
    have hpre : pre = a.reverse := by have := congrArg List.reverse ha; simpa using this.symm
    have hasl : a.length = 6 := by rw [ha]; simpa using hpl
    have hstk : ((pre ++ t).map (zc ad)) = (a.map (zc ad)).reverse ++ t.map (zc ad) := by rw [hpre]; simp
    have hcw : vx_CSW room_1 s args "SoapTreatyLaw" 142 y_Lrests method_3_code 7 (some .int) [(0, 14, 17, 13)] (Cond.codeWith y_Lrests method_3_code 7 (some .int) [(0, 14, 17, 13)] :: zT) zroomY 1 6 6 := vx_cwSW 6 hts zw_r4 rfl rfl rfl ⟨by decide, by decide, by decide +kernel⟩ ⟨by decide, by decide⟩
    have hPS : PreS s H (va_Pc (a.map (zc ad)) (zPx D ad cy L h)) (a.map (zc ad)) := ⟨zblindx, fun U hU9 hW => ⟨rfl, ⟨by rw [hU9]; exact hP, va_K.moved hW.alike hK⟩, by rw [hU9]; exact vx_Zq.moved hW.alike ((hU.kept hS.2.1).narrow (zA_of (hD h))), by rw [hU9]; exact vx_Zq.moved hW.alike ((hN.kept hS.2.1).narrow (zA_of (hD h))), zNw9.moved hW.alike hB9⟩⟩
    have hroom : c0 + zcn ls + 1 ≤ room_1.cells ∧ s0 + 6 * zcn ls + 6 ≤ room_1.slots := ⟨show c0 + zcn ls + 1 ≤ 601024 by omega, show s0 + 6 * zcn ls + 6 ≤ 7293034 by omega⟩
    refine va_calli (vx_runSW (As := a.map (zc ad)) (rest := t.map (zc ad)) ⟨hx, hb, hml, hown, hts⟩ hMet hcw hPS rfl (by simpa using hasl) hL.1 hstk (lv_room (by rw [zcat_eq]; exact hcat)) hd hroom) hS (fun q _ hq2 => zA_of (hD h) q hq2) (fun q hq2 => zA_of (hD h) q hq2) (fun r1 u t1 H1 locs1 ht1 hvm hw hB hz1 hk1 hS1 => ?_)
    have hw : (some (.inl r) : Option zV) = some (.inl r1) := hw
    have hw := Sum.inl.inj (Option.some.inj hw)
    subst hw
    obtain ⟨hP1, hK1⟩ := hB
    rw [ht1] at hP1
    have hL2 : zLs ad lsA 7 (zs ls 7 (some (.inl (b + 1)))) := ⟨hL.1, hL.2.1, fun i v hi hv => by
      rcases zg_s7 hv with ⟨rfl, -⟩ | hv
      · omega
      · exact hL.2.2 i v hi hv⟩
    have key := hk _ (zs ls 7 (some (.inl (b + 1)))) (.inl r :: t) h2 hK2 (zk2 trivial hot) (fun i v hv => by
      rcases zg_s7 hv with ⟨-, hv⟩ | hv
      · cases hv; trivial
      · exact hl i v hv) H1 locs1 lsA hP1 hS1 hL2
    have e1 : c0 + zcn (zs ls 7 (some (.inl (b + 1)))) = c0 + zcn ls + 1 := by omega
    have e2 : s0 + 6 * zcn (zs ls 7 (some (.inl (b + 1)))) = s0 + 6 * zcn ls + 6 := by omega
    dsimp only at key
    rw [e1, e2] at key
    exact key
