/-! The law's rests. -/
theorem zMV_99_7 : zMV "SoapTreatyLaw" 7 11 y_X11_rests prog_1_method_30_code 7 (some .int) 4 := ⟨⟨zT_of 1111 (by decide +kernel) (by decide +kernel), zT_of 1112 (by decide +kernel) (by decide +kernel), zT_of 1113 (by decide +kernel) (by decide +kernel), zT_of 102 (by decide +kernel) (by decide +kernel), zT_of 1114 (by decide +kernel) (by decide +kernel)⟩, by decide, rfl, ⟨zT11, 10, rfl⟩, by decide, by decide, by decide +kernel⟩

def y_Lrests : MethodName := ⟨"SoapTreatyLaw", "rests", "(LSoapTreaty;IIII[J)I"⟩
def zroomY : Room := { frames := 60, cells := 1, slots := 6, locals := 4000 }
theorem dR_0 : decode method_3_code 0 = .ok (.aload 5, 2) := by decide +kernel
theorem dR_2 : decode method_3_code 2 = .ok (.iconst 0, 1) := by decide +kernel
theorem dR_3 : decode method_3_code 3 = .ok (.aload_n 0, 1) := by decide +kernel
theorem dR_4 : decode method_3_code 4 = .ok (.iload_n 1, 1) := by decide +kernel
theorem dR_5 : decode method_3_code 5 = .ok (.iload_n 2, 1) := by decide +kernel
theorem dR_6 : decode method_3_code 6 = .ok (.iload_n 3, 1) := by decide +kernel
theorem dR_7 : decode method_3_code 7 = .ok (.iload 4, 2) := by decide +kernel
theorem dR_9 : decode method_3_code 9 = .ok (.invokevirtual 7, 3) := by decide +kernel
theorem dR_12 : decode method_3_code 12 = .ok (.i2l, 1) := by decide +kernel
theorem dR_13 : decode method_3_code 13 = .ok (.lastore, 1) := by decide +kernel
theorem dR_14 : decode method_3_code 14 = .ok (.goto 7, 3) := by decide +kernel
theorem dR_17 : decode method_3_code 17 = .ok (.astore 6, 2) := by decide +kernel
theorem dR_19 : decode method_3_code 19 = .ok (.iconst 1, 1) := by decide +kernel
theorem dR_20 : decode method_3_code 20 = .ok (.ireturn, 1) := by decide +kernel
theorem dR_21 : decode method_3_code 21 = .ok (.iconst 0, 1) := by decide +kernel
theorem dR_22 : decode method_3_code 22 = .ok (.ireturn, 1) := by decide +kernel
theorem zw_cw : Cond.codeWith y_Lrests method_3_code 7 (some .int) [(0, 14, 17, 13)] ∈ zT := zT_of 1109 (by decide +kernel) (by decide +kernel)
theorem zw_cl13 : Cond.classLink "SoapTreatyLaw" 13 zE9 ∈ zT := by
  have h1 : Cond.classLink "SoapTreatyLaw" 13 zE9 ∈ lw_tbl := by decide +kernel
  exact List.mem_filter.mpr ⟨h1, by decide +kernel⟩
theorem zblindx {D : va_G} {ad : Nat → Nat → Nat} {cy : Nat → ClassId} {L : List (Nat × Nat)} {h : zH} {av : List Value} : FrameBlind (va_Pc av (zPx D ad cy L h)) := fun a U g mk q => ⟨q.1, ⟨q.2.1.1, va_K.moved (u := U) (U := U.calling g mk a) (Vm.Alike.refl U.vm) q.2.1.2⟩, vx_Zq.moved (u := U) (U := U.calling g mk a) (Vm.Alike.refl U.vm) q.2.2.1, vx_Zq.moved (u := U) (U := U.calling g mk a) (Vm.Alike.refl U.vm) q.2.2.2.1, zNw9.moved (u := U) (U := U.calling g mk a) (Vm.Alike.refl U.vm) q.2.2.2.2⟩
set_option maxHeartbeats 4000000 in
theorem k_Lrests {l : Launch} {D : va_G} {ad : Nat → Nat → Nat} {cy : Nat → ClassId} {L : List (Nat × Nat)} (hst : l.stackTraces = false) (hcl : zclo L = true) (hinj : zAd ad L) {a : List zV} {h : zH} {res : zRes} (hE : f_Lrests a h = some res) (hok : ∀ v ∈ a, zok L v) :
    Met l y_Lrests (.codeWith y_Lrests method_3_code 7 (some .int) [(0, 14, 17, 13)] :: zT) zroomY (va_Pc (a.map (zc ad)) (zPx D ad cy L h)) (zQcx D ad cy L res) 1 6 (zA ad L) := by
  match a, hE, hok with
  | [.inr (.inr (11, 0)), .inl p0, .inl p1, .inl p2, .inl p3, .inr (.inr (79, 0))], hE, hok =>
  have h11 : (11, 0) ∈ L := zmem (zk0 hok) (by decide +kernel)
  have h79 : (79, 0) ∈ L := zmem (hok (.inr (.inr (79, 0))) (by simp)) (by decide +kernel)
  have hokx : ∀ v ∈ ([.inr (.inr (11, 0)), .inl p0, .inl p1, .inl p2, .inl p3] : List zV), zok L v := fun v hv => hok v (by simp only [List.mem_cons, List.not_mem_nil, or_false] at hv ⊢; rcases hv with h | h | h | h | h <;> simp [h])
  have hD : ∀ h, va_D (zA ad L) (zws ad cy L h) := zD_of (zclo.nodup hcl) hinj
  cases hr : f_X11_rests [.inr (.inr (11, 0)), .inl p0, .inl p1, .inl p2, .inl p3] h with
  | none => simp only [f_Lrests, hr] at hE; cases hE
  | some res0 =>
  have hM := k_X11_rests (D := D) (cy := cy) hst hcl hinj hr hokx
  obtain ⟨⟨f1, f2, f3, f4, f5⟩, hmx, htC, ⟨T, N, hcC⟩, hn1, hn2, hn3⟩ := zMV_99_7
  refine va_MetW (cc := method_3_code) (maxL := 7) (ret := some .int) (hh := [(0, 14, 17, 13)]) (by decide) rfl ?_
  intro p e s m args below meth c s₁ B hml hv
  obtain ⟨rfl, ⟨hP, hK⟩, hZ⟩ := hv
  have hx := B.exec
  have hb := B.bytes
  have hrt := B.returns
  have hlocks := B.notSynchronized
  have hts0 := atoms_spec (ws := Cond.codeWith y_Lrests method_3_code 7 (some .int) [(0, 14, 17, 13)] :: zT) B.pre
  have hts : ∀ w ∈ zT, w.before ([Value.ref (ad 11 0), .int p0, .int p1, .int p2, .int p3, .ref (ad 79 0)] : List Value).toArray s = true := fun w hw => hts0 w (List.mem_cons_of_mem _ hw)
  have hown : s.vm.findClass "SoapTreatyLaw" = some m.cls := findClass_of_methodNamed B.named
  have htab := vx_table (x := y_Lrests) B (hts0 _ List.mem_cons_self)
  have hS : va_S (zA ad L) s.heap s.heap [] := va_S.rf
  have hl := lv_entry ([Value.ref (ad 11 0), .int p0, .int p1, .int p2, .int p3, .ref (ad 79 0)]) (n := 7) (show (6 : Nat) ≤ 7 by decide)
  show W p l e _ s m ([Value.ref (ad 11 0), .int p0, .int p1, .int p2, .int p3, .ref (ad 79 0)] : List Value).toArray below meth c s.heap [] 0 0 _ (entryFrame m ([Value.ref (ad 11 0), .int p0, .int p1, .int p2, .int p3, .ref (ad 79 0)] : List Value).toArray 7)
  rw [lg_entry_eq]
  generalize (lg_sl ([Value.ref (ad 11 0), .int p0, .int p1, .int p2, .int p3, .ref (ad 79 0)]) ++ List.replicate (7 - (lg_sl ([Value.ref (ad 11 0), .int p0, .int p1, .int p2, .int p3, .ref (ad 79 0)])).length) Slot.unset).toArray = ls at hl ⊢
  have hl : lv_has ls 7 [(0, .ref (ad 11 0)), (1, .int p0), (2, .int p1), (3, .int p2), (4, .int p3), (5, .ref (ad 79 0))] := hl
  obtain ⟨q0, hq0, hq1⟩ := zws_at (ad := ad) (cy := cy) h h11
  rw [zcon0 htC] at hq1
  refine lv_aload hx hb dR_0 (lv_at hl 5 rfl) ?_
  refine lv_iconst (v := 0) hx hb dR_2 (by decide) ?_
  refine lv_aload_n hx hb dR_3 rfl (lv_at hl 0 rfl) ?_
  refine lv_iload_n hx hb dR_4 rfl (lv_at hl 1 rfl) ?_
  refine lv_iload_n hx hb dR_5 rfl (lv_at hl 2 rfl) ?_
  refine lv_iload_n hx hb dR_6 rfl (lv_at hl 3 rfl) ?_
  refine lv_iload hx hb dR_7 (lv_at hl 4 rfl) ?_
  have hcw : CallW zroomY s ([Value.ref (ad 11 0), .int p0, .int p1, .int p2, .int p3, .ref (ad 79 0)] : List Value).toArray "SoapTreatyLaw" y_X11_rests.cls 7 y_X11_rests prog_1_method_30_code 7 (some .int) (Cond.code y_X11_rests prog_1_method_30_code 7 (some .int) :: zT) zroomX 1 6 4 := ⟨callB_of 4 hts (zgood f5) rfl rfl rfl (hts _ f4) (hts _ f1) ⟨hn1, hn2, hn3⟩ ⟨by decide, by decide⟩, hts _ f2, hts _ f3⟩
  have hPV : PreV s s.heap y_X11_rests.cls (ad 11 0) (va_Pc (([.inr (.inr (11, 0)), .inl p0, .inl p1, .inl p2, .inl p3] : List zV).map (zc ad)) (zPx D ad cy L h)) [.int p0, .int p1, .int p2, .int p3] := ⟨zblindx, va_recv hK hP hcC hq1, fun U hU hW => ⟨rfl, ⟨by rw [hU]; exact hP, va_K.moved hW.alike hK⟩, by rw [hU]; exact vx_Zq.moved hW.alike hZ.1, by rw [hU]; exact vx_Zq.moved hW.alike hZ.2.1, zNw9.moved hW.alike hZ.2.2⟩⟩
  refine vx_calli (vx_runV (As := [.int p0, .int p1, .int p2, .int p3]) (rest := [.int 0, .ref (ad 79 0)]) (b := ad 11 0) ⟨hx, hb, hml, hown, hts⟩ hM hcw hPV rfl rfl hl.1 rfl (lv_room (show (2 : Nat) ≤ 8 by decide)) dR_9 ⟨by decide, by decide⟩) hS (fun q _ hq => hq) (fun q hq => hq) (fun q _ hq => hq) (fun E ce q9 u t H1 locs1 ht hvm hpx hB hz hk hS1 hc9 hv9 hcl9 => ?_) (fun r u t H1 locs1 ht hvm hw hB hz hk hS1 => ?_)
  · obtain ⟨q7, hq7⟩ := hpx
    obtain ⟨rfl, hP1, hK1⟩ := hB
    rw [ht] at hP1
    obtain ⟨v0, h0⟩ := res0
    have hq7 : v0 = some (.inr (.inr q7)) := hq7
    subst hq7
    have hE : some (some (.inl 1), h0) = some res := by rw [← hE]; simp only [f_Lrests, hr]
    have hE := Option.some.inj hE
    subst hE
    refine vx_catch (name := zE9) hown [] ⟨0, 14, 17, 13⟩ [] htab (fun z hz9 => by cases hz9) (by decide) (by decide) (hts _ zw_cl13) (hZ.2.2.use _ (by decide +kernel)) hc9 hv9 hcl9 ?_
    refine lv_astore (lv' := [(6, .ref q9), (0, .ref (ad 11 0)), (1, .int p0), (2, .int p1), (3, .int p2), (4, .int p3), (5, .ref (ad 79 0))]) hx hb dR_17 hl (by decide) rfl (fun ls hl => ?_)
    refine lv_iconst (v := 1) hx hb dR_19 (by decide) ?_
    exact W.iret hx hb hrt (fun t2 ht2 hw2 => ⟨⟨1, (), rfl, rfl, by rw [ht2]; exact hP1, va_K.moved hw2.alike hK⟩, hS1.F ht2⟩) hS1.2.2 dR_20 hlocks
  · have hw : res0.1 = some (.inl r) := hw
    obtain ⟨hP1, hK1⟩ := hB
    rw [ht] at hP1
    obtain ⟨v0, h0⟩ := res0
    have hw : v0 = some (.inl r) := hw
    subst hw
    have hE : some (some (.inl 0), zuJ h0 79 0 0 r.toInt64) = some res := by rw [← hE]; simp only [f_Lrests, hr]
    have hE := Option.some.inj hE
    subst hE
    obtain ⟨q2, hq2, hq3⟩ := zws_at (ad := ad) (cy := cy) h0 h79
    have ht79 : zty 79 = 2 := by decide +kernel
    rw [zcon2 ht79] at hq3
    refine lv_i2l (v := r.toInt64) hx hb dR_12 rfl ?_
    refine va_last hx hb hK hP1 (hD h0) hS1 q2 1 hq3 rfl (show vp_in (nI 0) 1 from vp_in_nI (by decide) (by decide)) dR_13 (fun H2 locs2 hP2 hD2 hS2 => ?_)
    have hset : (zws ad cy L h0).set q2 (ad 79 0, .inl (cy 2, zlen 79, .inr (.inl (vp_updL (h0.2 79 0) (0 : Int32).toNatClampNeg r.toInt64)))) = zws ad cy L (zuJ h0 79 0 0 r.toInt64) := zws_set (zclo.nodup hcl) hq2 (by rw [zcon2 ht79]; simp [zuJ, vp_updL]; rfl) (fun q hne => (zcon_congr rfl (zuJ_other hne)))
    rw [hset] at hP2
    refine lv_goto (tgt := 21) hx hb dR_14 (by decide) ?_
    refine lv_iconst (v := 0) hx hb dR_21 (by decide) ?_
    exact W.iret hx hb hrt (fun t2 ht2 hw2 => ⟨⟨0, (), rfl, rfl, by rw [ht2]; exact hP2, va_K.moved hw2.alike hK⟩, hS2.F ht2⟩) hS2.2.2 dR_22 hlocks
