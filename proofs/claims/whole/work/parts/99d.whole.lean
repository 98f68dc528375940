/-! From the entry to the end; the claim. (By program: wip/whole/src/last.py) -/
abbrev ls0 : zLo := [some (.inr (.inr (80, 0))), some (.inr (.inr (11, 0))), some (.inr (.inr (12, 0))), some (.inr (.inr (79, 0))), some (.inl (nI (7 * 0))), none, none, some (.inl (nI 0))]
theorem zcn_0 : zcn ls0 = 0 := by
  show min (nI 0).toNatClampNeg 600 = 0
  rw [nI_clamp (by omega)]; rfl
theorem ls0_ok : ∀ (i : Nat) (v : zV), zg ls0 i = some v → zok LL v := by
  intro i v hv
  have m11 : (11, 0) ∈ LL := by decide +kernel
  have m12 : (12, 0) ∈ LL := by decide +kernel
  have m79 : (79, 0) ∈ LL := by decide +kernel
  match i, hv with
  | 0, hv => cases hv; exact Or.inr rfl
  | 1, hv => cases hv; exact Or.inl m11
  | 2, hv => cases hv; exact Or.inl m12
  | 3, hv => cases hv; exact Or.inl m79
  | 4, hv => cases hv; trivial
  | 5, hv => cases hv
  | 6, hv => cases hv
  | 7, hv => cases hv; trivial
  | i + 8, hv => cases hv
theorem ls0_has {ad : Nat → Nat → Nat} {b : Nat} {lsA : Array Slot} (hb : ad 80 0 = b) (hl : lv_has lsA 7 [(4, .int (nI 0)), (3, .ref (ad 79 0)), (2, .ref (ad 12 0)), (1, .ref (ad 11 0)), (0, .ref b)]) : zLs ad lsA 7 ls0 := by
  refine ⟨hl.1, hl.2.1, fun i v hi hv => ?_⟩
  match i, hi, hv with
  | 0, _, hv => cases hv; show lsA[0]? = some (.val (.ref (ad 80 0))); rw [hb]; exact lv_at hl 4 rfl
  | 1, _, hv => cases hv; exact lv_at hl 3 rfl
  | 2, _, hv => cases hv; exact lv_at hl 2 rfl
  | 3, _, hv => cases hv; exact lv_at hl 1 rfl
  | 4, _, hv => cases hv; exact lv_at hl 0 rfl
  | 5, _, hv => cases hv
  | 6, _, hv => cases hv
set_option maxRecDepth 100000 in
theorem whole_start {p : Program} {e : Env} {s : State} {m : MethodId} {below : List Frame} {meth : Method} {c : Code} (l : Launch) (hst : l.stackTraces = false) {b L : Nat} {xs : Nat → Int32} (hL : L ≤ 3584) (C0 : lw_At p s m meth c b L xs) : W p l e room_1 s m #[Value.ref b] below meth c s.heap [] 0 0 (lw_Z below #[Value.ref b] s) (entryFrame m ([Value.ref b] : List Value).toArray 7) := by
  obtain ⟨hx, hb, hr, hml, hown, htb, hX0, hbl, hlocks, hgv⟩ := id C0
  have hs : ∀ w ∈ zgv, w.before #[Value.ref b] s = true := flat_of_before _ hgv
  have hts : ∀ w ∈ zT, w.before #[Value.ref b] s = true := fun w hw => htb w (List.mem_filter.mp hw).1
  have hN := g_NwI htb
  obtain ⟨D, cy, hK⟩ := g_K hts hN
  obtain ⟨qK, qV, hZ1⟩ := g_Zs htb hs
  obtain ⟨hU, hSu, h9⟩ := g_Z9 htb hs
  have hl := lv_entry ([.ref b]) (n := 7) (Nat.le_of_ble_eq_true rfl)
  rw [lg_entry_eq]
  generalize (lg_sl ([.ref b]) ++ List.replicate (7 - (lg_sl ([.ref b])).length) Slot.unset).toArray = ls at hl ⊢
  have hl : lv_has ls 7 [(0, .ref b)] := hl
  have hz := ad_zat (b := b) (b0 := s.heap.size)
  have z1 := (zat_app (L1 := [(11, 0)]) hz).2
  have z2 : zat (ad_ b s.heap.size) (s.heap.size + 1) lw_ := (zat_app (L1 := lw_) z1).1
  have z3 := (zat_app (L1 := lw_) z1).2
  have z4 := (zat_app (L1 := [(12, 0)]) z3).2
  have z5 : zat (ad_ b s.heap.size) (s.heap.size + 175) lmt_ := by
    have h := (zat_app (L1 := lmt_) z4).1
    have e9 : s.heap.size + ([(11, 0)] : List (Nat × Nat)).length + lw_.length + ([(12, 0)] : List (Nat × Nat)).length = s.heap.size + 175 := by
      have h3 : lw_.length = 173 := by decide +kernel
      rw [h3]
      show s.heap.size + 1 + 173 + 1 = s.heap.size + 175
      omega
    rw [e9] at h
    exact h
  let X : cT := ((p, l, e, room_1, s, m, #[Value.ref b], below, meth, c), (D, cy, fun q => s.heap.size ≤ q, lw_Z below #[Value.ref b] s))
  have hC : cY X "SoapTreatyLaw" code 7 := ⟨hx, hb, hml, hown, hts, hK, fun q h => h, hN, by decide, by decide⟩
  have key := law_pro (X := X) (ls := ls) (l := l) (D := D) (cy := cy) (b := b) (b0 := s.heap.size) (qK := qK) (qV := qV) hC ⟨rfl, rfl, rfl, rfl⟩ ⟨ad_at (i := 0) (q := (11, 0)) (by decide +kernel), z2, ad_at (i := 174) (q := (12, 0)) (by decide +kernel), z5, ad_at (i := 216) (q := (79, 0)) (by decide +kernel)⟩ (fun H locs U hS hU9 hW => ⟨zZs.warm hW (fun a h1 h2 => by rw [hU9]; exact hS.2.1 a h1 h2) hZ1.1, by rw [hU9]; exact hS.1⟩) hl (fun ls' hl' => ?_)
  · exact key s.heap [] (fun k q h => by cases h) ⟨fun i j p q h => (by cases h), fun k q h => (by cases h)⟩ va_S.rf rfl
  · intro H locs hP hD hS hz9
    let Y : zCtx := ((p, l, e, room_1, s, m, #[Value.ref b], below, meth, c), (D, ad_ b s.heap.size, cy, LL, fun q => s.heap.size ≤ q, s.heap), ("SoapTreatyLaw", code, 7, fun res t => res.1 = some (.inl 1) → lw_Z below #[Value.ref b] s t, fun ls => 217 + zcn ls, fun ls => 14186 + 6 * zcn ls))
    have hY : zXok Y "SoapTreatyLaw" code 7 := ⟨hx, hb, hml, hown, hts, hK, fun h => (zD_of (zclo.nodup LL_clo) ad_inj h).weaken (fun k q _ hq => by obtain ⟨r, hr9, e9⟩ := hq; show s.heap.size ≤ q.1; rw [e9]; exact ad_in hr9), LL_clo, fun ls i v hi => by show 217 + zcn (zs ls i v) = 217 + zcn ls; rw [zcn_set hi], fun ls i v hi => by show 14186 + 6 * zcn (zs ls i v) = 14186 + 6 * zcn ls; rw [zcn_set hi], rfl, rfl, rfl, by decide, by decide, fun ls => by have := zcn_le (ls := ls); show 217 + zcn ls ≤ 601024; omega, fun ls => by have := zcn_le (ls := ls); show 14186 + 6 * zcn ls ≤ 7293034; omega⟩
    have hsc : zXsc Y xs L := ⟨by show va_X (ad_ b s.heap.size 80 0) L xs s s.heap; rw [ad_80]; exact hX0, by show ad_ b s.heap.size 80 0 < s.heap.size; rw [ad_80]; exact hbl, by show ¬ s.heap.size ≤ ad_ b s.heap.size 80 0; rw [ad_80]; omega, no80⟩
    have hq : zXq Y := ⟨hr, hlocks, ⟨b, rfl⟩, fun _ => rfl, rfl, fun q h => h, rfl, fun ls => by have := zcn_le (ls := ls); show 217 + zcn ls ≤ 601024; omega, fun ls => by have := zcn_le (ls := ls); show 14186 + 6 * zcn ls ≤ 7293034; omega⟩
    have hzz : zXz Y := ⟨hst, hU, hSu, h9, rfl, ⟨217, 14186, by omega, by omega, rfl, rfl⟩, ad_inj⟩
    have hall := s_law (l := l) (D := D) (ad := ad_ b s.heap.size) (cy := cy) (L := LL) (xs := xs) (n := L) LL_clo ad_inj hY hsc hq (zXr_of hY hzz) ⟨rfl, rfl, rfl, rfl, rfl, rfl⟩
    obtain ⟨h', hrun⟩ := law_loop (xs := xs) hL 513 0 (by omega) (by omega) h1_ none none 0 (Nat.le_refl _) inv0
    obtain ⟨n9, hn9⟩ := (zL_iff (t_law xs L)).mp hrun
    have hW := z_run (X := Y) hall n9 23 ls0 [] h1_ _ hn9
    have hW2 : W p l e room_1 s m #[Value.ref b] below meth c H locs (217 + zcn ls0) (14186 + 6 * zcn ls0) (fun t => (some (.inl 1) : Option zV) = some (.inl 1) → lw_Z below #[Value.ref b] s t) (F0 m 23 ls' []) := hW (fun v hv => by cases hv) ls0_ok H locs ls' hP hS (ls0_has ad_80 hl')
    rw [zcn_0] at hW2
    intro T hT St
    obtain ⟨t, a1, a2⟩ := hW2 T hT St
    exact ⟨t, a1, a2 rfl⟩
set_option maxHeartbeats 4000000 in
theorem lw_walk (l : Launch) (hst : l.stackTraces = false) (b : Addr) (xs : List Int32) : MetFree l x (headSpec (Jvm.Cond.code x code maxLocals ret :: tables_1) room_1) (lw_P b xs) (fun _ _ _ _ _ => True) lw_Q := by
  refine MetFree.of_bodyS (code := code) (maxLocals := maxLocals) (ret := ret) (by decide) ?_ ?_
  · intro args s m h hn
    obtain ⟨meth, c, h1, h2, h3, h4, h5, h6, -, -⟩ := Cond.code_spec hn (atoms_spec (ws := Jvm.Cond.code x code maxLocals ret :: tables_1) h _ List.mem_cons_self)
    exact ⟨meth, c, h1, h2, h3, h4, h5, h6⟩
  · intro p e s m args below meth c s₁ B hml0 hP _
    obtain ⟨rfl, hx, hbd, hgv⟩ := hP
    obtain ⟨scr, harrAt, hlist, hof, hsmall⟩ := hx
    obtain ⟨hcb, hkn, -, -⟩ := State.arrayAt?_spec harrAt
    have hown : s.vm.findClass R_law = some m.cls := findClass_of_methodNamed B.named
    have hts0 : ∀ c ∈ (Jvm.Cond.code x code maxLocals ret :: tables_1), c.before #[Value.ref b] s = true := atoms_spec (ws := Jvm.Cond.code x code maxLocals ret :: tables_1) B.pre
    have hts : ∀ w ∈ lw_tbl, w.before #[Value.ref b] s = true := k2_hts_sels lw_privs (fun w hw => hts0 w (List.mem_cons_of_mem _ hw)) lw_privs_ok
    have hml : c.maxLocals = 7 := B.maxLocals_eq (hts0 _ List.mem_cons_self)
    have X₀ : Stand p l e room_1 s m #[Value.ref b] below meth c s₁ [] 0 0 := Stand.of_body B
    have hh0 : s₁.heap = s.heap := by rw [B.state]; rfl
    have hsz : scr.slots.size = xs.length := by rw [← Array.length_toList, hlist, List.length_map]
    have hval : ∀ j : Nat, j < xs.length → scr.slots[j]? = some (.int (xs.getD j 0)) := fun j hj => by
      rw [← Array.getElem?_toList, hlist]
      simp [hj]
    have hbl : b < s.heap.size := (Array.getElem?_eq_some_iff.mp hcb).1
    have hX : va_X b xs.length (fun j => xs.getD j 0) s s.heap := ⟨scr, hcb, hof, hkn, hsz, hval⟩
    have K : W p l e room_1 s m #[Value.ref b] below meth c s₁.heap [] 0 0 (lw_Z below #[Value.ref b] s) (entryFrame m ([Value.ref b] : List Value).toArray 7) := by
      rw [hh0]
      exact whole_start l hst hbd ⟨B.exec, B.bytes, B.returns, hml, hown, hts, hX, hbl, B.notSynchronized, hgv⟩
    obtain ⟨t, a1, o, b1, b2, b3⟩ := K s₁ rfl X₀
    exact ⟨t, o, a1, b1, b2, b3⟩
theorem lw_pre_spec {args : Array Value} {s : State} (h : (Jvm.Cond.and given_1 narrow_1).before args s = true) (hr : rest_1_c.before args s = true) : ∃ (b : Addr) (xs : List Int32), lw_P b xs args s := by
  have hs := flat_of_before _ h
  have hq := flat_of_before _ hr
  have hc : (Cond.count 1).before args s = true := hs _ (by decide +kernel)
  have harr : (Cond.arrayOf (.arg 0) .int).before args s = true := hs _ (by decide +kernel)
  have hle : (Cond.le (.length (.arg 0)) (.int 3584)).before args s = true := hs _ (by decide +kernel)
  have hlen : (Cond.isInt (.length (.arg 0))).before args s = true := hq _ (by decide +kernel)
  have hall : (Cond.all (.arg 0) (.isInt (.elem (.arg 0) (.index 0)))).before args s = true := hq _ (by decide +kernel)
  obtain ⟨b, xs, hb, hx⟩ := State.ints_of_pre rfl harr hlen hall
  have hsm : xs.length < 2 ^ 31 := hx.choose_spec.2.2.2
  have hev : (Term.length (.arg 0)).eval args s none [] s = some (.int xs.length.toInt32) := hx.length_eval hb
  have hv := Cond.le_ints hev (show (Term.int 3584).eval args s none [] s = some (.int 3584) from rfl)
  have hd : xs.length.toInt32 ≤ 3584 := by
    simpa [Cond.before, Cond.holds, hv] using hle
  have hN : xs.length ≤ 3584 := (Int32.ofNat_le_ofNat hsm (by decide)).mp (show Int32.ofNat xs.length ≤ Int32.ofNat 3584 from hd)
  exact ⟨b, xs, Cond.one_arg hc (show args[0]? = some (.ref b) from hb), hx, hN, h⟩
theorem lw_comes (l : Launch) (hst : l.stackTraces = false) : Comes l x (Jvm.Cond.code x code maxLocals ret :: tables_1) room_1 (fun tb e args s => Calls_1 tb e args s ∧ rest_1 tb e args s ∧ Pre_1 tb e args s)
    (fun _ _ args s o t => lw_Q args s o t) := by
  intro p e ha hc hk s m args below hf hfit hheap happ hpre
  obtain ⟨b, xs, hP⟩ := lw_pre_spec hpre.2.2 hpre.2.1
  obtain ⟨k, o, h1, h2, h3, hQ⟩ := lw_walk l hst b xs p e ha hc hk s m args below hf ((Spec.applies_iff_loose hf).mp happ).1 hP trivial
  exact ⟨k, o, h1, h2, h3, hQ⟩
theorem lw_frame {s t : State} {o : Outcome} {args : Array Value} (h : Framed s o t [] 601024 7293034) :
    Framed s o t (fieldLocs frame_1_writes args s ++ arrayLocs frame_1_arrays args s ++ staticLocs frame_1_statics s) 601024 7293034 := h
theorem lw_limb (L : Cond) (hL : ∀ (args : Array Value) (s t : State), L.after args s (.returned (some (.int 1))) t = true) :
    ArmFor flags0 classFile x code maxLocals ret World_1 tables_1 room_1 Calls_1 rest_1 Pre_1
      (fun tb e a s o t => postC L tb e a s o t ∧ Framed s o t (fieldLocs frame_1_writes a s ++ arrayLocs frame_1_arrays a s ++ staticLocs frame_1_statics s) 601024 7293034) := by
  intro l hfl _ _ p e ha hc hk s m args below hf hfit hheap happ hpre
  have hst : l.stackTraces = false := by unfold Launch.stackTraces; rw [hfl]; decide +kernel
  obtain ⟨k, o, h1, h2, h3, rfl, hF⟩ := lw_comes l hst p e ha hc hk s m args below hf hfit hheap happ hpre
  exact ⟨k, _, h1, h2, h3, hL args s _, lw_frame hF⟩
theorem i_vc : Claimed_1_1 ∧ Claimed_1_2 := ⟨lw_limb limb_1_1 (fun args s t => by simp [limb_1_1, Cond.after, Cond.holds, Cond.value]), lw_limb limb_1_2 (fun args s t => Cond.after_iff.mpr (by
  first | (rw [show limb_1_2 = Cond.eq .result (.int 1) from rfl, Cond.eq_ints (x := 1) (y := 1) rfl rfl]; simp; done) | (simp [limb_1_2, Cond.value, Term.eval]; done)))⟩
