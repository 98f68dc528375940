/-! Making cells: rows for the constructors. -/
theorem zTd {w : Cond} (h : (decide (w ∈ lw_tbl) && goodWord w) = true) : w ∈ zT := by
  simp only [Bool.and_eq_true, decide_eq_true_eq] at h
  exact List.mem_filter.mpr h
/-- no more cells are made than are counted -/
theorem zc_sized {p : Program} {l : Launch} {e : Env} {R : Room} {s : State} {m : MethodId} {args : Array Value} {below : List Frame} {meth : Method} {c : Code} {H : Heap} {locs : List Loc} {cells slots : Nat} {Q : State → Prop} {g : JFrame} (hlo : s.heap.size + cells ≤ H.size) (kk : H.size = s.heap.size + cells → W p l e R s m args below meth c H locs cells slots Q g) : W p l e R s m args below meth c H locs cells slots Q g := by
  intro T hT X
  have h1 : T.heap.size ≤ s.heap.size + cells := X.same.2.2.1
  rw [hT] at h1
  exact kk (by omega) T hT X
/-- an object's fields as they are made -/
def zI0 (K : Nat) : List Value := (zfl K).map (fun f => match f.1 with
  | 1 => .long 0
  | 2 => .null
  | _ => .int 0)
/-- how many slots a cell has -/
def zsz (q : Nat × Nat) : Nat := match zty q.1 with
  | 0 => (zfl q.1).length
  | _ => zlen q.1
def zsl (L : List (Nat × Nat)) : Nat := (L.map zsz).sum
/-- the cells lie one behind the other, from sz on -/
def zat (ad : Nat → Nat → Nat) : Nat → List (Nat × Nat) → Prop
  | _, [] => True
  | sz, q :: r => ad q.1 q.2 = sz ∧ zat ad (sz + 1) r
theorem zat_app {ad : Nat → Nat → Nat} : ∀ {L1 L2 : List (Nat × Nat)} {sz : Nat}, zat ad sz (L1 ++ L2) → zat ad sz L1 ∧ zat ad (sz + L1.length) L2
  | [], _, _, h => ⟨trivial, h⟩
  | q :: r, L2, sz, h => by
    obtain ⟨h1, h2⟩ := zat_app (L1 := r) (L2 := L2) (sz := sz + 1) h.2
    refine ⟨⟨h.1, h1⟩, ?_⟩
    rw [show sz + (q :: r).length = sz + 1 + r.length by simp only [List.length_cons]; omega]
    exact h2
/-- words that no row keeps by itself: private constructors of nest mates, arrays of pages and states -/
def zNwI (U : State) : Prop := va_Nw (.methodLinkNest "SoapTreaty" 9 ⟨"SoapTreaty$Tape", "<init>", "()V"⟩ "SoapTreaty") U ∧ va_Nw (.methodLinkNest "SoapTreaty$Congress" 42 ⟨"SoapTreaty$Law", "<init>", "()V"⟩ "SoapTreaty") U ∧ va_Nw (.methodLinkNest "SoapTreaty$Page" 20 ⟨"SoapTreaty$Lines", "<init>", "()V"⟩ "SoapTreaty") U ∧ va_Nw (.methodLinkNest "SoapTreaty$Page" 27 ⟨"SoapTreaty$Seen", "<init>", "()V"⟩ "SoapTreaty") U ∧ va_Nw (.methodLinkNest "SoapTreaty$Reader" 23 ⟨"SoapTreaty$Lines", "<init>", "()V"⟩ "SoapTreaty") U ∧ va_AO "SoapTreaty$Page" U ∧ va_AO "SoapTreaty$State" U
theorem zNwI.warm {s U : State} (hW : s.WarmedH U.vm) (h : zNwI s) : zNwI U := ⟨h.1.warmM hW, h.2.1.warmM hW, h.2.2.1.warmM hW, h.2.2.2.1.warmM hW, h.2.2.2.2.1.warmM hW, h.2.2.2.2.2.1.moved hW.alike, h.2.2.2.2.2.2.moved hW.alike⟩
abbrev cT : Type := (Program × Launch × Env × Room × State × MethodId × Array Value × List Frame × Method × Code) × (va_G × (Nat → ClassId) × (Nat → Prop) × (State → Prop))
def cW (X : cT) (pc : Nat) (ls : Array Slot) (st : List Value) (w : va_W) (n k : Nat) : Prop := match X with
  | ((p, l, e, R, s, m, args, below, meth, c), (D, _, A, Q)) => ∀ (H : Heap) (locs : List Loc), va_P D zcl w H → va_D A w → va_S A s.heap H locs → H.size = s.heap.size + n → W p l e R s m args below meth c H locs n k Q (F0 m pc ls st)
def cX (X : cT) (own : String) (cc : ByteArray) (nL : Nat) : Prop := match X with
  | ((p, _, _, R, s, m, args, _, meth, c), (D, cy, A, _)) => p.tables.exec = Jvm.exec ∧ c.code = cc ∧ c.maxLocals = nL ∧ s.vm.findClass own = some m.cls ∧ (∀ w ∈ zT, w.before args s = true) ∧ va_K D zcl (ztys cy) s ∧ meth.name = "<init>" ∧ (∀ q, s.heap.size ≤ q → A q) ∧ zNwI s ∧ 1 ≤ R.frames ∧ 60 ≤ R.locals
/-- two steps of the heap -/
theorem va_S.then {A : Nat → Prop} {H0 H H1 : Heap} {locs locs1 : List Loc} (h : va_S A H0 H locs) (h1 : va_S A H H1 locs1) : va_S A H0 H1 locs1 := ⟨Nat.le_trans h.1 h1.1, fun q a b => (h1.2.1 q (Nat.lt_of_lt_of_le a h.1) b).trans (h.2.1 q a b), h1.2.2⟩
theorem va_S.here {A : Nat → Prop} {H0 H : Heap} {locs : List Loc} (h : va_S A H0 H locs) : va_S A H H locs := ⟨Nat.le_refl _, fun _ _ _ => rfl, h.2.2⟩
theorem cr_aload {X : cT} {own : String} {cc : ByteArray} {nL pc : Nat} {ls : Array Slot} {st : List Value} {w : va_W} {n k : Nat} (C : cX X own cc nL) {i : Fin 4} {j a : Nat} {lv : List (Nat × Value)} (hl : lv_has ls nL lv) (d : decode cc pc = .ok (.aload_n i, 1)) (hj : lv[j]? = some (i.val, .ref a)) (kk : cW X (pc + 1) ls (.ref a :: st) w n k) : cW X pc ls st w n k := by
  obtain ⟨⟨p, l, e, R, s, m, args, below, meth, c⟩, ⟨D, cy, A, Q⟩⟩ := X
  obtain ⟨hx, hb, hml, hown, hts, hK, hin, hA, hN, hR1, hR2⟩ := C
  intro H locs hP hD hS hz
  exact lv_aload_n hx hb d rfl (lv_at hl j hj) (kk H locs hP hD hS hz)
theorem cr_iconst {X : cT} {own : String} {cc : ByteArray} {nL pc : Nat} {ls : Array Slot} {st : List Value} {w : va_W} {n k : Nat} (C : cX X own cc nL) {i : Int} {v : Int32} (d : decode cc pc = .ok (.iconst i, 1)) (hv : Int32.ofInt i = v) (kk : cW X (pc + 1) ls (.int v :: st) w n k) : cW X pc ls st w n k := by
  obtain ⟨⟨p, l, e, R, s, m, args, below, meth, c⟩, ⟨D, cy, A, Q⟩⟩ := X
  obtain ⟨hx, hb, hml, hown, hts, hK, hin, hA, hN, hR1, hR2⟩ := C
  intro H locs hP hD hS hz
  exact lv_iconst hx hb d hv (kk H locs hP hD hS hz)
theorem cr_bipush {X : cT} {own : String} {cc : ByteArray} {nL pc : Nat} {ls : Array Slot} {st : List Value} {w : va_W} {n k : Nat} (C : cX X own cc nL) {i : Int} {v : Int32} (d : decode cc pc = .ok (.bipush i, 2)) (hv : (Int8.ofInt i).toInt32 = v) (kk : cW X (pc + 2) ls (.int v :: st) w n k) : cW X pc ls st w n k := by
  obtain ⟨⟨p, l, e, R, s, m, args, below, meth, c⟩, ⟨D, cy, A, Q⟩⟩ := X
  obtain ⟨hx, hb, hml, hown, hts, hK, hin, hA, hN, hR1, hR2⟩ := C
  intro H locs hP hD hS hz
  exact lv_bipush hx hb d hv (kk H locs hP hD hS hz)
theorem cr_sipush {X : cT} {own : String} {cc : ByteArray} {nL pc : Nat} {ls : Array Slot} {st : List Value} {w : va_W} {n k : Nat} (C : cX X own cc nL) {i : Int} {v : Int32} (d : decode cc pc = .ok (.sipush i, 3)) (hv : (Int16.ofInt i).toInt32 = v) (kk : cW X (pc + 3) ls (.int v :: st) w n k) : cW X pc ls st w n k := by
  obtain ⟨⟨p, l, e, R, s, m, args, below, meth, c⟩, ⟨D, cy, A, Q⟩⟩ := X
  obtain ⟨hx, hb, hml, hown, hts, hK, hin, hA, hN, hR1, hR2⟩ := C
  intro H locs hP hD hS hz
  exact lv_sipush hx hb d hv (kk H locs hP hD hS hz)
theorem cr_dup {X : cT} {own : String} {cc : ByteArray} {nL pc : Nat} {ls : Array Slot} {st : List Value} {w : va_W} {n k : Nat} (C : cX X own cc nL) {a : Nat} (d : decode cc pc = .ok (.dup, 1)) (kk : cW X (pc + 1) ls (.ref a :: .ref a :: st) w n k) : cW X pc ls (.ref a :: st) w n k := by
  obtain ⟨⟨p, l, e, R, s, m, args, below, meth, c⟩, ⟨D, cy, A, Q⟩⟩ := X
  obtain ⟨hx, hb, hml, hown, hts, hK, hin, hA, hN, hR1, hR2⟩ := C
  intro H locs hP hD hS hz
  exact lv_dup hx hb d rfl (kk H locs hP hD hS hz)
theorem zw_oi : Cond.instanceMethod Lib.objectInit ∈ zT := zTd (by decide +kernel)
theorem zw_oc : Cond.code Lib.objectInit ⟨#[0xb1]⟩ 1 none ∈ zT := zTd (by decide +kernel)
theorem cr_obj {X : cT} {own : String} {cc : ByteArray} {nL pc : Nat} {ls : Array Slot} {w : va_W} {n k : Nat} (C : cX X own cc nL) {a idx : Nat} (hs : ls.size = nL) (hw : Cond.methodLink own idx Lib.objectInit ∈ zT) (d : decode cc pc = .ok (.invokespecial idx, 3)) (kk : cW X (pc + 3) ls [] w n k) : cW X pc ls [.ref a] w n k := by
  obtain ⟨⟨p, l, e, R, s, m, args, below, meth, c⟩, ⟨D, cy, A, Q⟩⟩ := X
  obtain ⟨hx, hb, hml, hown, hts, hK, hin, hA, hN, hR1, hR2⟩ := C
  intro H locs hP hD hS hz
  refine W.objInit hx hb hown (hts _ hw) (hts _ zw_oi) (hts _ zw_oc) rfl (by rw [hml]; exact hs) rfl d hR1 ?_ ?_
  · show 2 * 0 + 0 + 12 ≤ R.locals
    omega
  · exact W.eq (g2 := F0 m (pc + 3) ls []) rfl (kk H locs hP hD hS hz)
