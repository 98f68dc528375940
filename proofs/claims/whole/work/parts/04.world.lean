/-! What a heap holds of the small machine's cells; what it is that an op tells of the bytecode. -/
def zT : List Cond := lw_tbl.filter goodWord
def zc (ad : Nat → Nat → Nat) : zV → Value
  | .inl x => .int x
  | .inr (.inl x) => .long x
  | .inr (.inr (K, j)) => .ref (ad K j)
def zfv (ad : Nat → Nat → Nat) (h : zH) (K j k : Nat) (f : Nat × Nat × Option Nat) : Value := match f.1 with
  | 1 => .long (h.2 K j k)
  | 2 => .ref (ad f.2.1 (f.2.2.getD j))
  | _ => .int (h.1 K j k)
def zfs (ad : Nat → Nat → Nat) (h : zH) (K j : Nat) : Nat → List (Nat × Nat × Option Nat) → List Value
  | _, [] => []
  | k, f :: r => zfv ad h K j k f :: zfs ad h K j (k + 1) r
def zcon (ad : Nat → Nat → Nat) (cy : Nat → ClassId) (h : zH) (K j : Nat) : va_E := match zty K with
  | 0 => .inr (K, zfs ad h K j 0 (zfl K))
  | 2 => .inl (cy 2, zlen K, .inr (.inl (h.2 K j)))
  | 5 => .inl (cy 5, zlen K, .inr (.inr (.inr (.inr (fun i => some (ad 4 (1 + i)))))))
  | 6 => .inl (cy 6, zlen K, .inr (.inr (.inr (.inr (fun i => some (ad 8 (5 + i)))))))
  | t => .inl (cy t, zlen K, .inl (h.1 K j))
def zws (ad : Nat → Nat → Nat) (cy : Nat → ClassId) (L : List (Nat × Nat)) (h : zH) : va_W := L.map (fun q => (ad q.1 q.2, zcon ad cy h q.1 q.2))
abbrev ztys (cy : Nat → ClassId) : List (ClassId × FieldType) := [(cy 1, .int), (cy 2, .long), (cy 3, .byte), (cy 4, .boolean), (cy 5, .object "SoapTreaty$Page"), (cy 6, .object "SoapTreaty$State")]
def zok (L : List (Nat × Nat)) : zV → Prop
  | .inr (.inr q) => q ∈ L ∨ q = (80, 0)
  | _ => True
/-- (80, 0) stands for the law's script, which is no cell of the world -/
theorem zmem {L : List (Nat × Nat)} {C j : Nat} (h : zok L (.inr (.inr (C, j)))) (ht : zty C ≠ 7) : (C, j) ∈ L := by
  rcases (show (C, j) ∈ L ∨ (C, j) = (80, 0) from h) with h | h
  · exact h
  · exact absurd (by rw [(Prod.mk.inj h).1]; decide +kernel) ht
/-- a set of cells: each once, and with a cell all that its fields name -/
def zclo (L : List (Nat × Nat)) : Bool := decide L.Nodup && L.all (fun q => Nat.blt q.1 zkn) && L.all (fun q => match zty q.1 with
  | 0 => (zfl q.1).all (fun f => match f.1 with | 2 => L.contains (f.2.1, f.2.2.getD q.2) | _ => true)
  | 5 => (List.range 4).all (fun i => L.contains (4, 1 + i))
  | 6 => (List.range 16).all (fun i => L.contains (8, 5 + i))
  | _ => true)
def zLs (ad : Nat → Nat → Nat) (lsA : Array Slot) (nL : Nat) (ls : zLo) : Prop := lsA.size = nL ∧ lv_wf lsA ∧ ∀ (i : Nat) (v : zV), i < nL → zg ls i = some v → lsA[i]? = some (.val (zc ad v))
abbrev zCtx : Type := (Program × Launch × Env × Room × State × MethodId × Array Value × List Frame × Method × Code) × (va_G × (Nat → Nat → Nat) × (Nat → ClassId) × List (Nat × Nat) × (Nat → Prop) × Heap) × (String × ByteArray × Nat × (zRes → State → Prop) × (zLo → Nat) × (zLo → Nat))
/-- what stays so in a method: the machine, its code, the tables' words, the classes, the cells apart -/
def zXok (X : zCtx) (own : String) (cc : ByteArray) (nL : Nat) : Prop := match X with
  | ((p, _, _, R, s, m, args, _, _, c), (D, ad, cy, L, A, _), (own', cc', nL', _, cf, sf)) =>
    p.tables.exec = Jvm.exec ∧ c.code = cc ∧ c.maxLocals = nL ∧ s.vm.findClass own = some m.cls ∧ (∀ w ∈ zT, w.before args s = true) ∧ va_K D zcl (ztys cy) s ∧ (∀ h, va_D A (zws ad cy L h)) ∧ zclo L = true ∧
    (∀ (ls : zLo) (i : Nat) (v : Option zV), i < nL → cf (zs ls i v) = cf ls) ∧ (∀ (ls : zLo) (i : Nat) (v : Option zV), i < nL → sf (zs ls i v) = sf ls) ∧ own' = own ∧ cc' = cc ∧ nL' = nL ∧ 1 ≤ R.frames ∧ 60 ≤ R.locals ∧ (∀ ls, cf ls ≤ R.cells) ∧ (∀ ls, sf ls ≤ R.slots)
def zW (X : zCtx) (res : zRes) (k : Nat) (ls : zLo) (st : List zV) (h : zH) : Prop := match X with
  | ((p, l, e, R, s, m, args, below, meth, c), (D, ad, cy, L, A, H0), (_, _, nL, Q, cf, sf)) =>
    (∀ v ∈ st, zok L v) → (∀ (i : Nat) (v : zV), zg ls i = some v → zok L v) → ∀ (H : Heap) (locs : List Loc) (lsA : Array Slot), va_P D zcl (zws ad cy L h) H → va_S A H0 H locs → zLs ad lsA nL ls →
      W p l e R s m args below meth c H locs (cf ls) (sf ls) (Q res) (F0 m k lsA (st.map (zc ad)))
def zSo (X : zCtx) (k : Nat) (op : zO) : Prop := ∀ (K : Nat → zC) (ls : zLo) (st : List zV) (h : zH) (res : zRes), op K ls st h = some res → (∀ k' ls' st' h', K k' ls' st' h' = some res → zW X res k' ls' st' h') → zW X res k ls st h
theorem z_run {X : zCtx} {P : Nat → zO} (hP : ∀ k, zSo X k (P k)) : ∀ (n k : Nat) (ls : zLo) (st : List zV) (h : zH) (res : zRes), zE P n k ls st h = some res → zW X res k ls st h := by
  intro n
  induction n with
  | zero => intro k ls st h res he; cases he
  | succ n ih => intro k ls st h res he; exact hP k (zE P n) ls st h res he (fun k' ls' st' h' hk => ih k' ls' st' h' res hk)
theorem zs_bad {X : zCtx} {k : Nat} : zSo X k zo_bad := fun _ _ _ _ _ he _ => by cases he
/-! locals -/
theorem zg_self {ls : zLo} {i : Nat} {o : Option zV} {w : zV} (h : zg (zs ls i o) i = some w) : o = some w := by
  induction ls generalizing i with
  | nil => cases h
  | cons a t ih => cases i with
    | zero => exact h
    | succ i => exact ih h
theorem zg_ne {ls : zLo} {i j : Nat} {o : Option zV} (hij : j ≠ i) : zg (zs ls i o) j = zg ls j := by
  induction ls generalizing i j with
  | nil => rfl
  | cons a t ih => cases i with
    | zero => cases j with
      | zero => exact absurd rfl hij
      | succ j => rfl
    | succ i => cases j with
      | zero => rfl
      | succ j => exact ih (fun e => hij (by rw [e]))
theorem zg_none {ls : zLo} {i j : Nat} {w : zV} (h : zg (zs ls i none) j = some w) : zg ls j = some w ∧ j ≠ i := by
  by_cases e : j = i
  · subst e; have := zg_self h; cases this
  · rw [zg_ne e] at h; exact ⟨h, e⟩
theorem zg_zdr {ls : zLo} {i j : Nat} {w : zV} (h : zg (zdr ls i) j = some w) : zg ls j = some w ∧ ¬ (j + 1 = i ∧ zlong (some w) = true) := by
  cases i with
  | zero => exact ⟨h, fun q => by omega⟩
  | succ i =>
    have h : zg (bif zlong (zg ls i) then zs ls i none else ls) j = some w := h
    cases hb : zlong (zg ls i) with
    | true =>
      rw [hb] at h
      obtain ⟨h1, h2⟩ := zg_none (show zg (zs ls i none) j = some w from h)
      exact ⟨h1, fun q => h2 (by omega)⟩
    | false =>
      rw [hb] at h
      have h5 : zg ls j = some w := h
      refine ⟨h5, fun q => ?_⟩
      have e : i = j := by omega
      rw [e, h5] at hb
      rw [hb] at q
      exact absurd q.2 (by decide)
theorem zg_zst {ls : zLo} {i j : Nat} {v w : zV} (h : zg (zst ls i v) j = some w) : (j = i ∧ w = v) ∨ (j ≠ i ∧ zg ls j = some w ∧ ¬ (j + 1 = i ∧ zlong (some w) = true)) := by
  unfold zst at h
  by_cases e : j = i
  · subst e; exact Or.inl ⟨rfl, (Option.some.inj (zg_self h)).symm⟩
  · rw [zg_ne e] at h; exact Or.inr ⟨e, zg_zdr h⟩
theorem zg_zstJ {ls : zLo} {i j : Nat} {v w : zV} (h : zg (zstJ ls i v) j = some w) : (j = i ∧ w = v) ∨ (j ≠ i ∧ j ≠ i + 1 ∧ zg ls j = some w ∧ ¬ (j + 1 = i ∧ zlong (some w) = true)) := by
  unfold zstJ at h
  obtain ⟨h1, h2⟩ := zg_none h
  by_cases e : j = i
  · subst e; exact Or.inl ⟨rfl, (Option.some.inj (zg_self h1)).symm⟩
  · rw [zg_ne e] at h1; exact Or.inr ⟨e, h2, zg_zdr h1⟩
theorem zg_zkill {ks : List Nat} {ls : zLo} {j : Nat} {w : zV} (h : zg (zkill ks ls) j = some w) : zg ls j = some w := by
  unfold zkill at h
  induction ks generalizing ls with
  | nil => exact h
  | cons k t ih => exact (zg_none (ih h)).1
theorem zcf_dr {cf : zLo → Nat} {nL : Nat} (hcf : ∀ (ls : zLo) (i : Nat) (v : Option zV), i < nL → cf (zs ls i v) = cf ls) {ls : zLo} {i : Nat} (h : i < nL) : cf (zdr ls i) = cf ls := by
  cases i with
  | zero => rfl
  | succ i =>
    show cf (bif zlong (zg ls i) then zs ls i none else ls) = cf ls
    cases zlong (zg ls i) with
    | true => exact hcf _ _ _ (by omega)
    | false => rfl
theorem zcf_st {cf : zLo → Nat} {nL : Nat} (hcf : ∀ (ls : zLo) (i : Nat) (v : Option zV), i < nL → cf (zs ls i v) = cf ls) {ls : zLo} {i : Nat} {v : zV} (h : i < nL) : cf (zst ls i v) = cf ls := by
  unfold zst
  rw [hcf _ _ _ h, zcf_dr hcf h]
theorem zcatg {ad : Nat → Nat → Nat} {v : zV} : (zc ad v).category = 2 ↔ zlong (some v) = true := by
  rcases v with x | x | ⟨a, b⟩ <;> simp [zc, Value.category, zlong]
def zlv (ad : Nat → Nat → Nat) (nL : Nat) (ls : zLo) : List (Nat × Value) := (List.range nL).filterMap (fun i => (zg ls i).map (fun v => (i, zc ad v)))
theorem zlv_mem {ad : Nat → Nat → Nat} {nL : Nat} {ls : zLo} {q : Nat × Value} : q ∈ zlv ad nL ls ↔ ∃ v, q.1 < nL ∧ zg ls q.1 = some v ∧ q.2 = zc ad v := by
  unfold zlv
  rw [List.mem_filterMap]
  constructor
  · rintro ⟨i, hi, h⟩
    obtain ⟨v, hv, rfl⟩ := Option.map_eq_some_iff.mp h
    exact ⟨v, List.mem_range.mp hi, hv, rfl⟩
  · rintro ⟨v, h1, h2, h3⟩
    exact ⟨q.1, List.mem_range.mpr h1, by rw [h2]; simp [← h3]⟩
theorem zLs.has {ad : Nat → Nat → Nat} {lsA : Array Slot} {nL : Nat} {ls : zLo} (h : zLs ad lsA nL ls) : lv_has lsA nL (zlv ad nL ls) := by
  refine ⟨h.1, h.2.1, fun q hq => ?_⟩
  obtain ⟨v, h1, h2, h3⟩ := zlv_mem.mp hq
  rw [h3]; exact h.2.2 _ _ h1 h2
theorem zLs.store {ad : Nat → Nat → Nat} {lsA lsB : Array Slot} {nL i : Nat} {ls : zLo} {v : zV} (_h : zLs ad lsA nL ls) (hB : lv_has lsB nL ((i, zc ad v) :: (zlv ad nL ls).filter (fun q => !(q.1 == i) && !(q.1 + 1 == i && q.2.category == 2)))) : zLs ad lsB nL (zst ls i v) := by
  refine ⟨hB.1, hB.2.1, fun j w hj hw => ?_⟩
  rcases zg_zst hw with ⟨rfl, rfl⟩ | ⟨h1, h2, h3⟩
  · exact hB.2.2 (j, _) List.mem_cons_self
  · refine hB.2.2 (j, zc ad w) (List.mem_cons_of_mem _ (List.mem_filter.mpr ⟨zlv_mem.mpr ⟨w, hj, h2, rfl⟩, ?_⟩))
    have h4 : ¬ (j + 1 = i ∧ (zc ad w).category = 2) := fun q => h3 ⟨q.1, zcatg.mp q.2⟩
    simp only [Bool.and_eq_true, Bool.not_eq_true', beq_eq_false_iff_ne, ne_eq, Bool.and_eq_false_iff]
    refine ⟨h1, ?_⟩
    by_cases e : j + 1 = i
    · exact Or.inr (fun q => h4 ⟨e, q⟩)
    · exact Or.inl e
theorem zLs.storeJ {ad : Nat → Nat → Nat} {lsA lsB : Array Slot} {nL i : Nat} {ls : zLo} {v : zV} (_h : zLs ad lsA nL ls) (hB : lv_has lsB nL ((i, zc ad v) :: (zlv ad nL ls).filter (fun q => !(q.1 == i) && (!(q.1 == i + 1) && !(q.1 + 1 == i && q.2.category == 2))))) : zLs ad lsB nL (zstJ ls i v) := by
  refine ⟨hB.1, hB.2.1, fun j w hj hw => ?_⟩
  rcases zg_zstJ hw with ⟨rfl, rfl⟩ | ⟨h1, h5, h2, h3⟩
  · exact hB.2.2 (j, _) List.mem_cons_self
  · refine hB.2.2 (j, zc ad w) (List.mem_cons_of_mem _ (List.mem_filter.mpr ⟨zlv_mem.mpr ⟨w, hj, h2, rfl⟩, ?_⟩))
    have h4 : ¬ (j + 1 = i ∧ (zc ad w).category = 2) := fun q => h3 ⟨q.1, zcatg.mp q.2⟩
    simp only [Bool.and_eq_true, Bool.not_eq_true', beq_eq_false_iff_ne, ne_eq, Bool.and_eq_false_iff]
    refine ⟨h1, h5, ?_⟩
    by_cases e : j + 1 = i
    · exact Or.inr (fun q => h4 ⟨e, q⟩)
    · exact Or.inl e
/-! cells -/
theorem zclo.nodup {L : List (Nat × Nat)} (h : zclo L = true) : L.Nodup := by
  simp only [zclo, Bool.and_eq_true, decide_eq_true_eq] at h; exact h.1.1
theorem zws_at {ad : Nat → Nat → Nat} {cy : Nat → ClassId} {L : List (Nat × Nat)} {K j : Nat} (h : zH) (hq : (K, j) ∈ L) : ∃ q0 : Nat, L[q0]? = some (K, j) ∧ (zws ad cy L h)[q0]? = some (ad K j, zcon ad cy h K j) := by
  obtain ⟨i, hi⟩ := List.getElem?_of_mem hq
  exact ⟨i, hi, by unfold zws; rw [List.getElem?_map, hi]; rfl⟩
theorem zws_set {ad : Nat → Nat → Nat} {cy : Nat → ClassId} {L : List (Nat × Nat)} {K j q0 : Nat} {h h' : zH} {E : va_E} (hn : L.Nodup) (hq : L[q0]? = some (K, j)) (hE : zcon ad cy h' K j = E) (ho : ∀ q : Nat × Nat, q ≠ (K, j) → zcon ad cy h' q.1 q.2 = zcon ad cy h q.1 q.2) :
    (zws ad cy L h).set q0 (ad K j, E) = zws ad cy L h' := by
  apply List.ext_getElem?
  intro i
  unfold zws
  by_cases e : q0 = i
  · subst e
    have hl : q0 < L.length := (List.getElem?_eq_some_iff.mp hq).1
    rw [List.getElem?_set_self (by simpa using hl), List.getElem?_map, hq]
    simp [hE]
  · rw [List.getElem?_set_ne e, List.getElem?_map, List.getElem?_map]
    cases hi : L[i]? with
    | none => rfl
    | some q =>
      have hne : q ≠ (K, j) := by
        intro hq2
        subst hq2
        have h1 := List.getElem?_eq_some_iff.mp hq
        have h2 := List.getElem?_eq_some_iff.mp hi
        exact e ((List.getElem_inj hn).mp (h1.2.trans h2.2.symm))
      simp [ho q hne]
theorem zfs_get {ad : Nat → Nat → Nat} {h : zH} {K j : Nat} : ∀ (fl : List (Nat × Nat × Option Nat)) (k0 k : Nat), (zfs ad h K j k0 fl)[k]? = (fl[k]?).map (zfv ad h K j (k0 + k))
  | [], _, _ => by simp [zfs]
  | f :: r, k0, 0 => by simp [zfs]
  | f :: r, k0, k + 1 => by
    simp only [zfs, List.getElem?_cons_succ]
    rw [zfs_get r (k0 + 1) k, show k0 + 1 + k = k0 + (k + 1) by omega]
theorem zfs_len {ad : Nat → Nat → Nat} {h : zH} {K j : Nat} : ∀ (fl : List (Nat × Nat × Option Nat)) (k0 : Nat), (zfs ad h K j k0 fl).length = fl.length
  | [], _ => rfl
  | f :: r, k0 => by simp only [zfs, List.length_cons, zfs_len r (k0 + 1)]
