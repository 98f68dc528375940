/-! What the Statement gives at the start: the text, the statics, the classes. -/
def zgv : List Cond := flatC (Jvm.Cond.and given_1 narrow_1)
def zel (j : Nat) : Cond := Cond.eq (.elem (.field (.string "SoapTreaty$Tokens" 19) "java/lang/String" "value" "[B") (.int (Int32.ofNat j))) (.int (zSt.getD j 0))
theorem zel_all : (zgv.drop 58).take 141 = (List.range 141).map zel := by decide +kernel
theorem zel_in {j : Nat} (hj : j < 141) : zel j ∈ zgv := by
  have h1 : zel j ∈ (List.range 141).map zel := List.mem_map.mpr ⟨j, List.mem_range.mpr hj, rfl⟩
  rw [← zel_all] at h1
  exact List.mem_of_mem_drop (List.mem_of_mem_take h1)
theorem g_text {A : Nat → Prop} {args : Array Value} {s : State} (hA : ∀ a : Nat, a < s.heap.size → ¬ A a) (hs : ∀ w ∈ zgv, w.before args s = true) : ∃ qK qV : Nat, (Term.string "SoapTreaty$Tokens" 19).eval args s none [] s = some (.ref qK) ∧ va_O "java/lang/String" qK A s s.heap ∧ va_OF "java/lang/String" "coder" "B" (.int 0) qK A s s.heap ∧ va_OF "java/lang/String" "value" "[B" (.ref qV) qK A s s.heap ∧ va_T .byte qV 141 (fun j => .int (zSt.getD j 0)) A s s.heap := by
  obtain ⟨adK, adV, hS, he⟩ := vk_Sof (args := args) (s := s) (N := 1) (tm := fun _ => .string "SoapTreaty$Tokens" 19) (len := [141]) (byt := [zSt]) (A := A)
    (fun i hi => by rw [show i = 0 by omega]; decide)
    (fun i hi => hs _ (List.mem_of_getElem? (i := 54) (by decide +kernel)))
    (fun i hi => hs _ (List.mem_of_getElem? (i := 55) (by decide +kernel)))
    (fun i hi => hs _ (List.mem_of_getElem? (i := 56) (by decide +kernel)))
    (fun i hi => by rw [show i = 0 by omega]; exact hs _ (List.mem_of_getElem? (i := 57) (by decide +kernel)))
    (fun i hi j hj => by
      have hi : i = 0 := by omega
      subst hi
      exact hs _ (zel_in hj))
    (fun i j hi hj hij => absurd (show i = j by omega) hij) hA
  exact ⟨adK 0, adV 0, he 0 (by decide), hS.1 0 (by decide)⟩
theorem g_Zs {args : Array Value} {s : State} (ht : ∀ w ∈ lw_tbl, w.before args s = true) (hs : ∀ w ∈ zgv, w.before args s = true) : ∃ qK qV : Nat, zZ1 s.heap.size qK qV s := by
  have hA : ∀ a : Nat, a < s.heap.size → ¬ zSr s.heap.size a := fun a h q => absurd (show s.heap.size ≤ a from q) (by omega)
  obtain ⟨qK, qV, h1, h2, h3, h4, h5⟩ := g_text hA hs
  have w1 : Cond.stringRef "SoapTreaty$Tokens" 19 zSx ∈ lw_tbl := by decide +kernel
  have w2 : Cond.laysStatic "java/lang/String" "COMPACT_STRINGS" "Z" ∈ lw_tbl := by decide +kernel
  have w3 : Cond.laysStatic "jdk/internal/util/Preconditions" "SIOOBE_FORMATTER" "Ljava/util/function/BiFunction;" ∈ lw_tbl := by decide +kernel
  have w4 : Cond.initialized "java/lang/String" ∈ lw_tbl := by decide +kernel
  have w5 : Cond.initialized "jdk/internal/util/Preconditions" ∈ lw_tbl := by decide +kernel
  refine ⟨qK, qV, ⟨vk_R.of (ht _ w1) h1, h2, h3, h4, h5, va_Zof (ht _ w2) (ht _ w4) (va_eqt (hs _ (List.mem_of_getElem? (i := 4) (by decide +kernel)))) hA, va_Zqof (ht _ w3) (ht _ w5) (hs _ (List.mem_of_getElem? (i := 5) (by decide +kernel))) hA⟩, Nat.le_refl _⟩
theorem g_Z9 {args : Array Value} {s : State} (ht : ∀ w ∈ lw_tbl, w.before args s = true) (hs : ∀ w ∈ zgv, w.before args s = true) : vx_Zq Bundle.tN "UNASSIGNED_STACK" Bundle.steD (fun q => s.heap.size ≤ q) s s.heap ∧ vx_Zq Bundle.tN "SUPPRESSED_SENTINEL" Bundle.listD (fun q => s.heap.size ≤ q) s s.heap ∧ zNw9 s := by
  have hA : ∀ a : Nat, a < s.heap.size → ¬ s.heap.size ≤ a := fun a h q => by omega
  have w1 : Cond.laysStatic Bundle.tN "UNASSIGNED_STACK" Bundle.steD ∈ lw_tbl := by decide +kernel
  have w2 : Cond.laysStatic Bundle.tN "SUPPRESSED_SENTINEL" Bundle.listD ∈ lw_tbl := by decide +kernel
  have w3 : Cond.initialized Bundle.tN ∈ lw_tbl := by decide +kernel
  have w4 : ∀ w ∈ zB9, w ∈ lw_tbl := by decide +kernel
  exact ⟨vx_Zqof (ht _ w1) (ht _ w3) (hs _ (List.mem_of_getElem? (i := 9) (by decide +kernel))) hA, vx_Zqof (ht _ w2) (ht _ w3) (hs _ (List.mem_of_getElem? (i := 10) (by decide +kernel))) hA, fun w hw => va_tabs (zB9_t w hw) rfl (ht w (w4 w hw))⟩
theorem g_NwI {args : Array Value} {s : State} (ht : ∀ w ∈ lw_tbl, w.before args s = true) : zNwI s := by
  have w1 : Cond.methodLinkNest "SoapTreaty" 9 ⟨"SoapTreaty$Tape", "<init>", "()V"⟩ "SoapTreaty" ∈ lw_tbl := by decide +kernel
  have w2 : Cond.methodLinkNest "SoapTreaty$Congress" 42 ⟨"SoapTreaty$Law", "<init>", "()V"⟩ "SoapTreaty" ∈ lw_tbl := by decide +kernel
  have w3 : Cond.methodLinkNest "SoapTreaty$Page" 20 ⟨"SoapTreaty$Lines", "<init>", "()V"⟩ "SoapTreaty" ∈ lw_tbl := by decide +kernel
  have w4 : Cond.methodLinkNest "SoapTreaty$Page" 27 ⟨"SoapTreaty$Seen", "<init>", "()V"⟩ "SoapTreaty" ∈ lw_tbl := by decide +kernel
  have w5 : Cond.methodLinkNest "SoapTreaty$Reader" 23 ⟨"SoapTreaty$Lines", "<init>", "()V"⟩ "SoapTreaty" ∈ lw_tbl := by decide +kernel
  have w6 : Cond.arrayOver (.object "SoapTreaty$Page") ∈ lw_tbl := by decide +kernel
  have w7 : Cond.arrayOver (.object "SoapTreaty$State") ∈ lw_tbl := by decide +kernel
  exact ⟨va_Nw.of rfl (ht _ w1), va_Nw.of rfl (ht _ w2), va_Nw.of rfl (ht _ w3), va_Nw.of rfl (ht _ w4), va_Nw.of rfl (ht _ w5), va_AO.of (ht _ w6), va_AO.of (ht _ w7)⟩
theorem g_cl {args : Array Value} {s : State} (ht : ∀ w ∈ zT, w.before args s = true) {K N : Nat} {Cn : String} (h : zCL K Cn N) : ∃ z : ClassId × (Nat → Nat), ∀ q : vw_C, zcl[K]? = some q → u_Kn s q.1 q.2.1 q.2.2 z.1 z.2 := by
  obtain ⟨T, hc, hi, hins, -, -⟩ := h
  obtain ⟨c, iS, hk⟩ := u_known (n := N) ht hi (ht _ hins)
  refine ⟨(c, iS), fun q hq => ?_⟩
  rw [hc] at hq
  cases hq
  exact hk
theorem zcl_13 : zcl.length = 13 := by decide +kernel
theorem g_cls {args : Array Value} {s : State} (ht : ∀ w ∈ zT, w.before args s = true) : ∃ D : va_G, ∀ (K : Nat) (q : vw_C), zcl[K]? = some q → u_Kn s q.1 q.2.1 q.2.2 (D.1 K) (D.2 K) := by
  have h0 : ∀ K : Nat, ∃ z : ClassId × (Nat → Nat), ∀ q : vw_C, zcl[K]? = some q → u_Kn s q.1 q.2.1 q.2.2 z.1 z.2 := by
    intro K
    match K with
    | 0 => exact g_cl ht zCL_0
    | 1 => exact g_cl ht zCL_1
    | 2 => exact g_cl ht zCL_2
    | 3 => exact g_cl ht zCL_3
    | 4 => exact g_cl ht zCL_4
    | 5 => exact g_cl ht zCL_5
    | 6 => exact g_cl ht zCL_6
    | 7 => exact g_cl ht zCL_7
    | 8 => exact g_cl ht zCL_8
    | 9 => exact g_cl ht zCL_9
    | 10 => exact g_cl ht zCL_10
    | 11 => exact g_cl ht zCL_11
    | 12 => exact g_cl ht zCL_12
    | K + 13 =>
      refine ⟨(0, fun _ => 0), fun q hq => ?_⟩
      have := (List.getElem?_eq_some_iff.mp hq).1
      rw [zcl_13] at this
      omega
  obtain ⟨f, hf⟩ := Classical.axiomOfChoice h0
  exact ⟨(fun K => (f K).1, fun K => (f K).2), hf⟩
theorem g_ar {args : Array Value} {s : State} {ty : FieldType} (h : (Cond.arrayClass ty).before args s = true) : ∃ c : ClassId, ArrOfT s c ty ∧ s.vm.findClass ("[" ++ ty.toString) = some c := by
  obtain ⟨c, k, comp, h1, h2, h3⟩ := Cond.arrayClass_spec h
  exact ⟨c, fun n z => ⟨fun k h => (by cases h), k, h2, comp, h3⟩, h1⟩
theorem g_ao {s : State} {Cn : String} (h : va_AO Cn s) : ∃ c : ClassId, ArrOfT s c (.object Cn) ∧ va_RA s c (.object Cn) := by
  obtain ⟨comp, c, k, h1, h2, h3, h4, h5⟩ := Cond.arrayOver_spec h
  exact ⟨c, fun n z => ⟨fun k h => (by cases h), k, h3, comp, h4⟩, k, comp, h3, h4, h1, h5⟩
theorem g_K {args : Array Value} {s : State} (ht : ∀ w ∈ zT, w.before args s = true) (hN : zNwI s) : ∃ (D : va_G) (cy : Nat → ClassId), va_K D zcl (ztys cy) s := by
  obtain ⟨D, hD⟩ := g_cls ht
  obtain ⟨c1, a1, b1⟩ := g_ar (ht _ zAT1.2.1)
  obtain ⟨c2, a2, b2⟩ := g_ar (ht _ zAT2.2.1)
  obtain ⟨c3, a3, b3⟩ := g_ar (ht _ zAT3.2.1)
  obtain ⟨c4, a4, b4⟩ := g_ar (ht _ zAT4.2.1)
  obtain ⟨c5, a5, b5⟩ := g_ao hN.2.2.2.2.2.1
  obtain ⟨c6, a6, b6⟩ := g_ao hN.2.2.2.2.2.2
  refine ⟨D, fun t => match t with | 1 => c1 | 2 => c2 | 3 => c3 | 4 => c4 | 5 => c5 | _ => c6, hD, fun k q hk => ?_⟩
  match k, hk with
  | 0, hk => cases hk; exact ⟨a1, b1⟩
  | 1, hk => cases hk; exact ⟨a2, b2⟩
  | 2, hk => cases hk; exact ⟨a3, b3⟩
  | 3, hk => cases hk; exact ⟨a4, b4⟩
  | 4, hk => cases hk; exact ⟨a5, b5⟩
  | 5, hk => cases hk; exact ⟨a6, b6⟩
  | k + 6, hk =>
    have := (List.getElem?_eq_some_iff.mp hk).1
    simp only [List.length_cons, List.length_nil] at this
    omega
