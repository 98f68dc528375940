/-! The text of the words, and what the JDK's own methods answer of it. (By program: wip/whole/src/jdk.py) -/
def zSx : String := "power water cake from to thick hard pebble sliver wears wash hair pick gift press week plain naval dry carver not and or left tough wet used "
def zSt : List Int32 := [112, 111, 119, 101, 114, 32, 119, 97, 116, 101, 114, 32, 99, 97, 107, 101, 32, 102, 114, 111, 109, 32, 116, 111, 32, 116, 104, 105, 99, 107, 32, 104, 97, 114, 100, 32, 112, 101, 98, 98, 108, 101, 32, 115, 108, 105, 118, 101, 114, 32, 119, 101, 97, 114, 115, 32, 119, 97, 115, 104, 32, 104, 97, 105, 114, 32, 112, 105, 99, 107, 32, 103, 105, 102, 116, 32, 112, 114, 101, 115, 115, 32, 119, 101, 101, 107, 32, 112, 108, 97, 105, 110, 32, 110, 97, 118, 97, 108, 32, 100, 114, 121, 32, 99, 97, 114, 118, 101, 114, 32, 110, 111, 116, 32, 97, 110, 100, 32, 111, 114, 32, 108, 101, 102, 116, 32, 116, 111, 117, 103, 104, 32, 119, 101, 116, 32, 117, 115, 101, 100, 32]
abbrev zNo : Nat → Prop := fun _ => False
def zSr (b0 : Nat) : Nat → Prop := fun q => b0 ≤ q
/-- what is known of the text, wherever no cell from b0 on is meant -/
def zZs (b0 qK qV : Nat) (U : State) : Prop := vk_R "SoapTreaty$Tokens" 19 zSx qK U ∧ va_O "java/lang/String" qK (zSr b0) U U.heap ∧ va_OF "java/lang/String" "coder" "B" (.int 0) qK (zSr b0) U U.heap ∧ va_OF "java/lang/String" "value" "[B" (.ref qV) qK (zSr b0) U U.heap ∧ va_T .byte qV 141 (fun j => .int (zSt.getD j 0)) (zSr b0) U U.heap ∧ va_Z "java/lang/String" "COMPACT_STRINGS" "Z" (.int 1) (zSr b0) U U.heap ∧ va_Zq "jdk/internal/util/Preconditions" "SIOOBE_FORMATTER" "Ljava/util/function/BiFunction;" (zSr b0) U U.heap
theorem zZs.warm {b0 qK qV : Nat} {s U : State} (hW : s.WarmedH U.vm) (hH : ∀ a : Nat, a < s.heap.size → ¬ zSr b0 a → U.heap[a]? = s.heap[a]?) (h : zZs b0 qK qV s) : zZs b0 qK qV U :=
  ⟨h.1.warm hW, va_O.moved hW.alike (h.2.1.kept hH), va_OF.moved hW.alike (h.2.2.1.kept hH), va_OF.moved hW.alike (h.2.2.2.1.kept hH), va_T.moved hW.alike (h.2.2.2.2.1.kept hH), va_Z.moved hW.alike (h.2.2.2.2.2.1.kept hH), va_Zq.moved hW.alike (h.2.2.2.2.2.2.kept hH)⟩
theorem zZs.blind {b0 qK qV : Nat} {U : State} {g : JFrame} {mk : MethodId} {a : Array Value} (h : zZs b0 qK qV U) : zZs b0 qK qV (U.calling g mk a) := zZs.warm (s := U) (U := U.calling g mk a) (State.WarmedH.refl U) (fun _ _ _ => rfl) h
/-- a JDK method's contract: it answers r, and changes nothing -/
def zMj (l : Launch) (d : Nat) (y : MethodName) (cc : ByteArray) (maxL : Nat) (ret : FieldType) (as : List Value) (B : State → Prop) (r : Int32) : Prop := Met l y (.code y cc maxL (some ret) :: zT) (zroom d) (va_Pc as B) (va_Qi (S := Unit) (fun x _ => x = r) (fun _ _ => True) zNo) 0 0 zNo
def zMk (l : Launch) (d : Nat) (y : MethodName) (cc : ByteArray) (maxL : Nat) (as : List Value) (B : State → Prop) : Prop := Met l y (.code y cc maxL none :: zT) (zroom d) (va_Pc as B) (va_Qv (S := Unit) (fun _ => True) (fun _ _ => True) zNo) 0 0 zNo
theorem j_start {l : Launch} {d : Nat} {y : MethodName} {cc : ByteArray} {maxL : Nat} {ret : Option FieldType} {as : List Value} {B : State → Prop} {Qc : Array Value → State → Outcome → State → Prop} (hy : plainName y.cls = true) (hlen : (lg_sl as).length ≤ maxL)
    (body : ∀ (p : Program) (e : Env) (s : State) (m : MethodId) (below : List Frame) (meth : Method) (c : Code) (ls : Array Slot), p.tables.exec = Jvm.exec → c.code = cc → c.maxLocals = maxL → s.vm.findClass y.cls = some m.cls → (∀ w ∈ zT, w.before as.toArray s = true) → meth.sig.returnType = ret → meth.locks = false → B s → lv_has ls maxL (lv_args 0 as) → va_S zNo s.heap s.heap [] → W p l e (zroom d) s m as.toArray below meth c s.heap [] 0 0 (MQ below Qc as.toArray s 0 0 zNo) (F0 m 0 ls [])) : Met l y (.code y cc maxL ret :: zT) (zroom d) (va_Pc as B) Qc 0 0 zNo := by
  refine Met.ofW (cc := cc) (maxL := maxL) (ret := ret) hy rfl ?_
  intro p e s m args below meth c s₁ B9 hml hv
  obtain ⟨rfl, hB⟩ := hv
  have hts := atoms_spec (ws := Cond.code y cc maxL ret :: zT) B9.pre
  have hown : s.vm.findClass y.cls = some m.cls := findClass_of_methodNamed B9.named
  have hl := lv_entry as (n := maxL) hlen
  rw [lg_entry_eq]
  exact body p e s m below meth c _ B9.exec B9.bytes hml hown (fun w hw => hts w (List.mem_cons_of_mem _ hw)) B9.returns B9.notSynchronized hB hl va_S.rf
theorem jr_Si {p : Program} {l : Launch} {e : Env} {R : Room} {s : State} {m : MethodId} {args : Array Value} {below : List Frame} {meth : Method} {c : Code} {H : Heap} {locs : List Loc} {cells slots : Nat} {Q : State → Prop} {pc : Nat} {ls : Array Slot} {rest : List Value} {cc : ByteArray} {nL : Nat} {own : String} (hx : p.tables.exec = Jvm.exec) (hb : c.code = cc) (hml : c.maxLocals = nL) (hown : s.vm.findClass own = some m.cls) (hts : ∀ w ∈ zT, w.before args s = true) {A0 : Nat → Prop} (hS : va_S A0 s.heap H locs) {r : Int32} {d2 idx maxL2 n2 : Nat} {y2 : MethodName} {bytes2 : ByteArray} {ret2 : FieldType} {as : List Value} {B : State → Prop} (hM : zMj l d2 y2 bytes2 maxL2 ret2 as B r) (hm : zMS own idx y2 bytes2 maxL2 (some ret2) n2) (hbl : ∀ (U : State) (g : JFrame) (mk : MethodId) (a : Array Value), B U → B (U.calling g mk a)) (hB : ∀ U : State, U.heap = H → s.WarmedH U.vm → B U) (hR : d2 + 2 ≤ R.frames ∧ 64 * (d2 + 2) ≤ R.locals) (hn : as.length = n2) (hs : ls.size = nL) (hcat : (rest.map fun v => v.category).sum ≤ 8) (hcs : cells ≤ R.cells ∧ slots ≤ R.slots) (dd : decode cc pc = .ok (.invokestatic idx, 3))
    (kk : ∀ (H1 : Heap) (locs1 : List Loc), H.size ≤ H1.size → (∀ q : Nat, q < H.size → H1[q]? = H[q]?) → va_S A0 s.heap H1 locs1 → W p l e R s m args below meth c H1 locs1 cells slots Q (F0 m (pc + 3) ls (.int r :: rest))) : W p l e R s m args below meth c H locs cells slots Q (F0 m pc ls (as.reverse ++ rest)) := by
  obtain ⟨⟨f1, f2, f4, f5⟩, hmx, hn1, hn2, hn3⟩ := hm
  have hcw : CallB R s args own idx y2 bytes2 maxL2 (some ret2) (Cond.code y2 bytes2 maxL2 (some ret2) :: zT) (zroom d2) 0 0 n2 ∧ (Cond.static y2).before args s = true := ⟨callB_of n2 hts (zgood f5) rfl rfl rfl (hts _ f4) (hts _ f1) ⟨hn1, hn2, hn3⟩ ⟨by simp only [zroom]; omega, by simp only [zroom]; omega⟩, hts _ f2⟩
  have hPS : PreS s H (va_Pc as B) as := ⟨fun a U g mk q => ⟨q.1, hbl U g mk a q.2⟩, fun U hU hW => ⟨rfl, hB U hU hW⟩⟩
  refine va_calli (va_runS (As := as) (rest := rest) ⟨hx, hb, hml, hown, hts⟩ hM hcw hPS rfl hn hs rfl (lv_room hcat) dd hcs) hS (fun q _ hq => hq.elim) (fun q hq => hq.elim) (fun r1 u t1 H1 locs1 ht1 hvm hw hB hz1 hk1 hS1 => ?_)
  have hw : r1 = r := hw
  subst hw
  exact kk H1 locs1 hz1 (fun q hq => hk1 q hq (fun z => z)) hS1
theorem jr_Sv {p : Program} {l : Launch} {e : Env} {R : Room} {s : State} {m : MethodId} {args : Array Value} {below : List Frame} {meth : Method} {c : Code} {H : Heap} {locs : List Loc} {cells slots : Nat} {Q : State → Prop} {pc : Nat} {ls : Array Slot} {rest : List Value} {cc : ByteArray} {nL : Nat} {own : String} (hx : p.tables.exec = Jvm.exec) (hb : c.code = cc) (hml : c.maxLocals = nL) (hown : s.vm.findClass own = some m.cls) (hts : ∀ w ∈ zT, w.before args s = true) {A0 : Nat → Prop} (hS : va_S A0 s.heap H locs)  {d2 idx maxL2 n2 : Nat} {y2 : MethodName} {bytes2 : ByteArray}  {as : List Value} {B : State → Prop} (hM : zMk l d2 y2 bytes2 maxL2 as B) (hm : zMS own idx y2 bytes2 maxL2 none n2) (hbl : ∀ (U : State) (g : JFrame) (mk : MethodId) (a : Array Value), B U → B (U.calling g mk a)) (hB : ∀ U : State, U.heap = H → s.WarmedH U.vm → B U) (hR : d2 + 2 ≤ R.frames ∧ 64 * (d2 + 2) ≤ R.locals) (hn : as.length = n2) (hs : ls.size = nL) (hcat : (rest.map fun v => v.category).sum ≤ 8) (hcs : cells ≤ R.cells ∧ slots ≤ R.slots) (dd : decode cc pc = .ok (.invokestatic idx, 3))
    (kk : ∀ (H1 : Heap) (locs1 : List Loc), H.size ≤ H1.size → (∀ q : Nat, q < H.size → H1[q]? = H[q]?) → va_S A0 s.heap H1 locs1 → W p l e R s m args below meth c H1 locs1 cells slots Q (F0 m (pc + 3) ls (rest))) : W p l e R s m args below meth c H locs cells slots Q (F0 m pc ls (as.reverse ++ rest)) := by
  obtain ⟨⟨f1, f2, f4, f5⟩, hmx, hn1, hn2, hn3⟩ := hm
  have hcw : CallB R s args own idx y2 bytes2 maxL2 none (Cond.code y2 bytes2 maxL2 none :: zT) (zroom d2) 0 0 n2 ∧ (Cond.static y2).before args s = true := ⟨callB_of n2 hts (zgood f5) rfl rfl rfl (hts _ f4) (hts _ f1) ⟨hn1, hn2, hn3⟩ ⟨by simp only [zroom]; omega, by simp only [zroom]; omega⟩, hts _ f2⟩
  have hPS : PreS s H (va_Pc as B) as := ⟨fun a U g mk q => ⟨q.1, hbl U g mk a q.2⟩, fun U hU hW => ⟨rfl, hB U hU hW⟩⟩
  refine va_callv (va_runS (As := as) (rest := rest) ⟨hx, hb, hml, hown, hts⟩ hM hcw hPS rfl hn hs rfl (lv_room hcat) dd hcs) hS (fun q _ hq => hq.elim) (fun q hq => hq.elim) (fun u t1 H1 locs1 ht1 hvm hw hB hz1 hk1 hS1 => ?_)
  exact kk H1 locs1 hz1 (fun q hq => hk1 q hq (fun z => z)) hS1
def zMW (own : String) (idx : Nat) (y : MethodName) (bytes : ByteArray) (maxL : Nat) (ret : Option FieldType) (n : Nat) : Prop := (Cond.methodLink own idx y ∈ zT ∧ Cond.instanceMethod y ∈ zT ∧ Cond.selects y.cls y y ∈ zT ∧ Cond.initialized y.cls ∈ zT ∧ Cond.code y bytes maxL ret ∈ zT) ∧ maxL ≤ 45 ∧ y.cls ≠ "java/lang/invoke/MethodHandle" ∧ y.cls ≠ "java/lang/invoke/VarHandle" ∧ (parseMethodDescriptor y.desc).map (fun d => d.parameters.length) = some n
theorem jr_Vi {p : Program} {l : Launch} {e : Env} {R : Room} {s : State} {m : MethodId} {args : Array Value} {below : List Frame} {meth : Method} {c : Code} {H : Heap} {locs : List Loc} {cells slots : Nat} {Q : State → Prop} {pc : Nat} {ls : Array Slot} {rest : List Value} {cc : ByteArray} {nL : Nat} {own : String} (hx : p.tables.exec = Jvm.exec) (hb : c.code = cc) (hml : c.maxLocals = nL) (hown : s.vm.findClass own = some m.cls) (hts : ∀ w ∈ zT, w.before args s = true) {A0 : Nat → Prop} (hS : va_S A0 s.heap H locs) {r : Int32} {d2 idx maxL2 n2 b : Nat} {y2 : MethodName} {bytes2 : ByteArray} {ret2 : FieldType} {as : List Value} {B : State → Prop} (hM : zMj l d2 y2 bytes2 maxL2 ret2 (.ref b :: as) B r) (hm : zMW own idx y2 bytes2 maxL2 (some ret2) n2) (hbl : ∀ (U : State) (g : JFrame) (mk : MethodId) (a : Array Value), B U → B (U.calling g mk a)) (hB : ∀ U : State, U.heap = H → s.WarmedH U.vm → B U) (hrv : ∃ cell : Cell, H[b]? = some cell ∧ cell.vm.isStatics = false ∧ s.vm.findClass y2.cls = some cell.cls) (hR : d2 + 2 ≤ R.frames ∧ 64 * (d2 + 2) ≤ R.locals) (hn : as.length = n2) (hs : ls.size = nL) (hcat : (rest.map fun v => v.category).sum ≤ 8) (hcs : cells ≤ R.cells ∧ slots ≤ R.slots) (dd : decode cc pc = .ok (.invokevirtual idx, 3))
    (kk : ∀ (H1 : Heap) (locs1 : List Loc), H.size ≤ H1.size → (∀ q : Nat, q < H.size → H1[q]? = H[q]?) → va_S A0 s.heap H1 locs1 → W p l e R s m args below meth c H1 locs1 cells slots Q (F0 m (pc + 3) ls (.int r :: rest))) : W p l e R s m args below meth c H locs cells slots Q (F0 m pc ls (as.reverse ++ .ref b :: rest)) := by
  obtain ⟨⟨f1, f2, f3, f4, f5⟩, hmx, hn1, hn2, hn3⟩ := hm
  have hcw : CallW R s args own y2.cls idx y2 bytes2 maxL2 (some ret2) (Cond.code y2 bytes2 maxL2 (some ret2) :: zT) (zroom d2) 0 0 n2 := ⟨callB_of n2 hts (zgood f5) rfl rfl rfl (hts _ f4) (hts _ f1) ⟨hn1, hn2, hn3⟩ ⟨by simp only [zroom]; omega, by simp only [zroom]; omega⟩, hts _ f2, hts _ f3⟩
  have hPV : PreV s H y2.cls b (va_Pc (.ref b :: as) B) as := ⟨fun a U g mk q => ⟨q.1, hbl U g mk a q.2⟩, hrv, fun U hU hW => ⟨rfl, hB U hU hW⟩⟩
  refine va_calli (va_runV (As := as) (rest := rest) (b := b) ⟨hx, hb, hml, hown, hts⟩ hM hcw hPV rfl hn hs rfl (lv_room hcat) dd hcs) hS (fun q _ hq => hq.elim) (fun q hq => hq.elim) (fun r1 u t1 H1 locs1 ht1 hvm hw hB hz1 hk1 hS1 => ?_)
  have hw : r1 = r := hw
  subst hw
  exact kk H1 locs1 hz1 (fun q hq => hk1 q hq (fun z => z)) hS1
def y_jpre : MethodName := ⟨"jdk/internal/util/Preconditions", "checkIndex", "(IILjava/util/function/BiFunction;)I"⟩
def y_jchk : MethodName := ⟨"java/lang/String", "checkIndex", "(II)V"⟩
def y_jlat : MethodName := ⟨"java/lang/String", "isLatin1", "()Z"⟩
def y_jcod : MethodName := ⟨"java/lang/String", "coder", "()B"⟩
def y_jlen : MethodName := ⟨"java/lang/String", "length", "()I"⟩
def y_jch1 : MethodName := ⟨"java/lang/StringLatin1", "charAt", "([BI)C"⟩
def y_jcha : MethodName := ⟨"java/lang/String", "charAt", "(I)C"⟩
theorem jm_pre : zMS "java/lang/String" 1059 y_jpre prog_30_method_11_code 3 (some .int) 3 := ⟨⟨zTd (by decide +kernel), zTd (by decide +kernel), zTd (by decide +kernel), zTd (by decide +kernel)⟩, by decide, by decide, by decide, by decide +kernel⟩
theorem jm_chk : zMS "java/lang/StringLatin1" 9 y_jchk prog_22_method_155_code 2 none 2 := ⟨⟨zTd (by decide +kernel), zTd (by decide +kernel), zTd (by decide +kernel), zTd (by decide +kernel)⟩, by decide, by decide, by decide, by decide +kernel⟩
theorem jm_ch1 : zMS "java/lang/String" 495 y_jch1 prog_23_method_2_code 2 (some .char) 2 := ⟨⟨zTd (by decide +kernel), zTd (by decide +kernel), zTd (by decide +kernel), zTd (by decide +kernel)⟩, by decide, by decide, by decide, by decide +kernel⟩
theorem jm_lat : zMW "java/lang/String" 492 y_jlat prog_22_method_154_code 1 (some .boolean) 0 := ⟨⟨zTd (by decide +kernel), zTd (by decide +kernel), zTd (by decide +kernel), zTd (by decide +kernel), zTd (by decide +kernel)⟩, by decide, by decide, by decide, by decide +kernel⟩
theorem jm_cod : zMW "java/lang/String" 335 y_jcod prog_22_method_152_code 1 (some .byte) 0 := ⟨⟨zTd (by decide +kernel), zTd (by decide +kernel), zTd (by decide +kernel), zTd (by decide +kernel), zTd (by decide +kernel)⟩, by decide, by decide, by decide, by decide +kernel⟩
theorem jm_len : zMW "SoapTreaty$Tokens" 21 y_jlen prog_22_method_54_code 1 (some .int) 0 := ⟨⟨zTd (by decide +kernel), zTd (by decide +kernel), zTd (by decide +kernel), zTd (by decide +kernel), zTd (by decide +kernel)⟩, by decide, by decide, by decide, by decide +kernel⟩
theorem jm_cha : zMW "SoapTreaty$Tokens" 27 y_jcha prog_22_method_56_code 2 (some .char) 1 := ⟨⟨zTd (by decide +kernel), zTd (by decide +kernel), zTd (by decide +kernel), zTd (by decide +kernel), zTd (by decide +kernel)⟩, by decide, by decide, by decide, by decide +kernel⟩
theorem j_pre {l : Launch} {i n : Nat} (hi : i < n) (hn : n < 2147483648) {v : Value} (hv : v = .null ∨ ∃ t, v = .ref t) : zMj l 1 y_jpre prog_30_method_11_code 3 .int [.int (nI i), .int (nI n), v] (fun _ => True) (nI i) := by
  rcases hv with rfl | ⟨t9, rfl⟩ <;> (
  refine j_start (by decide) (Nat.le_of_ble_eq_true rfl) ?_
  intro p e s m below meth c ls hx hb hml hown hts hrt hlk hB hl hS
  refine lv_iload_n hx hb (by decide +kernel : decode prog_30_method_11_code 0 = .ok (.iload_n 0, 1)) rfl (lv_at hl 0 rfl) ?_
  refine lv_if_lt (tgt := 9) hx hb (by decide +kernel : decode prog_30_method_11_code 1 = .ok (.ifCond .lt 8, 3)) (by decide) (fun q => absurd q (nI_pos (by omega))) (fun _ => ?_)
  refine lv_iload_n hx hb (by decide +kernel : decode prog_30_method_11_code 4 = .ok (.iload_n 0, 1)) rfl (lv_at hl 0 rfl) ?_
  refine lv_iload_n hx hb (by decide +kernel : decode prog_30_method_11_code 5 = .ok (.iload_n 1, 1)) rfl (lv_at hl 1 rfl) ?_
  refine lv_icmp_lt (tgt := 16) hx hb (by decide +kernel : decode prog_30_method_11_code 6 = .ok (.if_icmp .lt 10, 3)) (by decide) (fun _ => ?_) (fun q => absurd (nI_lt hi hn) q)
  refine lv_iload_n hx hb (by decide +kernel : decode prog_30_method_11_code 16 = .ok (.iload_n 0, 1)) rfl (lv_at hl 0 rfl) ?_
  exact W.iret hx hb hrt (fun t ht hw => ⟨⟨_, (), rfl, rfl, trivial⟩, hS.F ht⟩) hS.2.2 (by decide +kernel : decode prog_30_method_11_code 17 = .ok (.ireturn, 1)) hlk)
theorem j_chk {l : Launch} {i n : Nat} (hi : i < n) (hn : n < 2147483648) : zMk l 2 y_jchk prog_22_method_155_code 2 [.int (nI i), .int (nI n)] (fun U => va_Zq "jdk/internal/util/Preconditions" "SIOOBE_FORMATTER" "Ljava/util/function/BiFunction;" zNo U U.heap) := by
  refine j_start (by decide) (Nat.le_of_ble_eq_true rfl) ?_
  intro p e s m below meth c ls hx hb hml hown hts hrt hlk hB hl hS
  refine lv_iload_n hx hb (by decide +kernel : decode prog_22_method_155_code 0 = .ok (.iload_n 0, 1)) rfl (lv_at hl 0 rfl) ?_
  refine lv_iload_n hx hb (by decide +kernel : decode prog_22_method_155_code 1 = .ok (.iload_n 1, 1)) rfl (lv_at hl 1 rfl) ?_
  have hv : ∃ v : Value, va_Z "jdk/internal/util/Preconditions" "SIOOBE_FORMATTER" "Ljava/util/function/BiFunction;" v zNo s s.heap ∧ (v = .null ∨ ∃ t, v = .ref t) := by
    rcases hB with h | ⟨t, h⟩
    · exact ⟨_, h, Or.inl rfl⟩
    · exact ⟨_, h, Or.inr ⟨t, rfl⟩⟩
  obtain ⟨v, hZ, hv⟩ := hv
  refine va_gets hx hb hZ hS hown (hts (.fieldLink "java/lang/String" 1053 "jdk/internal/util/Preconditions" "SIOOBE_FORMATTER" "Ljava/util/function/BiFunction;") (zTd (by decide +kernel))) (fun _ q => q) (by decide +kernel : decode prog_22_method_155_code 2 = .ok (.getstatic 1053, 3)) ?_
  refine jr_Si (as := [.int (nI i), .int (nI n), v]) (rest := []) hx hb hml hown hts hS (j_pre hi hn hv) jm_pre (fun _ _ _ _ q => q) (fun _ _ _ => trivial) ⟨by simp only [zroom]; omega, by simp only [zroom]; omega⟩ rfl hl.1 (by decide) ⟨Nat.le_refl _, Nat.le_refl _⟩ (by decide +kernel : decode prog_22_method_155_code 5 = .ok (.invokestatic 1059, 3)) (fun H1 locs1 hz hk hS1 => ?_)
  refine lv_pop hx hb (by decide +kernel : decode prog_22_method_155_code 8 = .ok (.pop, 1)) rfl ?_
  exact W.vret hx hb hrt (fun t ht hw => ⟨⟨(), rfl, trivial, trivial⟩, hS1.F ht⟩) hS1.2.2 (by decide +kernel : decode prog_22_method_155_code 9 = .ok (.return_, 1)) hlk
theorem j_ch1 {l : Launch} {i qV : Nat} (hi : i < 141) : zMj l 3 y_jch1 prog_23_method_2_code 2 .char [.ref qV, .int (nI i)] (fun U => va_T .byte qV 141 (fun j => .int (zSt.getD j 0)) zNo U U.heap ∧ va_Zq "jdk/internal/util/Preconditions" "SIOOBE_FORMATTER" "Ljava/util/function/BiFunction;" zNo U U.heap) (zSt.getD i 0 &&& 255) := by
  refine j_start (by decide) (Nat.le_of_ble_eq_true rfl) ?_
  intro p e s m below meth c ls hx hb hml hown hts hrt hlk hB hl hS
  refine lv_iload_n hx hb (by decide +kernel : decode prog_23_method_2_code 0 = .ok (.iload_n 1, 1)) rfl (lv_at hl 1 rfl) ?_
  refine lv_aload_n hx hb (by decide +kernel : decode prog_23_method_2_code 1 = .ok (.aload_n 0, 1)) rfl (lv_at hl 0 rfl) ?_
  refine va_tlen hx hb hB.1 hS (v := nI 141) rfl (by decide +kernel : decode prog_23_method_2_code 2 = .ok (.arraylength, 1)) ?_
  refine jr_Sv (as := [.int (nI i), .int (nI 141)]) (rest := []) hx hb hml hown hts hS (j_chk hi (by omega)) jm_chk (fun U g mk a q => va_Zq.moved (u := U) (U := U.calling g mk a) (Vm.Alike.refl U.vm) q) (fun U hU hW => by rw [hU]; exact va_Zq.moved hW.alike hB.2) ⟨by simp only [zroom]; omega, by simp only [zroom]; omega⟩ rfl hl.1 (by decide) ⟨Nat.le_refl _, Nat.le_refl _⟩ (by decide +kernel : decode prog_23_method_2_code 3 = .ok (.invokestatic 9, 3)) (fun H1 locs1 hz hk hS1 => ?_)
  refine lv_aload_n hx hb (by decide +kernel : decode prog_23_method_2_code 6 = .ok (.aload_n 0, 1)) rfl (lv_at hl 0 rfl) ?_
  refine lv_iload_n hx hb (by decide +kernel : decode prog_23_method_2_code 7 = .ok (.iload_n 1, 1)) rfl (lv_at hl 1 rfl) ?_
  refine va_tb hx hb hB.1 hS1 (vp_in_nI hi (by omega)) (v := .int (zSt.getD i 0)) (by rw [nI_clamp (by omega)]) (by decide +kernel : decode prog_23_method_2_code 8 = .ok (.baload, 1)) ?_
  refine lv_sipush hx hb (by decide +kernel : decode prog_23_method_2_code 9 = .ok (.sipush 255, 3)) (v := 255) (by decide) ?_
  refine lv_iand hx hb (by decide +kernel : decode prog_23_method_2_code 12 = .ok (.iand, 1)) ?_
  refine lv_i2c hx hb (by decide +kernel : decode prog_23_method_2_code 13 = .ok (.i2c, 1)) (sc_c2 _) ?_
  exact W.zret hx hb hrt (sc_nar _) (fun t ht hw => ⟨⟨_, (), rfl, rfl, trivial⟩, hS1.F ht⟩) hS1.2.2 (by decide +kernel : decode prog_23_method_2_code 14 = .ok (.ireturn, 1)) hlk
theorem j_cod {l : Launch} {qK : Nat} : zMj l 1 y_jcod prog_22_method_152_code 1 .byte [.ref qK] (fun U => va_OF "java/lang/String" "coder" "B" (.int 0) qK zNo U U.heap ∧ va_Z "java/lang/String" "COMPACT_STRINGS" "Z" (.int 1) zNo U U.heap) 0 := by
  refine j_start (by decide) (Nat.le_of_ble_eq_true rfl) ?_
  intro p e s m below meth c ls hx hb hml hown hts hrt hlk hB hl hS
  refine va_gets hx hb hB.2 hS hown (hts (.fieldLink "java/lang/String" 38 "java/lang/String" "COMPACT_STRINGS" "Z") (zTd (by decide +kernel))) (fun _ q => q) (by decide +kernel : decode prog_22_method_152_code 0 = .ok (.getstatic 38, 3)) ?_
  refine lv_if_eq (tgt := 13) hx hb (by decide +kernel : decode prog_22_method_152_code 3 = .ok (.ifCond .eq 10, 3)) (by decide) (fun q => absurd q (by decide)) (fun _ => ?_)
  refine lv_aload_n hx hb (by decide +kernel : decode prog_22_method_152_code 6 = .ok (.aload_n 0, 1)) rfl (lv_at hl 0 rfl) ?_
  refine vk_getf hx hb hB.1 hS hown (hts (.fieldLink "java/lang/String" 15 "java/lang/String" "coder" "B") (zTd (by decide +kernel))) (fun _ q => q) (by decide +kernel : decode prog_22_method_152_code 7 = .ok (.getfield 15, 3)) ?_
  refine lv_goto (tgt := 14) hx hb (by decide +kernel : decode prog_22_method_152_code 10 = .ok (.goto 4, 3)) (by decide) ?_
  exact W.zret hx hb hrt rfl (fun t ht hw => ⟨⟨_, (), rfl, rfl, trivial⟩, hS.F ht⟩) hS.2.2 (by decide +kernel : decode prog_22_method_152_code 14 = .ok (.ireturn, 1)) hlk
theorem j_lat {l : Launch} {qK : Nat} : zMj l 1 y_jlat prog_22_method_154_code 1 .boolean [.ref qK] (fun U => va_OF "java/lang/String" "coder" "B" (.int 0) qK zNo U U.heap ∧ va_Z "java/lang/String" "COMPACT_STRINGS" "Z" (.int 1) zNo U U.heap) 1 := by
  refine j_start (by decide) (Nat.le_of_ble_eq_true rfl) ?_
  intro p e s m below meth c ls hx hb hml hown hts hrt hlk hB hl hS
  refine va_gets hx hb hB.2 hS hown (hts (.fieldLink "java/lang/String" 38 "java/lang/String" "COMPACT_STRINGS" "Z") (zTd (by decide +kernel))) (fun _ q => q) (by decide +kernel : decode prog_22_method_154_code 0 = .ok (.getstatic 38, 3)) ?_
  refine lv_if_eq (tgt := 17) hx hb (by decide +kernel : decode prog_22_method_154_code 3 = .ok (.ifCond .eq 14, 3)) (by decide) (fun q => absurd q (by decide)) (fun _ => ?_)
  refine lv_aload_n hx hb (by decide +kernel : decode prog_22_method_154_code 6 = .ok (.aload_n 0, 1)) rfl (lv_at hl 0 rfl) ?_
  refine vk_getf hx hb hB.1 hS hown (hts (.fieldLink "java/lang/String" 15 "java/lang/String" "coder" "B") (zTd (by decide +kernel))) (fun _ q => q) (by decide +kernel : decode prog_22_method_154_code 7 = .ok (.getfield 15, 3)) ?_
  refine lv_if_ne (tgt := 17) hx hb (by decide +kernel : decode prog_22_method_154_code 10 = .ok (.ifCond .ne 7, 3)) (by decide) (fun q => absurd rfl q) (fun _ => ?_)
  refine lv_iconst (v := 1) hx hb (by decide +kernel : decode prog_22_method_154_code 13 = .ok (.iconst 1, 1)) (by decide) ?_
  refine lv_goto (tgt := 18) hx hb (by decide +kernel : decode prog_22_method_154_code 14 = .ok (.goto 4, 3)) (by decide) ?_
  exact W.zret hx hb hrt rfl (fun t ht hw => ⟨⟨_, (), rfl, rfl, trivial⟩, hS.F ht⟩) hS.2.2 (by decide +kernel : decode prog_22_method_154_code 18 = .ok (.ireturn, 1)) hlk
theorem zZs.ad {b0 qK qV : Nat} {s : State} (h : zZs b0 qK qV s) : va_O "java/lang/String" qK zNo s s.heap ∧ va_OF "java/lang/String" "coder" "B" (.int 0) qK zNo s s.heap ∧ va_OF "java/lang/String" "value" "[B" (.ref qV) qK zNo s s.heap ∧ va_T .byte qV 141 (fun j => .int (zSt.getD j 0)) zNo s s.heap ∧ va_Z "java/lang/String" "COMPACT_STRINGS" "Z" (.int 1) zNo s s.heap ∧ va_Zq "jdk/internal/util/Preconditions" "SIOOBE_FORMATTER" "Ljava/util/function/BiFunction;" zNo s s.heap :=
  ⟨h.2.1.narrow (fun _ q => q.elim), h.2.2.1.narrow (fun _ q => q.elim), h.2.2.2.1.narrow (fun _ q => q.elim), h.2.2.2.2.1.narrow (fun _ q => q.elim), h.2.2.2.2.2.1.narrow (fun _ q => q.elim), h.2.2.2.2.2.2.narrow (fun _ q => q.elim)⟩
theorem j_len {l : Launch} {b0 qK qV : Nat} : zMj l 2 y_jlen prog_22_method_54_code 1 .int [.ref qK] (zZs b0 qK qV) (nI 141) := by
  refine j_start (by decide) (Nat.le_of_ble_eq_true rfl) ?_
  intro p e s m below meth c ls hx hb hml hown hts hrt hlk hB hl hS
  obtain ⟨h1, h2, h3, h4, h5, h6⟩ := hB.ad
  refine lv_aload_n hx hb (by decide +kernel : decode prog_22_method_54_code 0 = .ok (.aload_n 0, 1)) rfl (lv_at hl 0 rfl) ?_
  refine vk_getf hx hb h3 hS hown (hts (.fieldLink "java/lang/String" 9 "java/lang/String" "value" "[B") (zTd (by decide +kernel))) (fun _ q => q) (by decide +kernel : decode prog_22_method_54_code 1 = .ok (.getfield 9, 3)) ?_
  refine va_tlen hx hb h4 hS (v := nI 141) rfl (by decide +kernel : decode prog_22_method_54_code 4 = .ok (.arraylength, 1)) ?_
  refine lv_aload_n hx hb (by decide +kernel : decode prog_22_method_54_code 5 = .ok (.aload_n 0, 1)) rfl (lv_at hl 0 rfl) ?_
  refine jr_Vi (as := []) (rest := [.int (nI 141)]) (b := qK) hx hb hml hown hts hS j_cod jm_cod (fun U g mk a q => ⟨va_OF.moved (u := U) (U := U.calling g mk a) (Vm.Alike.refl U.vm) q.1, va_Z.moved (u := U) (U := U.calling g mk a) (Vm.Alike.refl U.vm) q.2⟩) (fun U hU hW => ⟨by rw [hU]; exact va_OF.moved hW.alike h2, by rw [hU]; exact va_Z.moved hW.alike h5⟩) (by obtain ⟨cell, r1, r2, r3, -⟩ := h1; exact ⟨cell, r1, r2, r3⟩) ⟨by simp only [zroom]; omega, by simp only [zroom]; omega⟩ rfl hl.1 (by decide) ⟨Nat.le_refl _, Nat.le_refl _⟩ (by decide +kernel : decode prog_22_method_54_code 6 = .ok (.invokevirtual 335, 3)) (fun H1 locs1 hz hk hS1 => ?_)
  refine lv_ishr hx hb (by decide +kernel : decode prog_22_method_54_code 9 = .ok (.ishr, 1)) ?_
  rw [sc_shr0 (by omega)]
  exact W.iret hx hb hrt (fun t ht hw => ⟨⟨_, (), rfl, rfl, trivial⟩, hS1.F ht⟩) hS1.2.2 (by decide +kernel : decode prog_22_method_54_code 10 = .ok (.ireturn, 1)) hlk
theorem j_cha {l : Launch} {b0 qK qV i : Nat} (hi : i < 141) : zMj l 4 y_jcha prog_22_method_56_code 2 .char [.ref qK, .int (nI i)] (zZs b0 qK qV) (zSt.getD i 0 &&& 255) := by
  refine j_start (by decide) (Nat.le_of_ble_eq_true rfl) ?_
  intro p e s m below meth c ls hx hb hml hown hts hrt hlk hB hl hS
  obtain ⟨h1, h2, h3, h4, h5, h6⟩ := hB.ad
  refine lv_aload_n hx hb (by decide +kernel : decode prog_22_method_56_code 0 = .ok (.aload_n 0, 1)) rfl (lv_at hl 0 rfl) ?_
  refine jr_Vi (as := []) (rest := []) (b := qK) hx hb hml hown hts hS j_lat jm_lat (fun U g mk a q => ⟨va_OF.moved (u := U) (U := U.calling g mk a) (Vm.Alike.refl U.vm) q.1, va_Z.moved (u := U) (U := U.calling g mk a) (Vm.Alike.refl U.vm) q.2⟩) (fun U hU hW => ⟨by rw [hU]; exact va_OF.moved hW.alike h2, by rw [hU]; exact va_Z.moved hW.alike h5⟩) (by obtain ⟨cell, r1, r2, r3, -⟩ := h1; exact ⟨cell, r1, r2, r3⟩) ⟨by simp only [zroom]; omega, by simp only [zroom]; omega⟩ rfl hl.1 (by decide) ⟨Nat.le_refl _, Nat.le_refl _⟩ (by decide +kernel : decode prog_22_method_56_code 1 = .ok (.invokevirtual 492, 3)) (fun H1 locs1 hz hk hS1 => ?_)
  refine lv_if_eq (tgt := 16) hx hb (by decide +kernel : decode prog_22_method_56_code 4 = .ok (.ifCond .eq 12, 3)) (by decide) (fun q => absurd q (by decide)) (fun _ => ?_)
  refine lv_aload_n hx hb (by decide +kernel : decode prog_22_method_56_code 7 = .ok (.aload_n 0, 1)) rfl (lv_at hl 0 rfl) ?_
  refine vk_getf hx hb h3 hS1 hown (hts (.fieldLink "java/lang/String" 9 "java/lang/String" "value" "[B") (zTd (by decide +kernel))) (fun _ q => q) (by decide +kernel : decode prog_22_method_56_code 8 = .ok (.getfield 9, 3)) ?_
  refine lv_iload_n hx hb (by decide +kernel : decode prog_22_method_56_code 11 = .ok (.iload_n 1, 1)) rfl (lv_at hl 1 rfl) ?_
  refine jr_Si (as := [.ref qV, .int (nI i)]) (rest := []) hx hb hml hown hts hS1 (j_ch1 hi) jm_ch1 (fun U g mk a q => ⟨va_T.moved (u := U) (U := U.calling g mk a) (Vm.Alike.refl U.vm) q.1, va_Zq.moved (u := U) (U := U.calling g mk a) (Vm.Alike.refl U.vm) q.2⟩) (fun U hU hW => ⟨by rw [hU]; exact va_T.moved hW.alike (h4.kept hS1.2.1), by rw [hU]; exact va_Zq.moved hW.alike (h6.kept hS1.2.1)⟩) ⟨by simp only [zroom]; omega, by simp only [zroom]; omega⟩ rfl hl.1 (by decide) ⟨Nat.le_refl _, Nat.le_refl _⟩ (by decide +kernel : decode prog_22_method_56_code 12 = .ok (.invokestatic 495, 3)) (fun H2 locs2 hz2 hk2 hS2 => ?_)
  exact W.zret hx hb hrt (sc_nar _) (fun t ht hw => ⟨⟨_, (), rfl, rfl, trivial⟩, hS2.F ht⟩) hS2.2.2 (by decide +kernel : decode prog_22_method_56_code 15 = .ok (.ireturn, 1)) hlk
