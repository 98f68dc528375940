/-! A small machine over numbered cells: what a method's bytecode does, as a Lean function. -/
abbrev zV : Type := Int32 ⊕ (Int64 ⊕ (Nat × Nat))
abbrev zI (x : Int32) : zV := Sum.inl x
abbrev zJ (x : Int64) : zV := Sum.inr (Sum.inl x)
abbrev zR (K j : Nat) : zV := Sum.inr (Sum.inr (K, j))
/-- what the cells hold: ints and longs, by kind, number, place -/
abbrev zH : Type := (Nat → Nat → Nat → Int32) × (Nat → Nat → Nat → Int64)
abbrev zRes : Type := Option zV × zH
abbrev zLo : Type := List (Option zV)
abbrev zC : Type := zLo → List zV → zH → Option zRes
abbrev zO : Type := (Nat → zC) → zC
def zE (P : Nat → zO) (n : Nat) : Nat → zC := Nat.rec (fun _ _ _ _ => none) (fun _ ih k => P k ih) n
def zuI (h : zH) (K j k : Nat) (v : Int32) : zH := (fun K' j' k' => if K' = K ∧ j' = j ∧ k' = k then v else h.1 K' j' k', h.2)
def zuJ (h : zH) (K j k : Nat) (v : Int64) : zH := (h.1, fun K' j' k' => if K' = K ∧ j' = j ∧ k' = k then v else h.2 K' j' k')
def zcI (h : zH) (K j K1 j1 n : Nat) : zH := (fun K' j' k' => if K' = K1 ∧ j' = j1 ∧ k' < n then h.1 K j k' else h.1 K' j' k', h.2)
def zcJ (h : zH) (K j K1 j1 n : Nat) : zH := (h.1, fun K' j' k' => if K' = K1 ∧ j' = j1 ∧ k' < n then h.2 K j k' else h.2 K' j' k')
/-- an index within a row -/
def zin (i : Int32) (n : Nat) : Bool := !(decide (i < 0) || decide (n ≤ i.toNatClampNeg))
def zg : zLo → Nat → Option zV
  | [], _ => none
  | a :: _, 0 => a
  | _ :: t, n + 1 => zg t n
def zs : zLo → Nat → Option zV → zLo
  | [], _, _ => []
  | _ :: t, 0, v => v :: t
  | a :: t, n + 1, v => a :: zs t n v
def zlong : Option zV → Bool
  | some (.inr (.inl _)) => true
  | _ => false
/-- the place before i no longer holds a long -/
def zdr (ls : zLo) : Nat → zLo
  | 0 => ls
  | i + 1 => bif zlong (zg ls i) then zs ls i none else ls
def zst (ls : zLo) (i : Nat) (v : zV) : zLo := zs (zdr ls i) i (some v)
def zstJ (ls : zLo) (i : Nat) (v : zV) : zLo := zs (zs (zdr ls i) i (some v)) (i + 1) none
def zkill (ks : List Nat) (ls : zLo) : zLo := ks.foldl (fun l k => zs l k none) ls
def zcat : List zV → Nat
  | [] => 0
  | .inr (.inl _) :: t => 2 + zcat t
  | _ :: t => 1 + zcat t
/-- by a condition, whatever decides it -/
noncomputable def zf (c : Prop) (A B : Option zRes) : Option zRes := @ite _ c (Classical.propDecidable c) A B
theorem zf_pos {c : Prop} (h : c) (A B : Option zRes) : zf c A B = A := by unfold zf; exact if_pos h
theorem zf_neg {c : Prop} (h : ¬ c) (A B : Option zRes) : zf c A B = B := by unfold zf; exact if_neg h
/-! the instructions -/
def zo_bad : zO := fun _ _ _ _ => none
def zo_kill (ks : List Nat) (op : zO) : zO := fun K ls st h => op K (zkill ks ls) st h
def zo_push (v : zV) (nx : Nat) : zO := fun K ls st h => K nx ls (v :: st) h
def zo_iload (i nx : Nat) : zO := fun K ls st h => match zg ls i with
  | some (.inl x) => K nx ls (.inl x :: st) h
  | _ => none
def zo_lload (i nx : Nat) : zO := fun K ls st h => match zg ls i with
  | some (.inr (.inl x)) => K nx ls (.inr (.inl x) :: st) h
  | _ => none
def zo_aload (i nx : Nat) : zO := fun K ls st h => match zg ls i with
  | some (.inr (.inr x)) => K nx ls (.inr (.inr x) :: st) h
  | _ => none
def zo_istore (i nx : Nat) : zO := fun K ls st h => match st with
  | .inl x :: t => K nx (zst ls i (.inl x)) t h
  | _ => none
def zo_astore (i nx : Nat) : zO := fun K ls st h => match st with
  | .inr (.inr x) :: t => K nx (zst ls i (.inr (.inr x))) t h
  | _ => none
def zo_lstore (i nx : Nat) : zO := fun K ls st h => match st with
  | .inr (.inl x) :: t => K nx (zstJ ls i (.inr (.inl x))) t h
  | _ => none
def zo_iinc (i : Nat) (d : Int32) (nx : Nat) : zO := fun K ls st h => match zg ls i with
  | some (.inl x) => K nx (zst ls i (.inl (x + d))) st h
  | _ => none
def zo_i (f : Int32 → Int32) (nx : Nat) : zO := fun K ls st h => match st with
  | .inl x :: t => K nx ls (.inl (f x) :: t) h
  | _ => none
def zo_ii (f : Int32 → Int32 → Int32) (nx : Nat) : zO := fun K ls st h => match st with
  | .inl y :: .inl x :: t => K nx ls (.inl (f x y) :: t) h
  | _ => none
noncomputable def zo_id (f : Int32 → Int32 → Int32) (nx : Nat) : zO := fun K ls st h => match st with
  | .inl y :: .inl x :: t => zf (y = 0) none (K nx ls (.inl (f x y) :: t) h)
  | _ => none
def zo_ll (f : Int64 → Int64 → Int64) (nx : Nat) : zO := fun K ls st h => match st with
  | .inr (.inl y) :: .inr (.inl x) :: t => K nx ls (.inr (.inl (f x y)) :: t) h
  | _ => none
noncomputable def zo_idc (f : Int32 → Int32 → Int32) (nx : Nat) : zO := fun K ls st h => match st with
  | .inl y :: .inl x :: t => Bool.rec (motive := fun _ => Option zRes) none (K nx ls (.inl (f x y) :: t) h) (!decide (y = 0))
  | _ => none
noncomputable def zo_ldc (f : Int64 → Int64 → Int64) (nx : Nat) : zO := fun K ls st h => match st with
  | .inr (.inl y) :: .inr (.inl x) :: t => Bool.rec (motive := fun _ => Option zRes) none (K nx ls (.inr (.inl (f x y)) :: t) h) (!decide (y = 0))
  | _ => none
noncomputable def zo_ld (f : Int64 → Int64 → Int64) (nx : Nat) : zO := fun K ls st h => match st with
  | .inr (.inl y) :: .inr (.inl x) :: t => zf (y = 0) none (K nx ls (.inr (.inl (f x y)) :: t) h)
  | _ => none
def zo_li (f : Int64 → Int32 → Int64) (nx : Nat) : zO := fun K ls st h => match st with
  | .inl y :: .inr (.inl x) :: t => K nx ls (.inr (.inl (f x y)) :: t) h
  | _ => none
def zo_i2l (nx : Nat) : zO := fun K ls st h => match st with
  | .inl x :: t => K nx ls (.inr (.inl x.toInt64) :: t) h
  | _ => none
def zo_l2i (nx : Nat) : zO := fun K ls st h => match st with
  | .inr (.inl x) :: t => K nx ls (.inl x.toInt32 :: t) h
  | _ => none
def zo_lcmp (nx : Nat) : zO := fun K ls st h => match st with
  | .inr (.inl y) :: .inr (.inl x) :: t => K nx ls (.inl (lg_cmp x y) :: t) h
  | _ => none
def zo_dup (nx : Nat) : zO := fun K ls st h => match st with
  | .inl x :: t => K nx ls (.inl x :: .inl x :: t) h
  | .inr (.inr x) :: t => K nx ls (.inr (.inr x) :: .inr (.inr x) :: t) h
  | _ => none
/-- dup2 of an array and an index, of two ints -/
def zo_dup2 (nx : Nat) : zO := fun K ls st h => match st with
  | .inl y :: .inr (.inr x) :: t => K nx ls (.inl y :: .inr (.inr x) :: .inl y :: .inr (.inr x) :: t) h
  | _ => none
def zo_pop (nx : Nat) : zO := fun K ls st h => match st with
  | .inl _ :: t => K nx ls t h
  | _ => none
def zo_goto (tg : Nat) : zO := fun K ls st h => K tg ls st h
noncomputable def zo_clt (tg nx : Nat) : zO := fun K ls st h => match st with
  | .inl y :: .inl x :: t => zf (x < y) (K tg ls t h) (K nx ls t h)
  | _ => none
noncomputable def zo_cge (tg nx : Nat) : zO := fun K ls st h => match st with
  | .inl y :: .inl x :: t => zf (x < y) (K nx ls t h) (K tg ls t h)
  | _ => none
noncomputable def zo_cgt (tg nx : Nat) : zO := fun K ls st h => match st with
  | .inl y :: .inl x :: t => zf (y < x) (K tg ls t h) (K nx ls t h)
  | _ => none
noncomputable def zo_cle (tg nx : Nat) : zO := fun K ls st h => match st with
  | .inl y :: .inl x :: t => zf (y < x) (K nx ls t h) (K tg ls t h)
  | _ => none
noncomputable def zo_ceq (tg nx : Nat) : zO := fun K ls st h => match st with
  | .inl y :: .inl x :: t => zf (x = y) (K tg ls t h) (K nx ls t h)
  | _ => none
noncomputable def zo_cne (tg nx : Nat) : zO := fun K ls st h => match st with
  | .inl y :: .inl x :: t => zf (x = y) (K nx ls t h) (K tg ls t h)
  | _ => none
noncomputable def zo_0lt (tg nx : Nat) : zO := fun K ls st h => match st with
  | .inl x :: t => zf (x < 0) (K tg ls t h) (K nx ls t h)
  | _ => none
noncomputable def zo_0ge (tg nx : Nat) : zO := fun K ls st h => match st with
  | .inl x :: t => zf (x < 0) (K nx ls t h) (K tg ls t h)
  | _ => none
noncomputable def zo_0gt (tg nx : Nat) : zO := fun K ls st h => match st with
  | .inl x :: t => zf (0 < x) (K tg ls t h) (K nx ls t h)
  | _ => none
noncomputable def zo_0le (tg nx : Nat) : zO := fun K ls st h => match st with
  | .inl x :: t => zf (0 < x) (K nx ls t h) (K tg ls t h)
  | _ => none
noncomputable def zo_0eq (tg nx : Nat) : zO := fun K ls st h => match st with
  | .inl x :: t => zf (x = 0) (K tg ls t h) (K nx ls t h)
  | _ => none
noncomputable def zo_0ne (tg nx : Nat) : zO := fun K ls st h => match st with
  | .inl x :: t => zf (x = 0) (K nx ls t h) (K tg ls t h)
  | _ => none
noncomputable def zsw (K : Nat → Option zRes) (x : Int32) (d : Nat) : List (Int32 × Nat) → Option zRes
  | [] => K d
  | t :: r => zf (x = t.1) (K t.2) (zsw K x d r)
/-- tableswitch: numbers and places, the default's -/
noncomputable def zo_tsw (ts : List (Int32 × Nat)) (d : Nat) : zO := fun K ls st h => match st with
  | .inl x :: t => zsw (fun k => K k ls t h) x d ts
  | _ => none
noncomputable def zo_getI (C k nx : Nat) : zO := fun K ls st h => match st with
  | .inr (.inr (C0, j)) :: t => Bool.rec (motive := fun _ => Option zRes) none (K nx ls (.inl (h.1 C j k) :: t) h) (Nat.beq C0 C)
  | _ => none
noncomputable def zo_getJ (C k nx : Nat) : zO := fun K ls st h => match st with
  | .inr (.inr (C0, j)) :: t => Bool.rec (motive := fun _ => Option zRes) none (K nx ls (.inr (.inl (h.2 C j k)) :: t) h) (Nat.beq C0 C)
  | _ => none
/-- a field that holds a cell: of kind C2, of the same number (off none), or the one numbered so -/
noncomputable def zo_getR (C C2 : Nat) (off : Option Nat) (nx : Nat) : zO := fun K ls st h => match st with
  | .inr (.inr (C0, j)) :: t => Bool.rec (motive := fun _ => Option zRes) none (K nx ls (.inr (.inr (C2, off.getD j)) :: t) h) (Nat.beq C0 C)
  | _ => none
noncomputable def zo_putI (C k nx : Nat) : zO := fun K ls st h => match st with
  | .inl v :: .inr (.inr (C0, j)) :: t => Bool.rec (motive := fun _ => Option zRes) none (K nx ls t (zuI h C j k v)) (Nat.beq C0 C)
  | _ => none
def z01 (v : Int32) : Bool := decide (v = 0) || decide (v = 1)
noncomputable def zo_putZ (C k nx : Nat) : zO := fun K ls st h => match st with
  | .inl v :: .inr (.inr (C0, j)) :: t => Bool.rec (motive := fun _ => Option zRes) none (Bool.rec (motive := fun _ => Option zRes) none (K nx ls t (zuI h C j k v)) (z01 v)) (Nat.beq C0 C)
  | _ => none
noncomputable def zo_putJ (C k nx : Nat) : zO := fun K ls st h => match st with
  | .inr (.inl v) :: .inr (.inr (C0, j)) :: t => Bool.rec (motive := fun _ => Option zRes) none (K nx ls t (zuJ h C j k v)) (Nat.beq C0 C)
  | _ => none
/-- calls: what came back, an int, a long, nothing -/
def zci (r : Option zRes) (k : Int32 → zH → Option zRes) : Option zRes := match r with
  | some (some (.inl x), h) => k x h
  | _ => none
def zcj (r : Option zRes) (k : Int64 → zH → Option zRes) : Option zRes := match r with
  | some (some (.inr (.inl x)), h) => k x h
  | _ => none
def zcv (r : Option zRes) (k : zH → Option zRes) : Option zRes := match r with
  | some (none, h) => k h
  | _ => none
abbrev zS : Type := List zV → zH → Option zRes
/-- the first n of the stack, the lowest first, and the rest -/
def zpop : Nat → List zV → List zV → Option (List zV × List zV)
  | 0, acc, st => some (acc, st)
  | n + 1, acc, v :: st => zpop n (v :: acc) st
  | _ + 1, _, [] => none
def zrecv (C : Nat) : List zV → Bool
  | .inr (.inr (C0, _)) :: _ => Nat.beq C0 C
  | _ => false
noncomputable def zo_calli (cs : zS) (n nx : Nat) : zO := fun K ls st h => match zpop n [] st with
  | some (a, t) => Bool.rec (motive := fun _ => Option zRes) none (zci (cs a h) (fun r h' => K nx ls (.inl r :: t) h')) (Nat.ble (zcat t) 8)
  | none => none
noncomputable def zo_callj (cs : zS) (n nx : Nat) : zO := fun K ls st h => match zpop n [] st with
  | some (a, t) => Bool.rec (motive := fun _ => Option zRes) none (zcj (cs a h) (fun r h' => K nx ls (.inr (.inl r) :: t) h')) (Nat.ble (zcat t) 8)
  | none => none
noncomputable def zo_callv (cs : zS) (n nx : Nat) : zO := fun K ls st h => match zpop n [] st with
  | some (a, t) => Bool.rec (motive := fun _ => Option zRes) none (zcv (cs a h) (fun h' => K nx ls t h')) (Nat.ble (zcat t) 8)
  | none => none
/-- the receiver is of its kind -/
noncomputable def zo_vir (C n : Nat) (op : zO) : zO := fun K ls st h => match zpop n [] st with
  | some (a, _) => Bool.rec (motive := fun _ => Option zRes) none (op K ls st h) (zrecv C a)
  | none => none
noncomputable def zo_max (nx : Nat) : zO := fun K ls st h => match st with
  | .inl y :: .inl x :: t => Bool.rec (motive := fun _ => Option zRes) none (K nx ls (.inl (if x < y then y else x) :: t) h) (Nat.ble (zcat t) 8)
  | _ => none
noncomputable def zo_min (nx : Nat) : zO := fun K ls st h => match st with
  | .inl y :: .inl x :: t => Bool.rec (motive := fun _ => Option zRes) none (K nx ls (.inl (if y < x then y else x) :: t) h) (Nat.ble (zcat t) 8)
  | _ => none
def zo_iret : zO := fun _ _ st h => match st with
  | [.inl x] => some (some (.inl x), h)
  | _ => none
noncomputable def zo_zret : zO := fun _ _ st h => match st with
  | [.inl x] => zf (x = 0 ∨ x = 1) (some (some (.inl x), h)) none
  | _ => none
noncomputable def zo_zretc : zO := fun _ _ st h => match st with
  | [.inl x] => Bool.rec (motive := fun _ => Option zRes) none (some (some (.inl x), h)) (z01 x)
  | _ => none
def zo_lret : zO := fun _ _ st h => match st with
  | [.inr (.inl x)] => some (some (.inr (.inl x)), h)
  | _ => none
def zo_ret : zO := fun _ _ st h => match st with
  | [] => some (none, h)
  | _ => none
/-! rows of numbers, of cells -/
