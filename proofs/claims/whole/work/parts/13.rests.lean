/-! SoapTreaty.rests, which may throw (the answer (99, 0) tells it), and the law's own rests, which catches it. -/
def zo_throw : zO := fun _ _ st h => match st with
  | [] => some (some (.inr (.inr (99, 0))), h)
  | _ => none
theorem zl_throw : zTl zo_throw := by
  intro K ls st h r he
  match st, he with
  | [], he => exact Or.inr (fun K' => he)
theorem zMS_11_263 : zMS "SoapTreaty" 263 y_X11_isStake prog_1_method_42_code 1 (some .boolean) 1 := ⟨⟨zT_of 1115 (by decide +kernel) (by decide +kernel), zT_of 1116 (by decide +kernel) (by decide +kernel), zT_of 102 (by decide +kernel) (by decide +kernel), zT_of 1117 (by decide +kernel) (by decide +kernel)⟩, by decide, by decide, by decide, by decide +kernel⟩
theorem zMS_11_269 : zMS "SoapTreaty" 269 y_X11_isAtRest prog_1_method_43_code 6 (some .boolean) 4 := ⟨⟨zT_of 1179 (by decide +kernel) (by decide +kernel), zT_of 1180 (by decide +kernel) (by decide +kernel), zT_of 102 (by decide +kernel) (by decide +kernel), zT_of 1181 (by decide +kernel) (by decide +kernel)⟩, by decide, by decide, by decide, by decide +kernel⟩
/-! SoapTreaty.rests(IIII)I -/
def y_X11_rests : MethodName := ⟨"SoapTreaty", "rests", "(IIII)I"⟩
noncomputable def p_X11_rests_0 : List (Nat × zO) := [(0, zo_iload 1 1),
  (1, zo_calli (f_X11_isStake) 1 4),
  (4, zo_0eq 21 7),
  (7, zo_iload 2 8),
  (8, zo_calli (f_X11_isStake) 1 11),
  (11, zo_0eq 21 14),
  (14, zo_iload 3 15),
  (15, zo_calli (f_X11_isStake) 1 18),
  (18, zo_0ne 29 21),
  (21, zo_throw),
  (29, zo_push (.inl 0) 30),
  (30, zo_istore 5 32),
  (32, zo_push (.inl 0) 33),
  (33, zo_istore 6 35),
  (35, zo_kill [0] (zo_iload 6 37)),
  (37, zo_push (.inl 4) 38),
  (38, zo_cge 71 41),
  (41, zo_iload 1 42),
  (42, zo_iload 2 43),
  (43, zo_iload 3 44)]
noncomputable def p_X11_rests_1 : List (Nat × zO) := [(44, zo_iload 6 46),
  (46, zo_calli (f_X11_isAtRest) 4 49),
  (49, zo_0eq 65 52),
  (52, zo_iload 5 54),
  (54, zo_iload 4 56),
  (56, zo_cne 62 59),
  (59, zo_iload 6 61),
  (61, zo_iret),
  (62, zo_iinc 5 1 65),
  (65, zo_iinc 6 1 68),
  (68, zo_goto 35),
  (71, zo_iload 4 73),
  (73, zo_push (.inl zm1) 74),
  (74, zo_ceq 85 77),
  (77, zo_throw),
  (85, zo_iload 5 87),
  (87, zo_iret)]
noncomputable def p_X11_rests : Nat → zO := zgs [(44, p_X11_rests_0), (88, p_X11_rests_1)]
theorem t_X11_rests : ∀ k, zTl (p_X11_rests k) := fun k => zgs_all (c := [(44, p_X11_rests_0), (88, p_X11_rests_1)]) (fun _ => zl_bad) ⟨⟨zl_iload, zl_calli, zl_0eq, zl_iload, zl_calli, zl_0eq, zl_iload, zl_calli, zl_0ne, zl_throw, zl_push, zl_istore, zl_push, zl_istore, (zl_kill zl_iload), zl_push, zl_cge, zl_iload, zl_iload, zl_iload, trivial⟩, ⟨zl_iload, zl_calli, zl_0eq, zl_iload, zl_iload, zl_cne, zl_iload, zl_iret, zl_iinc, zl_iinc, zl_goto, zl_iload, zl_push, zl_ceq, zl_throw, zl_iload, zl_iret, trivial⟩, trivial⟩ k
noncomputable def f_X11_rests : zS := zrun p_X11_rests 7
set_option maxRecDepth 1000000 in
theorem e_X11_rests_0 (x1 : Int32) (x2 : Int32) (x3 : Int32) (x4 : Int32) (h : zH) : zL p_X11_rests 0 [some (.inr (.inr (11, 0))), some (.inl x1), some (.inl x2), some (.inl x3), some (.inl x4), none, none] [] h = zci (f_X11_isStake [(.inl x1)] h) (fun r2 h1 => zf (r2 = 0) (some (some (.inr (.inr (99, 0))), h1)) (zci (f_X11_isStake [(.inl x2)] h1) (fun r4 h3 => zf (r4 = 0) (some (some (.inr (.inr (99, 0))), h3)) (zci (f_X11_isStake [(.inl x3)] h3) (fun r6 h5 => zf (r6 = 0) (some (some (.inr (.inr (99, 0))), h5)) (zL p_X11_rests 35 [some (.inr (.inr (11, 0))), some (.inl x1), some (.inl x2), some (.inl x3), some (.inl x4), some (.inl 0), some (.inl 0)] [] h5)))))) := (zL_s (t_X11_rests) [0, 35] 1000 0 _ _ _).trans rfl
theorem g_X11_rests (x1 : Int32) (x2 : Int32) (x3 : Int32) (x4 : Int32) (h : zH) : f_X11_rests [(.inr (.inr (11, 0))), (.inl x1), (.inl x2), (.inl x3), (.inl x4)] h = zci (f_X11_isStake [(.inl x1)] h) (fun r2 h1 => zf (r2 = 0) (some (some (.inr (.inr (99, 0))), h1)) (zci (f_X11_isStake [(.inl x2)] h1) (fun r4 h3 => zf (r4 = 0) (some (some (.inr (.inr (99, 0))), h3)) (zci (f_X11_isStake [(.inl x3)] h3) (fun r6 h5 => zf (r6 = 0) (some (some (.inr (.inr (99, 0))), h5)) (zL p_X11_rests 35 [some (.inr (.inr (11, 0))), some (.inl x1), some (.inl x2), some (.inl x3), some (.inl x4), some (.inl 0), some (.inl 0)] [] h5)))))) := (show f_X11_rests _ h = zL p_X11_rests 0 _ [] h from rfl).trans (e_X11_rests_0 x1 x2 x3 x4 h)
set_option maxRecDepth 1000000 in
theorem e_X11_rests_35 (o0 : Option zV) (x1 : Int32) (x2 : Int32) (x3 : Int32) (x4 : Int32) (x5 : Int32) (x6 : Int32) (h : zH) : zL p_X11_rests 35 [o0, some (.inl x1), some (.inl x2), some (.inl x3), some (.inl x4), some (.inl x5), some (.inl x6)] [] h = zf (x6 < 4) (zci (f_X11_isAtRest [(.inl x1), (.inl x2), (.inl x3), (.inl x6)] h) (fun r2 h1 => zf (r2 = 0) (zL p_X11_rests 35 [none, some (.inl x1), some (.inl x2), some (.inl x3), some (.inl x4), some (.inl x5), some (.inl (x6 + 1))] [] h1) (zf (x5 = x4) (some (some (.inl x6), h1)) (zL p_X11_rests 35 [none, some (.inl x1), some (.inl x2), some (.inl x3), some (.inl x4), some (.inl (x5 + 1)), some (.inl (x6 + 1))] [] h1)))) (zf (x4 = zm1) (some (some (.inl x5), h)) (some (some (.inr (.inr (99, 0))), h))) := (zL_s (t_X11_rests) [0, 35] 1000 35 _ _ _).trans rfl

/-- the law's rests: 0 and the answer in out, or 1 -/
noncomputable def f_Lrests : zS := fun a h => match a with
  | [.inr (.inr (11, 0)), .inl p0, .inl p1, .inl p2, .inl p3, .inr (.inr (79, 0))] => match f_X11_rests [.inr (.inr (11, 0)), .inl p0, .inl p1, .inl p2, .inl p3] h with
    | some (some (.inl r), h') => some (some (.inl 0), zuJ h' 79 0 0 r.toInt64)
    | some (some (.inr (.inr _)), h') => some (some (.inl 1), h')
    | _ => none
  | _ => none
def zXr (X : zCtx) : Prop := ∀ pc nx, decode code pc = .ok (.invokestatic 142, 3) → pc + 3 = nx → zSo X pc (zo_callr f_Lrests nx)
theorem zs_callr {X : zCtx} {own : String} {cc : ByteArray} {nL pc nx : Nat} (_hX : zXok X own cc nL) (hRk : zXr X) (hd : decode code pc = .ok (.invokestatic 142, 3)) (hn : pc + 3 = nx) : zSo X pc (zo_callr f_Lrests nx) := hRk pc nx hd hn
