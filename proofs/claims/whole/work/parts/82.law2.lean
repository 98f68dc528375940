/-! A law told, laid. -/
theorem lrun_list {st : Nat → Int32} {a b c d : Int32} {S : List Int32} (h : ∀ i, i < S.length → st i = S.getD i 0) : ∀ n, n ≤ S.length → lrun st a b c d n = (S.take n).foldl (fun k s => lst a b c d s k) [] := by
  intro n
  induction n with
  | zero => intro _; rfl
  | succ n ih =>
    intro hn
    have e : S.take (n + 1) = S.take n ++ [S.getD n 0] := by
      rw [List.take_succ, List.getD_eq_getElem?_getD, List.getElem?_eq_getElem (show n < S.length by omega)]; rfl
    rw [e, List.foldl_append, ← ih (by omega)]
    show lst a b c d (st n) (lrun st a b c d n) = lst a b c d (S.getD n 0) (lrun st a b c d n)
    rw [h n (by omega)]
theorem law_c {st : Nat → Int32} {S : List Int32} {v : zV4} (h : ∀ i, i < S.length → st i = S.getD i 0) (q : sC 0 S v) : ∀ a b c d, lval (lrun st a b c d S.length) = v a b c d := fun a b c d => by
  rw [lrun_list h _ (Nat.le_refl _), List.take_length, q a b c d [] (Nat.le_refl _)]; rfl
theorem usl_v : sC 0 usl (fun a b c e => 1 + zb (b < c)) := by
  have q1 : sC 0 [1] (fun a b c e => lopd 1 a b c e) := sC.leaf (by omega) (by decide)
  have q2 : sC 1 [zm2] (fun a b c e => lopd zm2 a b c e) := sC.leaf (by omega) (by decide)
  have q3 : sC 2 [zm3] (fun a b c e => lopd zm3 a b c e) := sC.leaf (by omega) (by decide)
  have q := q1.join (s := zm10) (q2.join (s := zm8) q3 (by decide) (by decide)) (by decide) (by decide)
  have e : jn zm10 (fun a b c e => lopd 1 a b c e) (jn zm8 (fun a b c e => lopd zm2 a b c e) (fun a b c e => lopd zm3 a b c e)) = (fun a b c e => 1 + zb (b < c)) := by
    funext a b c e
    unfold jn
    rw [jn10, jn8]
    have l1 : lopd 1 a b c e = 1 := by unfold lopd; rw [zi_neg (by decide), zi_neg (by decide), zi_neg (by decide), zi_neg (by decide)]
    have l2 : lopd zm2 a b c e = b := by unfold lopd; rw [zi_neg (by decide), zi_neg (by decide), zi_pos rfl]
    have l3 : lopd zm3 a b c e = c := by unfold lopd; rw [zi_neg (by decide), zi_pos rfl]
    dsimp only
    rw [l1, l2, l3]
    by_cases z : b < c
    · rw [zi_pos z, zb_pos z]
    · rw [zi_neg z, zb_neg z]
  rw [e] at q; exact q
theorem law_m {D : List Int32} {v : zV4} (q : sEx 0 D v) (hl : D.length ≤ 1000) {g : zH} (h49 : g.1 49 0 0 = 0) (h50 : g.1 50 0 0 = nI D.length) (h51 : ∀ i, i < D.length → g.1 51 0 i = D.getD i 0) : ∃ g', f_X12_worked [.inr (.inr (12, 0)), .inl 0] g = some (some (.inl (evm v g)), g') ∧ rgS 0 g g' := by
  have so : f_X12_opens [.inr (.inr (12, 0)), .inl 0] g = some (none, zuI (zuI (zuI (zuI (zuI g 55 0 0 0) 57 0 0 0) 58 0 0 0) 59 0 0 20) 61 0 0 0) := sm_opens (d := 0) (by omega) g
  generalize hg : zuI (zuI (zuI (zuI (zuI g 55 0 0 0) 57 0 0 0) 58 0 0 0) 59 0 0 20) 61 0 0 0 = g1 at so
  have r1 : rgS 0 g g1 := by
    rw [← hg]; exact ((((rgS.rf.set (by omega) (by omega) (by omega)).set (by omega) (by omega) (by omega)).set (by omega) (by omega) (by omega)).set (by omega) (by omega) (by omega)).set (by omega) (by omega) (by omega)
  have x49 : g1.1 49 0 0 = 0 := by rw [r1.1 49 0 0 (by omega)]; exact h49
  have cd : cds g1 0 D := ⟨D.length, hl, by rw [r1.1 50 0 0 (by omega)]; exact h50, by omega, fun k hk => by rw [Nat.zero_add, r1.1 51 0 k (by omega)]; exact h51 k hk⟩
  obtain ⟨g2, a1, a2, a3, a4⟩ := q.2 g1 0 cd (Or.inl rfl) (by rw [← hg, zuI_at]) (by rw [← hg, zuI_o (by omega), zuI_o (by omega), zuI_at]) (by rw [← hg, zuI_o (by omega), zuI_at]) (by rw [← hg, zuI_o (by omega), zuI_o (by omega), zuI_o (by omega), zuI_at]) (by rw [← hg, zuI_o (by omega), zuI_o (by omega), zuI_o (by omega), zuI_o (by omega), zuI_at])
  have x50 : g2.1 50 0 0 = nI D.length := by rw [a2.1 50 0 0 (by omega), r1.1 50 0 0 (by omega)]; exact h50
  have w0 : f_X12_worked [.inr (.inr (12, 0)), .inl 0] g = wk 0 0 g1 := by
    rw [g_X12_worked, so, zcv_ok, zf_pos (show vp_in 0 2 from vp_in_nI (n := 0) (by omega) (by omega)), show (0 : Int32).toNatClampNeg = 0 from rfl, x49]; rfl
  have ts : f_X12_tests [.inr (.inr (12, 0)), .inl 0] g2 = some (none, tsI 0 g2 (smv 0 g2) (tsv 0 g2)) := sm_ts (d := 0) (by omega) g2
  refine ⟨tsI 0 g2 (smv 0 g2) (tsv 0 g2), ?_, (r1.trans a2).trans ((((((rgS.rf.set (by omega) (by omega) (by omega)).set (by omega) (by omega) (by omega)).set (by omega) (by omega) (by omega)).set (by omega) (by omega) (by omega)).set (by omega) (by omega) (by omega)).set (by omega) (by omega) (by omega))⟩
  rw [w0, a1, Nat.zero_add]
  unfold wk
  have e54 : (tsI 0 g2 (smv 0 g2) (tsv 0 g2)).1 54 0 0 = tsv 0 g2 := by
    unfold tsI; rw [zuI_o (by omega), zuI_o (by omega), zuI_o (by omega), zuI_at]
  rw [e_X12_worked_14, zf_pos (show vp_in 0 2 from vp_in_nI (n := 0) (by omega) (by omega)), show (0 : Int32).toNatClampNeg = 0 from rfl, x50, zf_neg (nI_nlt' (by omega)), ts, zcv_ok, e54, a3, r1.ev]
