/-! A run without a bound on its steps. -/
/-- an op goes on at one place at most -/
def zTl (op : zO) : Prop := ∀ (K : Nat → zC) (ls : zLo) (st : List zV) (h : zH) (r : zRes), op K ls st h = some r → (∃ k' ls' st' h', K k' ls' st' h' = some r ∧ ∀ K' : Nat → zC, K' k' ls' st' h' = some r → op K' ls st h = some r) ∨ (∀ K' : Nat → zC, op K' ls st h = some r)
theorem zl_i {f : Int32 → Int32} {nx : Nat} : zTl (zo_i f nx) := by
  intro K ls st h r he
  match st, he with
  | .inl x :: t, he => exact Or.inl ⟨_, _, _, _, he, fun K' q => q⟩
theorem zl_ii {f : Int32 → Int32 → Int32} {nx : Nat} : zTl (zo_ii f nx) := by
  intro K ls st h r he
  match st, he with
  | .inl y :: .inl x :: t, he => exact Or.inl ⟨_, _, _, _, he, fun K' q => q⟩
theorem zl_ll {f : Int64 → Int64 → Int64} {nx : Nat} : zTl (zo_ll f nx) := by
  intro K ls st h r he
  match st, he with
  | .inr (.inl y) :: .inr (.inl x) :: t, he => exact Or.inl ⟨_, _, _, _, he, fun K' q => q⟩
theorem zl_li {f : Int64 → Int32 → Int64} {nx : Nat} : zTl (zo_li f nx) := by
  intro K ls st h r he
  match st, he with
  | .inl y :: .inr (.inl x) :: t, he => exact Or.inl ⟨_, _, _, _, he, fun K' q => q⟩
theorem zl_i2l {nx : Nat} : zTl (zo_i2l nx) := by
  intro K ls st h r he
  match st, he with
  | .inl x :: t, he => exact Or.inl ⟨_, _, _, _, he, fun K' q => q⟩
theorem zl_l2i {nx : Nat} : zTl (zo_l2i nx) := by
  intro K ls st h r he
  match st, he with
  | .inr (.inl x) :: t, he => exact Or.inl ⟨_, _, _, _, he, fun K' q => q⟩
theorem zl_lcmp {nx : Nat} : zTl (zo_lcmp nx) := by
  intro K ls st h r he
  match st, he with
  | .inr (.inl y) :: .inr (.inl x) :: t, he => exact Or.inl ⟨_, _, _, _, he, fun K' q => q⟩
theorem zl_pop {nx : Nat} : zTl (zo_pop nx) := by
  intro K ls st h r he
  match st, he with
  | .inl x :: t, he => exact Or.inl ⟨_, _, _, _, he, fun K' q => q⟩
theorem zl_istore {i nx : Nat} : zTl (zo_istore i nx) := by
  intro K ls st h r he
  match st, he with
  | .inl x :: t, he => exact Or.inl ⟨_, _, _, _, he, fun K' q => q⟩
theorem zl_astore {i nx : Nat} : zTl (zo_astore i nx) := by
  intro K ls st h r he
  match st, he with
  | .inr (.inr x) :: t, he => exact Or.inl ⟨_, _, _, _, he, fun K' q => q⟩
theorem zl_lstore {i nx : Nat} : zTl (zo_lstore i nx) := by
  intro K ls st h r he
  match st, he with
  | .inr (.inl x) :: t, he => exact Or.inl ⟨_, _, _, _, he, fun K' q => q⟩
theorem zl_dup2 {nx : Nat} : zTl (zo_dup2 nx) := by
  intro K ls st h r he
  match st, he with
  | .inl y :: .inr (.inr x) :: t, he => exact Or.inl ⟨_, _, _, _, he, fun K' q => q⟩
theorem zl_dup {nx : Nat} : zTl (zo_dup nx) := by
  intro K ls st h r he
  match st, he with
  | .inl x :: t, he => exact Or.inl ⟨_, _, _, _, he, fun K' q => q⟩
  | .inr (.inr x) :: t, he => exact Or.inl ⟨_, _, _, _, he, fun K' q => q⟩
theorem zl_push {v : zV} {nx : Nat} : zTl (zo_push v nx) := fun K ls st h r he => Or.inl ⟨_, _, _, _, he, fun K' q => q⟩
theorem zl_goto {tg : Nat} : zTl (zo_goto tg) := fun K ls st h r he => Or.inl ⟨_, _, _, _, he, fun K' q => q⟩
theorem zl_bad : zTl zo_bad := fun K ls st h r he => by cases he
theorem zl_kill {ks : List Nat} {op : zO} (ho : zTl op) : zTl (zo_kill ks op) := fun K ls st h r he => ho K (zkill ks ls) st h r he
theorem zl_iload {i nx : Nat} : zTl (zo_iload i nx) := by
  intro K ls st h r he
  unfold zo_iload at he ⊢
  generalize zg ls i = o at he ⊢
  match o, he with
  | some (.inl x), he => exact Or.inl ⟨_, _, _, _, he, fun K' q => q⟩
theorem zl_lload {i nx : Nat} : zTl (zo_lload i nx) := by
  intro K ls st h r he
  unfold zo_lload at he ⊢
  generalize zg ls i = o at he ⊢
  match o, he with
  | some (.inr (.inl x)), he => exact Or.inl ⟨_, _, _, _, he, fun K' q => q⟩
theorem zl_aload {i nx : Nat} : zTl (zo_aload i nx) := by
  intro K ls st h r he
  unfold zo_aload at he ⊢
  generalize zg ls i = o at he ⊢
  match o, he with
  | some (.inr (.inr x)), he => exact Or.inl ⟨_, _, _, _, he, fun K' q => q⟩
theorem zl_iinc {i nx : Nat} {d : Int32} : zTl (zo_iinc i d nx) := by
  intro K ls st h r he
  unfold zo_iinc at he ⊢
  generalize zg ls i = o at he ⊢
  match o, he with
  | some (.inl x), he => exact Or.inl ⟨_, _, _, _, he, fun K' q => q⟩
theorem zl_id {f : Int32 → Int32 → Int32} {nx : Nat} : zTl (zo_id f nx) := by
  intro K ls st h r he
  match st, he with
  | .inl y :: .inl x :: t, he =>
    unfold zo_id at he ⊢
    dsimp only at he ⊢
    by_cases h0 : y = 0
    · rw [zf_pos h0] at he; cases he
    · rw [zf_neg h0] at he
      exact Or.inl ⟨_, _, _, _, he, fun K' q => by rw [zf_neg h0]; exact q⟩
theorem zl_ld {f : Int64 → Int64 → Int64} {nx : Nat} : zTl (zo_ld f nx) := by
  intro K ls st h r he
  match st, he with
  | .inr (.inl y) :: .inr (.inl x) :: t, he =>
    unfold zo_ld at he ⊢
    dsimp only at he ⊢
    by_cases h0 : y = 0
    · rw [zf_pos h0] at he; cases he
    · rw [zf_neg h0] at he
      exact Or.inl ⟨_, _, _, _, he, fun K' q => by rw [zf_neg h0]; exact q⟩
theorem zl_clt {tg nx : Nat} : zTl (zo_clt tg nx) := by
  intro K ls st h r he
  match st, he with
  | .inl y :: .inl x :: t, he =>
    unfold zo_clt at he ⊢
    dsimp only at he ⊢
    by_cases h0 : x < y
    · rw [zf_pos h0] at he
      exact Or.inl ⟨_, _, _, _, he, fun K' q => by rw [zf_pos h0]; exact q⟩
    · rw [zf_neg h0] at he
      exact Or.inl ⟨_, _, _, _, he, fun K' q => by rw [zf_neg h0]; exact q⟩
theorem zl_cge {tg nx : Nat} : zTl (zo_cge tg nx) := by
  intro K ls st h r he
  match st, he with
  | .inl y :: .inl x :: t, he =>
    unfold zo_cge at he ⊢
    dsimp only at he ⊢
    by_cases h0 : x < y
    · rw [zf_pos h0] at he
      exact Or.inl ⟨_, _, _, _, he, fun K' q => by rw [zf_pos h0]; exact q⟩
    · rw [zf_neg h0] at he
      exact Or.inl ⟨_, _, _, _, he, fun K' q => by rw [zf_neg h0]; exact q⟩
theorem zl_cgt {tg nx : Nat} : zTl (zo_cgt tg nx) := by
  intro K ls st h r he
  match st, he with
  | .inl y :: .inl x :: t, he =>
    unfold zo_cgt at he ⊢
    dsimp only at he ⊢
    by_cases h0 : y < x
    · rw [zf_pos h0] at he
      exact Or.inl ⟨_, _, _, _, he, fun K' q => by rw [zf_pos h0]; exact q⟩
    · rw [zf_neg h0] at he
      exact Or.inl ⟨_, _, _, _, he, fun K' q => by rw [zf_neg h0]; exact q⟩
theorem zl_cle {tg nx : Nat} : zTl (zo_cle tg nx) := by
  intro K ls st h r he
  match st, he with
  | .inl y :: .inl x :: t, he =>
    unfold zo_cle at he ⊢
    dsimp only at he ⊢
    by_cases h0 : y < x
    · rw [zf_pos h0] at he
      exact Or.inl ⟨_, _, _, _, he, fun K' q => by rw [zf_pos h0]; exact q⟩
    · rw [zf_neg h0] at he
      exact Or.inl ⟨_, _, _, _, he, fun K' q => by rw [zf_neg h0]; exact q⟩
theorem zl_ceq {tg nx : Nat} : zTl (zo_ceq tg nx) := by
  intro K ls st h r he
  match st, he with
  | .inl y :: .inl x :: t, he =>
    unfold zo_ceq at he ⊢
    dsimp only at he ⊢
    by_cases h0 : x = y
    · rw [zf_pos h0] at he
      exact Or.inl ⟨_, _, _, _, he, fun K' q => by rw [zf_pos h0]; exact q⟩
    · rw [zf_neg h0] at he
      exact Or.inl ⟨_, _, _, _, he, fun K' q => by rw [zf_neg h0]; exact q⟩
theorem zl_cne {tg nx : Nat} : zTl (zo_cne tg nx) := by
  intro K ls st h r he
  match st, he with
  | .inl y :: .inl x :: t, he =>
    unfold zo_cne at he ⊢
    dsimp only at he ⊢
    by_cases h0 : x = y
    · rw [zf_pos h0] at he
      exact Or.inl ⟨_, _, _, _, he, fun K' q => by rw [zf_pos h0]; exact q⟩
    · rw [zf_neg h0] at he
      exact Or.inl ⟨_, _, _, _, he, fun K' q => by rw [zf_neg h0]; exact q⟩
theorem zl_0lt {tg nx : Nat} : zTl (zo_0lt tg nx) := by
  intro K ls st h r he
  match st, he with
  | .inl x :: t, he =>
    unfold zo_0lt at he ⊢
    dsimp only at he ⊢
    by_cases h0 : x < 0
    · rw [zf_pos h0] at he
      exact Or.inl ⟨_, _, _, _, he, fun K' q => by rw [zf_pos h0]; exact q⟩
    · rw [zf_neg h0] at he
      exact Or.inl ⟨_, _, _, _, he, fun K' q => by rw [zf_neg h0]; exact q⟩
theorem zl_0ge {tg nx : Nat} : zTl (zo_0ge tg nx) := by
  intro K ls st h r he
  match st, he with
  | .inl x :: t, he =>
    unfold zo_0ge at he ⊢
    dsimp only at he ⊢
    by_cases h0 : x < 0
    · rw [zf_pos h0] at he
      exact Or.inl ⟨_, _, _, _, he, fun K' q => by rw [zf_pos h0]; exact q⟩
    · rw [zf_neg h0] at he
      exact Or.inl ⟨_, _, _, _, he, fun K' q => by rw [zf_neg h0]; exact q⟩
theorem zl_0gt {tg nx : Nat} : zTl (zo_0gt tg nx) := by
  intro K ls st h r he
  match st, he with
  | .inl x :: t, he =>
    unfold zo_0gt at he ⊢
    dsimp only at he ⊢
    by_cases h0 : 0 < x
    · rw [zf_pos h0] at he
      exact Or.inl ⟨_, _, _, _, he, fun K' q => by rw [zf_pos h0]; exact q⟩
    · rw [zf_neg h0] at he
      exact Or.inl ⟨_, _, _, _, he, fun K' q => by rw [zf_neg h0]; exact q⟩
theorem zl_0le {tg nx : Nat} : zTl (zo_0le tg nx) := by
  intro K ls st h r he
  match st, he with
  | .inl x :: t, he =>
    unfold zo_0le at he ⊢
    dsimp only at he ⊢
    by_cases h0 : 0 < x
    · rw [zf_pos h0] at he
      exact Or.inl ⟨_, _, _, _, he, fun K' q => by rw [zf_pos h0]; exact q⟩
    · rw [zf_neg h0] at he
      exact Or.inl ⟨_, _, _, _, he, fun K' q => by rw [zf_neg h0]; exact q⟩
theorem zl_0eq {tg nx : Nat} : zTl (zo_0eq tg nx) := by
  intro K ls st h r he
  match st, he with
  | .inl x :: t, he =>
    unfold zo_0eq at he ⊢
    dsimp only at he ⊢
    by_cases h0 : x = 0
    · rw [zf_pos h0] at he
      exact Or.inl ⟨_, _, _, _, he, fun K' q => by rw [zf_pos h0]; exact q⟩
    · rw [zf_neg h0] at he
      exact Or.inl ⟨_, _, _, _, he, fun K' q => by rw [zf_neg h0]; exact q⟩
theorem zl_0ne {tg nx : Nat} : zTl (zo_0ne tg nx) := by
  intro K ls st h r he
  match st, he with
  | .inl x :: t, he =>
    unfold zo_0ne at he ⊢
    dsimp only at he ⊢
    by_cases h0 : x = 0
    · rw [zf_pos h0] at he
      exact Or.inl ⟨_, _, _, _, he, fun K' q => by rw [zf_pos h0]; exact q⟩
    · rw [zf_neg h0] at he
      exact Or.inl ⟨_, _, _, _, he, fun K' q => by rw [zf_neg h0]; exact q⟩
theorem zl_tsw {ts : List (Int32 × Nat)} {d : Nat} : zTl (zo_tsw ts d) := by
  intro K ls st h r he
  match st, he with
  | .inl x :: t, he =>
    have key : ∀ (ts : List (Int32 × Nat)), zsw (fun k => K k ls t h) x d ts = some r → ∃ k, K k ls t h = some r ∧ ∀ K' : Nat → zC, K' k ls t h = some r → zsw (fun k => K' k ls t h) x d ts = some r := by
      intro ts
      induction ts with
      | nil => intro q; exact ⟨d, q, fun K' q' => q'⟩
      | cons u rs ih =>
        intro q
        have q : zf (x = u.1) (K u.2 ls t h) (zsw (fun k => K k ls t h) x d rs) = some r := q
        by_cases e : x = u.1
        · rw [zf_pos e] at q
          exact ⟨u.2, q, fun K' q' => (zf_pos e _ _).trans q'⟩
        · rw [zf_neg e] at q
          obtain ⟨k, q1, q2⟩ := ih q
          exact ⟨k, q1, fun K' q' => (zf_neg e _ _).trans (q2 K' q')⟩
    obtain ⟨k, h1, h2⟩ := key ts he
    exact Or.inl ⟨k, ls, t, h, h1, h2⟩
theorem zl_getI {C k nx : Nat} : zTl (zo_getI C k nx) := by
  intro K ls st h r he
  match st, he with
  | .inr (.inr (C0, j)) :: t, he =>
    unfold zo_getI at he ⊢
    obtain ⟨e1, he⟩ := zbrec he
    exact Or.inl ⟨_, _, _, _, he, fun K' q => by dsimp only; rw [e1]; exact q⟩
theorem zl_getJ {C k nx : Nat} : zTl (zo_getJ C k nx) := by
  intro K ls st h r he
  match st, he with
  | .inr (.inr (C0, j)) :: t, he =>
    unfold zo_getJ at he ⊢
    obtain ⟨e1, he⟩ := zbrec he
    exact Or.inl ⟨_, _, _, _, he, fun K' q => by dsimp only; rw [e1]; exact q⟩
theorem zl_getR {C C2 nx : Nat} {off : Option Nat} : zTl (zo_getR C C2 off nx) := by
  intro K ls st h r he
  match st, he with
  | .inr (.inr (C0, j)) :: t, he =>
    unfold zo_getR at he ⊢
    obtain ⟨e1, he⟩ := zbrec he
    exact Or.inl ⟨_, _, _, _, he, fun K' q => by dsimp only; rw [e1]; exact q⟩
theorem zl_putI {C k nx : Nat} : zTl (zo_putI C k nx) := by
  intro K ls st h r he
  match st, he with
  | .inl v :: .inr (.inr (C0, j)) :: t, he =>
    unfold zo_putI at he ⊢
    obtain ⟨e1, he⟩ := zbrec he
    exact Or.inl ⟨_, _, _, _, he, fun K' q => by dsimp only; rw [e1]; exact q⟩
theorem zl_putJ {C k nx : Nat} : zTl (zo_putJ C k nx) := by
  intro K ls st h r he
  match st, he with
  | .inr (.inl v) :: .inr (.inr (C0, j)) :: t, he =>
    unfold zo_putJ at he ⊢
    obtain ⟨e1, he⟩ := zbrec he
    exact Or.inl ⟨_, _, _, _, he, fun K' q => by dsimp only; rw [e1]; exact q⟩
theorem zl_putZ {C k nx : Nat} : zTl (zo_putZ C k nx) := by
  intro K ls st h r he
  match st, he with
  | .inl v :: .inr (.inr (C0, j)) :: t, he =>
    unfold zo_putZ at he ⊢
    obtain ⟨e1, he⟩ := zbrec he
    obtain ⟨e2, he⟩ := zbrec he
    exact Or.inl ⟨_, _, _, _, he, fun K' q => by dsimp only; rw [e1]; dsimp only; rw [e2]; exact q⟩
theorem zl_iald {nx : Nat} : zTl (zo_iald nx) := by
  intro K ls st h r he
  match st, he with
  | .inl i :: .inr (.inr (C0, j)) :: t, he =>
    unfold zo_iald at he ⊢
    obtain ⟨e1, he⟩ := zbrec he
    obtain ⟨e2, he⟩ := zfel he
    exact Or.inl ⟨_, _, _, _, he, fun K' q => by dsimp only; rw [e1]; exact (zf_pos e2 _ _).trans q⟩
theorem zl_ialdc {nx : Nat} : zTl (zo_ialdc nx) := by
  intro K ls st h r he
  match st, he with
  | .inl i :: .inr (.inr (C0, j)) :: t, he =>
    unfold zo_ialdc at he ⊢
    obtain ⟨e1, he⟩ := zbrec he
    obtain ⟨e2, he⟩ := zbrec he
    exact Or.inl ⟨_, _, _, _, he, fun K' q => by dsimp only; rw [e1]; dsimp only; rw [e2]; exact q⟩
theorem zl_lald {nx : Nat} : zTl (zo_lald nx) := by
  intro K ls st h r he
  match st, he with
  | .inl i :: .inr (.inr (C0, j)) :: t, he =>
    unfold zo_lald at he ⊢
    obtain ⟨e1, he⟩ := zbrec he
    obtain ⟨e2, he⟩ := zfel he
    exact Or.inl ⟨_, _, _, _, he, fun K' q => by dsimp only; rw [e1]; exact (zf_pos e2 _ _).trans q⟩
theorem zl_laldc {nx : Nat} : zTl (zo_laldc nx) := by
  intro K ls st h r he
  match st, he with
  | .inl i :: .inr (.inr (C0, j)) :: t, he =>
    unfold zo_laldc at he ⊢
    obtain ⟨e1, he⟩ := zbrec he
    obtain ⟨e2, he⟩ := zbrec he
    exact Or.inl ⟨_, _, _, _, he, fun K' q => by dsimp only; rw [e1]; dsimp only; rw [e2]; exact q⟩
theorem zl_bald {nx : Nat} : zTl (zo_bald nx) := by
  intro K ls st h r he
  match st, he with
  | .inl i :: .inr (.inr (C0, j)) :: t, he =>
    unfold zo_bald at he ⊢
    obtain ⟨e1, he⟩ := zbrec he
    obtain ⟨e2, he⟩ := zfel he
    exact Or.inl ⟨_, _, _, _, he, fun K' q => by dsimp only; rw [e1]; exact (zf_pos e2 _ _).trans q⟩
theorem zl_baldc {nx : Nat} : zTl (zo_baldc nx) := by
  intro K ls st h r he
  match st, he with
  | .inl i :: .inr (.inr (C0, j)) :: t, he =>
    unfold zo_baldc at he ⊢
    obtain ⟨e1, he⟩ := zbrec he
    obtain ⟨e2, he⟩ := zbrec he
    exact Or.inl ⟨_, _, _, _, he, fun K' q => by dsimp only; rw [e1]; dsimp only; rw [e2]; exact q⟩
theorem zl_zald {nx : Nat} : zTl (zo_zald nx) := by
  intro K ls st h r he
  match st, he with
  | .inl i :: .inr (.inr (C0, j)) :: t, he =>
    unfold zo_zald at he ⊢
    obtain ⟨e1, he⟩ := zbrec he
    obtain ⟨e2, he⟩ := zfel he
    exact Or.inl ⟨_, _, _, _, he, fun K' q => by dsimp only; rw [e1]; exact (zf_pos e2 _ _).trans q⟩
theorem zl_zaldc {nx : Nat} : zTl (zo_zaldc nx) := by
  intro K ls st h r he
  match st, he with
  | .inl i :: .inr (.inr (C0, j)) :: t, he =>
    unfold zo_zaldc at he ⊢
    obtain ⟨e1, he⟩ := zbrec he
    obtain ⟨e2, he⟩ := zbrec he
    exact Or.inl ⟨_, _, _, _, he, fun K' q => by dsimp only; rw [e1]; dsimp only; rw [e2]; exact q⟩
theorem zl_aald5 {nx : Nat} : zTl (zo_aald5 nx) := by
  intro K ls st h r he
  match st, he with
  | .inl i :: .inr (.inr (C0, j)) :: t, he =>
    unfold zo_aald5 at he ⊢
    obtain ⟨e1, he⟩ := zbrec he
    obtain ⟨e2, he⟩ := zfel he
    exact Or.inl ⟨_, _, _, _, he, fun K' q => by dsimp only; rw [e1]; exact (zf_pos e2 _ _).trans q⟩
theorem zl_aald5c {nx : Nat} : zTl (zo_aald5c nx) := by
  intro K ls st h r he
  match st, he with
  | .inl i :: .inr (.inr (C0, j)) :: t, he =>
    unfold zo_aald5c at he ⊢
    obtain ⟨e1, he⟩ := zbrec he
    obtain ⟨e2, he⟩ := zbrec he
    exact Or.inl ⟨_, _, _, _, he, fun K' q => by dsimp only; rw [e1]; dsimp only; rw [e2]; exact q⟩
theorem zl_aald6 {nx : Nat} : zTl (zo_aald6 nx) := by
  intro K ls st h r he
  match st, he with
  | .inl i :: .inr (.inr (C0, j)) :: t, he =>
    unfold zo_aald6 at he ⊢
    obtain ⟨e1, he⟩ := zbrec he
    obtain ⟨e2, he⟩ := zfel he
    exact Or.inl ⟨_, _, _, _, he, fun K' q => by dsimp only; rw [e1]; exact (zf_pos e2 _ _).trans q⟩
theorem zl_aald6c {nx : Nat} : zTl (zo_aald6c nx) := by
  intro K ls st h r he
  match st, he with
  | .inl i :: .inr (.inr (C0, j)) :: t, he =>
    unfold zo_aald6c at he ⊢
    obtain ⟨e1, he⟩ := zbrec he
    obtain ⟨e2, he⟩ := zbrec he
    exact Or.inl ⟨_, _, _, _, he, fun K' q => by dsimp only; rw [e1]; dsimp only; rw [e2]; exact q⟩
theorem zl_iast {nx : Nat} : zTl (zo_iast nx) := by
  intro K ls st h r he
  match st, he with
  | .inl x :: .inl i :: .inr (.inr (C0, j)) :: t, he =>
    unfold zo_iast at he ⊢
    obtain ⟨e1, he⟩ := zbrec he
    obtain ⟨e2, he⟩ := zfel he
    exact Or.inl ⟨_, _, _, _, he, fun K' q => by dsimp only; rw [e1]; exact (zf_pos e2 _ _).trans q⟩
theorem zl_iastc {nx : Nat} : zTl (zo_iastc nx) := by
  intro K ls st h r he
  match st, he with
  | .inl x :: .inl i :: .inr (.inr (C0, j)) :: t, he =>
    unfold zo_iastc at he ⊢
    obtain ⟨e1, he⟩ := zbrec he
    obtain ⟨e2, he⟩ := zbrec he
    exact Or.inl ⟨_, _, _, _, he, fun K' q => by dsimp only; rw [e1]; dsimp only; rw [e2]; exact q⟩
theorem zl_bast {nx : Nat} : zTl (zo_bast nx) := by
  intro K ls st h r he
  match st, he with
  | .inl x :: .inl i :: .inr (.inr (C0, j)) :: t, he =>
    unfold zo_bast at he ⊢
    obtain ⟨e1, he⟩ := zbrec he
    obtain ⟨e2, he⟩ := zfel he
    exact Or.inl ⟨_, _, _, _, he, fun K' q => by dsimp only; rw [e1]; exact (zf_pos e2 _ _).trans q⟩
theorem zl_bastc {nx : Nat} : zTl (zo_bastc nx) := by
  intro K ls st h r he
  match st, he with
  | .inl x :: .inl i :: .inr (.inr (C0, j)) :: t, he =>
    unfold zo_bastc at he ⊢
    obtain ⟨e1, he⟩ := zbrec he
    obtain ⟨e2, he⟩ := zbrec he
    exact Or.inl ⟨_, _, _, _, he, fun K' q => by dsimp only; rw [e1]; dsimp only; rw [e2]; exact q⟩
theorem zl_zast {nx : Nat} : zTl (zo_zast nx) := by
  intro K ls st h r he
  match st, he with
  | .inl x :: .inl i :: .inr (.inr (C0, j)) :: t, he =>
    unfold zo_zast at he ⊢
    obtain ⟨e1, he⟩ := zbrec he
    obtain ⟨e2, he⟩ := zfel he
    exact Or.inl ⟨_, _, _, _, he, fun K' q => by dsimp only; rw [e1]; exact (zf_pos e2 _ _).trans q⟩
theorem zl_zastc {nx : Nat} : zTl (zo_zastc nx) := by
  intro K ls st h r he
  match st, he with
  | .inl x :: .inl i :: .inr (.inr (C0, j)) :: t, he =>
    unfold zo_zastc at he ⊢
    obtain ⟨e1, he⟩ := zbrec he
    obtain ⟨e2, he⟩ := zbrec he
    exact Or.inl ⟨_, _, _, _, he, fun K' q => by dsimp only; rw [e1]; dsimp only; rw [e2]; exact q⟩
theorem zl_last {nx : Nat} : zTl (zo_last nx) := by
  intro K ls st h r he
  match st, he with
  | .inr (.inl x) :: .inl i :: .inr (.inr (C0, j)) :: t, he =>
    unfold zo_last at he ⊢
    obtain ⟨e1, he⟩ := zbrec he
    obtain ⟨e2, he⟩ := zfel he
    exact Or.inl ⟨_, _, _, _, he, fun K' q => by dsimp only; rw [e1]; exact (zf_pos e2 _ _).trans q⟩
theorem zl_lastc {nx : Nat} : zTl (zo_lastc nx) := by
  intro K ls st h r he
  match st, he with
  | .inr (.inl x) :: .inl i :: .inr (.inr (C0, j)) :: t, he =>
    unfold zo_lastc at he ⊢
    obtain ⟨e1, he⟩ := zbrec he
    obtain ⟨e2, he⟩ := zbrec he
    exact Or.inl ⟨_, _, _, _, he, fun K' q => by dsimp only; rw [e1]; dsimp only; rw [e2]; exact q⟩
theorem zl_idc {f : Int32 → Int32 → Int32} {nx : Nat} : zTl (zo_idc f nx) := by
  intro K ls st h r he
  match st, he with
  | .inl y :: .inl x :: t, he =>
    unfold zo_idc at he ⊢
    obtain ⟨e1, he⟩ := zbrec he
    exact Or.inl ⟨_, _, _, _, he, fun K' q => by dsimp only; rw [e1]; exact q⟩
theorem zl_ldc {f : Int64 → Int64 → Int64} {nx : Nat} : zTl (zo_ldc f nx) := by
  intro K ls st h r he
  match st, he with
  | .inr (.inl y) :: .inr (.inl x) :: t, he =>
    unfold zo_ldc at he ⊢
    obtain ⟨e1, he⟩ := zbrec he
    exact Or.inl ⟨_, _, _, _, he, fun K' q => by dsimp only; rw [e1]; exact q⟩
theorem zl_cpyI {nx : Nat} : zTl (zo_cpyI nx) := by
  intro K ls st h r he
  match st, he with
  | .inl n :: .inl dp :: .inr (.inr (C1, j1)) :: .inl sp :: .inr (.inr (C, j)) :: t, he =>
    unfold zo_cpyI at he ⊢
    obtain ⟨e1, he⟩ := zbrec he
    exact Or.inl ⟨_, _, _, _, he, fun K' q => by dsimp only; rw [e1]; exact q⟩
theorem zl_cpyJ {nx : Nat} : zTl (zo_cpyJ nx) := by
  intro K ls st h r he
  match st, he with
  | .inl n :: .inl dp :: .inr (.inr (C1, j1)) :: .inl sp :: .inr (.inr (C, j)) :: t, he =>
    unfold zo_cpyJ at he ⊢
    obtain ⟨e1, he⟩ := zbrec he
    exact Or.inl ⟨_, _, _, _, he, fun K' q => by dsimp only; rw [e1]; exact q⟩
theorem zl_max {nx : Nat} : zTl (zo_max nx) := by
  intro K ls st h r he
  match st, he with
  | .inl y :: .inl x :: t, he =>
    unfold zo_max at he ⊢
    obtain ⟨e1, he⟩ := zbrec he
    exact Or.inl ⟨_, _, _, _, he, fun K' q => by dsimp only; rw [e1]; exact q⟩
theorem zl_min {nx : Nat} : zTl (zo_min nx) := by
  intro K ls st h r he
  match st, he with
  | .inl y :: .inl x :: t, he =>
    unfold zo_min at he ⊢
    obtain ⟨e1, he⟩ := zbrec he
    exact Or.inl ⟨_, _, _, _, he, fun K' q => by dsimp only; rw [e1]; exact q⟩
theorem zl_calli {cs : zS} {n nx : Nat} : zTl (zo_calli cs n nx) := by
  intro K ls st h r he
  unfold zo_calli at he ⊢
  generalize zpop n [] st = o at he ⊢
  match o, he with
  | some (a, t), he =>
    obtain ⟨e1, he⟩ := zbrec he
    generalize hc : cs a h = rr at he
    match rr, he with
    | some (some (.inl x), h2), he => exact Or.inl ⟨_, _, _, _, he, fun K' q => by dsimp only; rw [e1, hc]; exact q⟩
theorem zl_callj {cs : zS} {n nx : Nat} : zTl (zo_callj cs n nx) := by
  intro K ls st h r he
  unfold zo_callj at he ⊢
  generalize zpop n [] st = o at he ⊢
  match o, he with
  | some (a, t), he =>
    obtain ⟨e1, he⟩ := zbrec he
    generalize hc : cs a h = rr at he
    match rr, he with
    | some (some (.inr (.inl x)), h2), he => exact Or.inl ⟨_, _, _, _, he, fun K' q => by dsimp only; rw [e1, hc]; exact q⟩
theorem zl_callv {cs : zS} {n nx : Nat} : zTl (zo_callv cs n nx) := by
  intro K ls st h r he
  unfold zo_callv at he ⊢
  generalize zpop n [] st = o at he ⊢
  match o, he with
  | some (a, t), he =>
    obtain ⟨e1, he⟩ := zbrec he
    generalize hc : cs a h = rr at he
    match rr, he with
    | some (none, h2), he => exact Or.inl ⟨_, _, _, _, he, fun K' q => by dsimp only; rw [e1, hc]; exact q⟩
theorem zl_vir {C n : Nat} {op : zO} (ho : zTl op) : zTl (zo_vir C n op) := by
  intro K ls st h r he
  unfold zo_vir at he ⊢
  generalize zpop n [] st = o at he ⊢
  match o, he with
  | some (a, t), he =>
    obtain ⟨e1, he⟩ := zbrec he
    rcases ho K ls st h r he with ⟨k', ls', st', h', h1, h2⟩ | h1
    · exact Or.inl ⟨k', ls', st', h', h1, fun K' q => by dsimp only; rw [e1]; exact h2 K' q⟩
    · exact Or.inr (fun K' => by dsimp only; rw [e1]; exact h1 K')
theorem zl_iret : zTl zo_iret := by
  intro K ls st h r he
  match st, he with
  | [.inl x], he => exact Or.inr (fun K' => he)
theorem zl_lret : zTl zo_lret := by
  intro K ls st h r he
  match st, he with
  | [.inr (.inl x)], he => exact Or.inr (fun K' => he)
theorem zl_ret : zTl zo_ret := by
  intro K ls st h r he
  match st, he with
  | [], he => exact Or.inr (fun K' => he)
theorem zl_zret : zTl zo_zret := by
  intro K ls st h r he
  match st, he with
  | [.inl x], he => exact Or.inr (fun K' => he)
theorem zl_zretc : zTl zo_zretc := by
  intro K ls st h r he
  match st, he with
  | [.inl x], he => exact Or.inr (fun K' => he)
/-- what a run comes to, if it ends -/
noncomputable def zL (P : Nat → zO) : Nat → zC := fun k ls st h => @dite _ (∃ (n : Nat) (r : zRes), zE P n k ls st h = some r) (Classical.propDecidable _) (fun q => some (Classical.choose (Classical.choose_spec q))) (fun _ => none)
theorem zE_mono {P : Nat → zO} (hP : ∀ k, zTl (P k)) : ∀ (n k : Nat) (ls : zLo) (st : List zV) (h : zH) (r : zRes), zE P n k ls st h = some r → zE P (n + 1) k ls st h = some r := by
  intro n
  induction n with
  | zero => intro k ls st h r he; cases he
  | succ n ih =>
    intro k ls st h r he
    rcases hP k (zE P n) ls st h r he with ⟨k', ls', st', h', h1, h2⟩ | h1
    · exact h2 (zE P (n + 1)) (ih k' ls' st' h' r h1)
    · exact h1 _
theorem zE_le {P : Nat → zO} (hP : ∀ k, zTl (P k)) {n m k : Nat} {ls : zLo} {st : List zV} {h : zH} {r : zRes} (hnm : n ≤ m) (he : zE P n k ls st h = some r) : zE P m k ls st h = some r := by
  induction hnm with
  | refl => exact he
  | step _ ih => exact zE_mono hP _ _ _ _ _ _ ih
theorem zL_iff {P : Nat → zO} (hP : ∀ k, zTl (P k)) {k : Nat} {ls : zLo} {st : List zV} {h : zH} {r : zRes} : zL P k ls st h = some r ↔ ∃ n, zE P n k ls st h = some r := by
  by_cases q : ∃ (n : Nat) (r : zRes), zE P n k ls st h = some r
  · have e : zL P k ls st h = some (Classical.choose (Classical.choose_spec q)) := by unfold zL; rw [dif_pos q]
    have hs := Classical.choose_spec (Classical.choose_spec q)
    rw [e]
    constructor
    · intro e2
      rw [Option.some.inj e2] at hs
      exact ⟨_, hs⟩
    · rintro ⟨n, hn⟩
      have h1 := zE_le hP (Nat.le_max_left n (Classical.choose q)) hn
      have h2 := zE_le hP (Nat.le_max_right n (Classical.choose q)) hs
      rw [h1] at h2
      exact h2.symm
  · have e : zL P k ls st h = none := by unfold zL; rw [dif_neg q]
    rw [e]
    constructor
    · intro e2; cases e2
    · rintro ⟨n, hn⟩; exact absurd ⟨n, r, hn⟩ q
theorem zL_eq {P : Nat → zO} (hP : ∀ k, zTl (P k)) (k : Nat) (ls : zLo) (st : List zV) (h : zH) : zL P k ls st h = P k (zL P) ls st h := by
  apply Option.ext
  intro r
  constructor
  · intro e
    obtain ⟨n, hn⟩ := (zL_iff hP).mp e
    cases n with
    | zero => cases hn
    | succ n =>
      rcases hP k (zE P n) ls st h r hn with ⟨k', ls', st', h', h1, h2⟩ | h1
      · exact h2 (zL P) ((zL_iff hP).mpr ⟨n, h1⟩)
      · exact h1 _
  · intro e
    rcases hP k (zL P) ls st h r e with ⟨k', ls', st', h', h1, h2⟩ | h1
    · obtain ⟨n, hn⟩ := (zL_iff hP).mp h1
      exact (zL_iff hP).mpr ⟨n + 1, h2 (zE P n) hn⟩
    · exact (zL_iff hP).mpr ⟨1, h1 _⟩
/-- n steps, then K -/
def zX (P : Nat → zO) (n : Nat) (K : Nat → zC) : Nat → zC := Nat.rec K (fun _ ih k => P k ih) n
theorem zL_n {P : Nat → zO} (hP : ∀ k, zTl (P k)) (n : Nat) (k : Nat) (ls : zLo) (st : List zV) (h : zH) : zL P k ls st h = zX P n (zL P) k ls st h := by
  have key : ∀ n, zX P n (zL P) = zL P := by
    intro n
    induction n with
    | zero => rfl
    | succ n ih =>
      funext k ls st h
      show P k (zX P n (zL P)) ls st h = _
      rw [ih]
      exact (zL_eq hP k ls st h).symm
  rw [key]
/-! a method's locals at its entry; its run; its contract -/
def zar : List zV → zLo
  | [] => []
  | .inr (.inl x) :: t => some (.inr (.inl x)) :: none :: zar t
  | .inl x :: t => some (.inl x) :: zar t
  | .inr (.inr x) :: t => some (.inr (.inr x)) :: zar t
def zpad (ls : zLo) : Nat → zLo
  | 0 => ls
  | n + 1 => match ls with
    | [] => none :: zpad [] n
    | a :: t => a :: zpad t n
def zent (n : Nat) (a : List zV) : zLo := zpad (zar a) n
noncomputable def zrun (P : Nat → zO) (mL : Nat) : zS := fun a h => bif Nat.ble (zar a).length mL then zL P 0 (zent mL a) [] h else none
theorem zg_pad : ∀ (n : Nat) (ls : zLo) (i : Nat) (v : zV), zg (zpad ls n) i = some v → zg ls i = some v
  | 0, ls, i, v, h => h
  | n + 1, [], 0, v, h => by cases h
  | n + 1, [], i + 1, v, h => zg_pad n [] i v h
  | n + 1, a :: t, 0, v, h => h
  | n + 1, a :: t, i + 1, v, h => zg_pad n t i v h
theorem zar_mem {ad : Nat → Nat → Nat} : ∀ (a : List zV) (k i : Nat) (v : zV), zg (zar a) i = some v → v ∈ a ∧ (k + i, zc ad v) ∈ lv_args k (a.map (zc ad))
  | [], _, _, _, h => by cases h
  | .inl x :: t, k, 0, v, h => by
    obtain rfl : Sum.inl x = v := Option.some.inj h
    exact ⟨List.mem_cons_self, List.mem_cons_self⟩
  | .inr (.inr x) :: t, k, 0, v, h => by
    obtain rfl : Sum.inr (Sum.inr x) = v := Option.some.inj h
    exact ⟨List.mem_cons_self, List.mem_cons_self⟩
  | .inr (.inl x) :: t, k, 0, v, h => by
    obtain rfl : Sum.inr (Sum.inl x) = v := Option.some.inj h
    exact ⟨List.mem_cons_self, List.mem_cons_self⟩
  | .inl x :: t, k, i + 1, v, h => by
    obtain ⟨h1, h2⟩ := zar_mem t (k + 1) i v h
    exact ⟨List.mem_cons_of_mem _ h1, List.mem_cons_of_mem _ (by rw [show k + (i + 1) = k + 1 + i by omega]; exact h2)⟩
  | .inr (.inr x) :: t, k, i + 1, v, h => by
    obtain ⟨h1, h2⟩ := zar_mem t (k + 1) i v h
    exact ⟨List.mem_cons_of_mem _ h1, List.mem_cons_of_mem _ (by rw [show k + (i + 1) = k + 1 + i by omega]; exact h2)⟩
  | .inr (.inl x) :: t, k, 1, v, h => by cases h
  | .inr (.inl x) :: t, k, i + 2, v, h => by
    obtain ⟨h1, h2⟩ := zar_mem t (k + 2) i v h
    exact ⟨List.mem_cons_of_mem _ h1, List.mem_cons_of_mem _ (by rw [show k + (i + 2) = k + 2 + i by omega]; exact h2)⟩
theorem zar_len {ad : Nat → Nat → Nat} : ∀ a : List zV, (lg_sl (a.map (zc ad))).length = (zar a).length
  | [] => rfl
  | .inl x :: t => by have := zar_len (ad := ad) t; simp only [lg_sl, zar, List.map_cons, List.flatMap_cons, List.length_append, List.length_cons] at this ⊢; rw [this]; simp [zc, Value.category]; omega
  | .inr (.inr x) :: t => by have := zar_len (ad := ad) t; simp only [lg_sl, zar, List.map_cons, List.flatMap_cons, List.length_append, List.length_cons] at this ⊢; rw [this]; simp [zc, Value.category]; omega
  | .inr (.inl x) :: t => by have := zar_len (ad := ad) t; simp only [lg_sl, zar, List.map_cons, List.flatMap_cons, List.length_append, List.length_cons] at this ⊢; rw [this]; simp [zc, Value.category]; omega
def zAd (ad : Nat → Nat → Nat) (L : List (Nat × Nat)) : Prop := ∀ q ∈ L, ∀ r ∈ L, ad q.1 q.2 = ad r.1 r.2 → q = r
theorem zD_of {ad : Nat → Nat → Nat} {cy : Nat → ClassId} {L : List (Nat × Nat)} (hn : L.Nodup) (ha : zAd ad L) (h : zH) : va_D (zA ad L) (zws ad cy L h) := by
  have at9 : ∀ (i : Nat) (p : Nat × va_E), (zws ad cy L h)[i]? = some p → ∃ q ∈ L, L[i]? = some q ∧ p.1 = ad q.1 q.2 := by
    intro i p hi
    unfold zws at hi
    rw [List.getElem?_map] at hi
    obtain ⟨q, hq, rfl⟩ := Option.map_eq_some_iff.mp hi
    exact ⟨q, List.mem_of_getElem? hq, hq, rfl⟩
  refine ⟨fun i j p q hi hj e => ?_, fun i q hi => ?_⟩
  · obtain ⟨a, a1, a2, a3⟩ := at9 i p hi
    obtain ⟨b, b1, b2, b3⟩ := at9 j q hj
    have hab : a = b := ha a a1 b b1 (by rw [← a3, ← b3]; exact e)
    subst hab
    have h1 := List.getElem?_eq_some_iff.mp a2
    have h2 := List.getElem?_eq_some_iff.mp b2
    exact (List.getElem_inj hn).mp (h1.2.trans h2.2.symm)
  · obtain ⟨a, a1, a2, a3⟩ := at9 i q hi
    exact ⟨a, a1, a3⟩
def zXl (X : zCtx) (l : Launch) (D : va_G) (ad : Nat → Nat → Nat) (cy : Nat → ClassId) (L : List (Nat × Nat)) (rm : Room) : Prop := match X with
  | ((_, l', _, R, _, _, _, _, _, _), (D', ad', cy', L', _, _), _) => l' = l ∧ D' = D ∧ ad' = ad ∧ cy' = cy ∧ L' = L ∧ R = rm
theorem zXc_of {X : zCtx} {l : Launch} {D : va_G} {ad : Nat → Nat → Nat} {cy : Nat → ClassId} {L : List (Nat × Nat)} {d d' : Nat} {cs : zS} {y : MethodName} {w0 : Cond} (hX : zXl X l D ad cy L (zroom d)) (hd : d' < d) (hC : zCk l D ad cy L d' cs y w0) : zXc X d' cs y w0 := by
  obtain ⟨⟨p, l9, e, R, s, m, args, below, meth, c⟩, ⟨D9, ad9, cy9, L9, A, H0⟩, ⟨own9, cc9, nL9, Q, cf, sf⟩⟩ := X
  obtain ⟨rfl, rfl, rfl, rfl, rfl, rfl⟩ := hX
  exact ⟨hC, by simp only [zroom]; omega, by simp only [zroom]; omega⟩
theorem z_met {l : Launch} {D : va_G} {ad : Nat → Nat → Nat} {cy : Nat → ClassId} {L : List (Nat × Nat)} {d : Nat} {y : MethodName} {cc : ByteArray} {maxL : Nat} {ret : Option FieldType} {P : Nat → zO} (hy : plainName y.cls = true) (hP : ∀ k, zTl (P k)) (hcl : zclo L = true) (hinj : zAd ad L)
    (hs : ∀ X, zXok X y.cls cc maxL → zRt X ret → zXl X l D ad cy L (zroom d) → ∀ k, zSo X k (P k)) : zCk l D ad cy L d (zrun P maxL) y (.code y cc maxL ret) := by
  intro a h res hE hok
  obtain ⟨hlen, hE⟩ := zbif (show (bif Nat.ble (zar a).length maxL then zL P 0 (zent maxL a) [] h else none) = some res from hE)
  have hlen := Nat.le_of_ble_eq_true hlen
  obtain ⟨n, hn⟩ := (zL_iff hP).mp hE
  refine Met.ofW (cc := cc) (maxL := maxL) (ret := ret) hy rfl ?_
  intro p e s m args below meth c s₁ B hml hv
  obtain ⟨rfl, hP0, hK⟩ := hv
  have hts := atoms_spec (ws := Cond.code y cc maxL ret :: zT) B.pre
  have hown : s.vm.findClass y.cls = some m.cls := findClass_of_methodNamed B.named
  have hl := lv_entry (a.map (zc ad)) (n := maxL) (by rw [zar_len]; exact hlen)
  rw [lg_entry_eq]
  generalize (lg_sl (a.map (zc ad)) ++ List.replicate (maxL - (lg_sl (a.map (zc ad))).length) Slot.unset).toArray = lsA at hl ⊢
  let X : zCtx := ((p, l, e, zroom d, s, m, (a.map (zc ad)).toArray, below, meth, c), (D, ad, cy, L, zA ad L, s.heap), (y.cls, cc, maxL, fun res => MQ below (zQc D ad cy L res) (a.map (zc ad)).toArray s 0 0 (zA ad L), fun _ => 0, fun _ => 0))
  have hX : zXok X y.cls cc maxL := ⟨B.exec, B.bytes, hml, hown, fun w hw => hts w (List.mem_cons_of_mem _ hw), hK, zD_of (zclo.nodup hcl) hinj, hcl, fun _ _ _ _ => rfl, fun _ _ _ _ => rfl, rfl, rfl, rfl, by simp only [zroom]; omega, by simp only [zroom]; omega, fun _ => Nat.zero_le _, fun _ => Nat.zero_le _⟩
  have hR : zRt X ret := ⟨B.returns, B.notSynchronized, fun _ => rfl, fun _ => rfl, fun _ => rfl, rfl, rfl⟩
  have hW := z_run (X := X) (hs X hX hR ⟨rfl, rfl, rfl, rfl, rfl, rfl⟩) n 0 (zent maxL a) [] h res hn
  exact hW (fun v hv => by cases hv) (fun i v hv => hok v (zar_mem (ad := ad) a 0 i v (zg_pad _ _ _ _ hv)).1) s.heap [] lsA hP0 va_S.rf ⟨hl.1, hl.2.1, fun i v _ hv => by
    have := (zar_mem (ad := ad) a 0 i v (zg_pad _ _ _ _ hv)).2
    rw [Nat.zero_add] at this
    exact hl.2.2 _ this⟩

