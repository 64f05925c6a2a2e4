/-! Nodes that are made one after the other: a tree's nodes are those from a to b. -/
/-- node n is the tree t, whose nodes are a .. b - 1 -/
def gn_iv (kd wi mo : Nat → Nat) (nx : Nat → Option Nat) : gt_T → Bool → Nat → Nat → Nat → Prop
  | .cat l hi, bb, a, b, n => n = a ∧ b = n + 1 ∧ (bb = true → nx n = none) ∧ kd n = 0 ∧ wi n = gt_nm l ∧ (mo n = hi ∨ (hi = 255 ∧ mo n = 127)) ∧ gt_nm l ≤ 255 ∧ hi ≤ 255
  | .parser r, bb, a, b, n => n = a ∧ b = n + 1 ∧ (bb = true → nx n = none) ∧ kd n = 1 ∧ wi n = gt_nm r
  | .const _, bb, a, b, n => n = a ∧ b = n + 1 ∧ (bb = true → nx n = none) ∧ kd n = 2
  | .unary _ t, bb, a, b, n => b = n + 1 ∧ (bb = true → nx n = none) ∧ kd n = 3 ∧ gn_iv kd wi mo nx t false a n (wi n)
  | .node _ k t, bb, a, b, n => b = n + 1 ∧ (bb = true → nx n = none) ∧ k < 3 ∧ kd n = 4 + k ∧ gn_iv kd wi mo nx t false a n (wi n)
  | .trailingNode _ k _ t, bb, a, b, n => b = n + 1 ∧ (bb = true → nx n = none) ∧ kd n = (if k = 1 then 7 else 8) ∧ gn_iv kd wi mo nx t false a n (wi n)
  | .nodeWithAntiquot _ k t, bb, a, b, n => n = a ∧ (bb = true → nx n = none) ∧ kd n = gt_nm k ∧ gn_iv kd wi mo nx t true (a + 1) b (wi n) ∧ (gt_nm k = 9 ∧ gt_isl 10 t = false ∨ gt_nm k = 10 ∧ gt_isl 9 t = false)
  | .sepBy x _ y _, bb, a, b, n => bb = true ∧ ∃ c m, gn_iv kd wi mo nx x false a c n ∧ gt_isl 10 y = false ∧ nx n = some m ∧ gn_iv kd wi mo nx y true c b m
  | .sepBy1 x _ y _, bb, a, b, n => bb = true ∧ ∃ c m, gn_iv kd wi mo nx x false a c n ∧ gt_isl 9 y = false ∧ nx n = some m ∧ gn_iv kd wi mo nx y true c b m
  | _, _, _, _, _ => False
section GIV
variable {kd wi mo kd' wi' mo' : Nat → Nat} {nx nx' : Nat → Option Nat}
theorem gn_iv_in (t : gt_T) : ∀ (bb : Bool) (a b n : Nat), gn_iv kd wi mo nx t bb a b n → a ≤ n ∧ n < b := by
  induction t with
  | cat l hi => exact fun bb a b n h => by have := h.1; have := h.2.1; omega
  | parser r => exact fun bb a b n h => by have := h.1; have := h.2.1; omega
  | const r => exact fun bb a b n h => by have := h.1; have := h.2.1; omega
  | unary m t ih => exact fun bb a b n h => by have := ih _ _ _ _ h.2.2.2; have := h.1; omega
  | node m k t ih => exact fun bb a b n h => by have := ih _ _ _ _ h.2.2.2.2; have := h.1; omega
  | trailingNode m k l t ih => exact fun bb a b n h => by have := ih _ _ _ _ h.2.2.2; have := h.1; omega
  | nodeWithAntiquot s k t ih => exact fun bb a b n h => by have := ih _ _ _ _ h.2.2.2.1; have := h.1; omega
  | sepBy x s y b' ihx ihy =>
    intro bb a b n h
    obtain ⟨_, c, m, h1, _, _, h2⟩ := h
    have := ihx _ _ _ _ h1
    have := ihy _ _ _ _ h2
    omega
  | sepBy1 x s y b' ihx ihy =>
    intro bb a b n h
    obtain ⟨_, c, m, h1, _, _, h2⟩ := h
    have := ihx _ _ _ _ h1
    have := ihy _ _ _ _ h2
    omega
  | _ => exact fun bb a b n h => False.elim h
/-- nothing else counts; of the first node of a tree that stands alone what is next doesn't either -/
theorem gn_iv_eq (t : gt_T) : ∀ (bb : Bool) (a b n : Nat), gn_iv kd wi mo nx t bb a b n → (∀ j, a ≤ j → j < b → kd' j = kd j ∧ wi' j = wi j ∧ mo' j = mo j) → (∀ j, a ≤ j → j < b → (bb = true ∨ j ≠ n) → nx' j = nx j) → gn_iv kd' wi' mo' nx' t bb a b n := by
  induction t with
  | cat l hi =>
    intro bb a b n h h1 h2
    have hin := gn_iv_in _ _ _ _ _ h
    obtain ⟨e1, e2, e3, e4, e5, e6, e7⟩ := h
    obtain ⟨q1, q2, q3⟩ := h1 n hin.1 hin.2
    exact ⟨e1, e2, fun hb => by rw [h2 n hin.1 hin.2 (.inl hb)]; exact e3 hb, by rw [q1]; exact e4, by rw [q2]; exact e5, by rw [q3]; exact e6, e7⟩
  | parser r =>
    intro bb a b n h h1 h2
    have hin := gn_iv_in _ _ _ _ _ h
    obtain ⟨e1, e2, e3, e4, e5⟩ := h
    obtain ⟨q1, q2, q3⟩ := h1 n hin.1 hin.2
    exact ⟨e1, e2, fun hb => by rw [h2 n hin.1 hin.2 (.inl hb)]; exact e3 hb, by rw [q1]; exact e4, by rw [q2]; exact e5⟩
  | const r =>
    intro bb a b n h h1 h2
    have hin := gn_iv_in _ _ _ _ _ h
    obtain ⟨e1, e2, e3, e4⟩ := h
    obtain ⟨q1, q2, q3⟩ := h1 n hin.1 hin.2
    exact ⟨e1, e2, fun hb => by rw [h2 n hin.1 hin.2 (.inl hb)]; exact e3 hb, by rw [q1]; exact e4⟩
  | unary m t ih =>
    intro bb a b n h h1 h2
    have hin := gn_iv_in _ _ _ _ _ h
    obtain ⟨e1, e2, e3, e4⟩ := h
    obtain ⟨q1, q2, q3⟩ := h1 n hin.1 hin.2
    refine ⟨e1, fun hb => by rw [h2 n hin.1 hin.2 (.inl hb)]; exact e2 hb, by rw [q1]; exact e3, ?_⟩
    rw [q2]
    exact ih _ _ _ _ e4 (fun j j1 j2 => h1 j j1 (by omega)) (fun j j1 j2 _ => h2 j j1 (by omega) (.inr (by omega)))
  | node m k t ih =>
    intro bb a b n h h1 h2
    have hin := gn_iv_in _ _ _ _ _ h
    obtain ⟨e1, e2, e3, e4, e5⟩ := h
    obtain ⟨q1, q2, q3⟩ := h1 n hin.1 hin.2
    refine ⟨e1, fun hb => by rw [h2 n hin.1 hin.2 (.inl hb)]; exact e2 hb, e3, by rw [q1]; exact e4, ?_⟩
    rw [q2]
    exact ih _ _ _ _ e5 (fun j j1 j2 => h1 j j1 (by omega)) (fun j j1 j2 _ => h2 j j1 (by omega) (.inr (by omega)))
  | trailingNode m k l t ih =>
    intro bb a b n h h1 h2
    have hin := gn_iv_in _ _ _ _ _ h
    obtain ⟨e1, e2, e3, e4⟩ := h
    obtain ⟨q1, q2, q3⟩ := h1 n hin.1 hin.2
    refine ⟨e1, fun hb => by rw [h2 n hin.1 hin.2 (.inl hb)]; exact e2 hb, by rw [q1]; exact e3, ?_⟩
    rw [q2]
    exact ih _ _ _ _ e4 (fun j j1 j2 => h1 j j1 (by omega)) (fun j j1 j2 _ => h2 j j1 (by omega) (.inr (by omega)))
  | nodeWithAntiquot s k t ih =>
    intro bb a b n h h1 h2
    have hin := gn_iv_in _ _ _ _ _ h
    obtain ⟨e1, e2, e3, e4, e5⟩ := h
    obtain ⟨q1, q2, q3⟩ := h1 n hin.1 hin.2
    refine ⟨e1, fun hb => by rw [h2 n hin.1 hin.2 (.inl hb)]; exact e2 hb, by rw [q1]; exact e3, ?_, e5⟩
    rw [q2]
    exact ih _ _ _ _ e4 (fun j j1 j2 => h1 j (by omega) j2) (fun j j1 j2 _ => h2 j (by omega) j2 (.inr (by omega)))
  | sepBy x s y b' ihx ihy =>
    intro bb a b n h h1 h2
    obtain ⟨e1, c, m, e2, e3, e4, e5⟩ := h
    have hx := gn_iv_in _ _ _ _ _ e2
    have hy := gn_iv_in _ _ _ _ _ e5
    exact ⟨e1, c, m, ihx _ _ _ _ e2 (fun j j1 j2 => h1 j j1 (by omega)) (fun j j1 j2 _ => h2 j j1 (by omega) (.inl e1)), e3, by rw [h2 n hx.1 (by omega) (.inl e1)]; exact e4, ihy _ _ _ _ e5 (fun j j1 j2 => h1 j (by omega) j2) (fun j j1 j2 _ => h2 j (by omega) j2 (.inl e1))⟩
  | sepBy1 x s y b' ihx ihy =>
    intro bb a b n h h1 h2
    obtain ⟨e1, c, m, e2, e3, e4, e5⟩ := h
    have hx := gn_iv_in _ _ _ _ _ e2
    have hy := gn_iv_in _ _ _ _ _ e5
    exact ⟨e1, c, m, ihx _ _ _ _ e2 (fun j j1 j2 => h1 j j1 (by omega)) (fun j j1 j2 _ => h2 j j1 (by omega) (.inl e1)), e3, by rw [h2 n hx.1 (by omega) (.inl e1)]; exact e4, ihy _ _ _ _ e5 (fun j j1 j2 => h1 j (by omega) j2) (fun j j1 j2 _ => h2 j (by omega) j2 (.inl e1))⟩
  | _ => exact fun bb a b n h => False.elim h
/-- such a tree is one whose nodes are in D -/
theorem gn_iv_tr {D : Nat → Prop} (t : gt_T) : ∀ (bb : Bool) (a b n : Nat), gn_iv kd wi mo nx t bb a b n → (∀ j, a ≤ j → j < b → D j) → gn_tr D kd wi mo nx t bb n := by
  induction t with
  | cat l hi =>
    intro bb a b n h hD
    have hin := gn_iv_in _ _ _ _ _ h
    exact ⟨hD n hin.1 hin.2, h.2.2⟩
  | parser r =>
    intro bb a b n h hD
    have hin := gn_iv_in _ _ _ _ _ h
    exact ⟨hD n hin.1 hin.2, h.2.2⟩
  | const r =>
    intro bb a b n h hD
    have hin := gn_iv_in _ _ _ _ _ h
    exact ⟨hD n hin.1 hin.2, h.2.2⟩
  | unary m t ih =>
    intro bb a b n h hD
    have hin := gn_iv_in _ _ _ _ _ h
    obtain ⟨e1, e2, e3, e4⟩ := h
    exact ⟨hD n hin.1 hin.2, e2, e3, ih _ _ _ _ e4 (fun j j1 j2 => hD j j1 (by omega))⟩
  | node m k t ih =>
    intro bb a b n h hD
    have hin := gn_iv_in _ _ _ _ _ h
    obtain ⟨e1, e2, e3, e4, e5⟩ := h
    exact ⟨hD n hin.1 hin.2, e2, e3, e4, ih _ _ _ _ e5 (fun j j1 j2 => hD j j1 (by omega))⟩
  | trailingNode m k l t ih =>
    intro bb a b n h hD
    have hin := gn_iv_in _ _ _ _ _ h
    obtain ⟨e1, e2, e3, e4⟩ := h
    exact ⟨hD n hin.1 hin.2, e2, e3, ih _ _ _ _ e4 (fun j j1 j2 => hD j j1 (by omega))⟩
  | nodeWithAntiquot s k t ih =>
    intro bb a b n h hD
    have hin := gn_iv_in _ _ _ _ _ h
    obtain ⟨e1, e2, e3, e4, e5⟩ := h
    exact ⟨hD n hin.1 hin.2, e2, e3, ih _ _ _ _ e4 (fun j j1 j2 => hD j (by omega) j2), e5⟩
  | sepBy x s y b' ihx ihy =>
    intro bb a b n h hD
    obtain ⟨e1, c, m, e2, e3, e4, e5⟩ := h
    have hx := gn_iv_in _ _ _ _ _ e2
    have hy := gn_iv_in _ _ _ _ _ e5
    exact ⟨e1, ihx _ _ _ _ e2 (fun j j1 j2 => hD j j1 (by omega)), e3, m, e4, ihy _ _ _ _ e5 (fun j j1 j2 => hD j (by omega) j2)⟩
  | sepBy1 x s y b' ihx ihy =>
    intro bb a b n h hD
    obtain ⟨e1, c, m, e2, e3, e4, e5⟩ := h
    have hx := gn_iv_in _ _ _ _ _ e2
    have hy := gn_iv_in _ _ _ _ _ e5
    exact ⟨e1, ihx _ _ _ _ e2 (fun j j1 j2 => hD j j1 (by omega)), e3, m, e4, ihy _ _ _ _ e5 (fun j j1 j2 => hD j (by omega) j2)⟩
  | _ => exact fun bb a b n h => False.elim h
/-- each of its nodes is the root of a part of it -/
theorem gn_iv_all (t : gt_T) : ∀ (bb : Bool) (a b n : Nat), gn_iv kd wi mo nx t bb a b n → ∀ j, a ≤ j → j < b → ∃ t' a' b', a ≤ a' ∧ b' ≤ b ∧ gn_iv kd wi mo nx t' false a' b' j ∧ (∀ k, gt_nms t' k = true → gt_nms t k = true) ∧ ∀ E, gt_grd E t' = true → gt_grd E t = true := by
  have self : ∀ {t : gt_T} {bb : Bool} {a b n : Nat}, gn_iv kd wi mo nx t bb a b n → gt_isl 9 t = false → gt_isl 10 t = false → gn_iv kd wi mo nx t false a b n := fun {t bb a b n} h h9 h10 => by
    cases t with
    | sepBy x s y b' => cases h9
    | sepBy1 x s y b' => cases h10
    | cat l hi => exact ⟨h.1, h.2.1, (fun h => by cases h), h.2.2.2⟩
    | parser r => exact ⟨h.1, h.2.1, (fun h => by cases h), h.2.2.2⟩
    | const r => exact ⟨h.1, h.2.1, (fun h => by cases h), h.2.2.2⟩
    | unary m t => exact ⟨h.1, (fun h => by cases h), h.2.2⟩
    | node m k t => exact ⟨h.1, (fun h => by cases h), h.2.2⟩
    | trailingNode m k l t => exact ⟨h.1, (fun h => by cases h), h.2.2⟩
    | nodeWithAntiquot s k t => exact ⟨h.1, (fun h => by cases h), h.2.2⟩
    | _ => exact False.elim h
  induction t with
  | cat l hi =>
    intro bb a b n h j j1 j2
    have hin := gn_iv_in _ _ _ _ _ h
    have : j = n := by have := h.1; have := h.2.1; omega
    subst this
    exact ⟨_, a, b, Nat.le_refl _, Nat.le_refl _, self h rfl rfl, fun _ h => h, fun _ h => h⟩
  | parser r =>
    intro bb a b n h j j1 j2
    have hin := gn_iv_in _ _ _ _ _ h
    have : j = n := by have := h.1; have := h.2.1; omega
    subst this
    exact ⟨_, a, b, Nat.le_refl _, Nat.le_refl _, self h rfl rfl, fun _ h => h, fun _ h => h⟩
  | const r =>
    intro bb a b n h j j1 j2
    have hin := gn_iv_in _ _ _ _ _ h
    have : j = n := by have := h.1; have := h.2.1; omega
    subst this
    exact ⟨_, a, b, Nat.le_refl _, Nat.le_refl _, self h rfl rfl, fun _ h => h, fun _ h => h⟩
  | unary m t ih =>
    intro bb a b n h j j1 j2
    by_cases e : j = n
    · subst e
      exact ⟨_, a, b, Nat.le_refl _, Nat.le_refl _, self h rfl rfl, fun _ h => h, fun _ h => h⟩
    · obtain ⟨t', a', b', q1, q2, q3, q4, q5⟩ := ih _ _ _ _ h.2.2.2 j j1 (by have := h.1; omega)
      exact ⟨t', a', b', q1, (by have := h.1; omega), q3, q4, q5⟩
  | node m k t ih =>
    intro bb a b n h j j1 j2
    by_cases e : j = n
    · subst e
      exact ⟨_, a, b, Nat.le_refl _, Nat.le_refl _, self h rfl rfl, fun _ h => h, fun _ h => h⟩
    · obtain ⟨t', a', b', q1, q2, q3, q4, q5⟩ := ih _ _ _ _ h.2.2.2.2 j j1 (by have := h.1; omega)
      exact ⟨t', a', b', q1, (by have := h.1; omega), q3, q4, fun E hE => Bool.or_eq_true_iff.mpr (.inr (q5 E hE))⟩
  | trailingNode m k l t ih =>
    intro bb a b n h j j1 j2
    by_cases e : j = n
    · subst e
      exact ⟨_, a, b, Nat.le_refl _, Nat.le_refl _, self h rfl rfl, fun _ h => h, fun _ h => h⟩
    · obtain ⟨t', a', b', q1, q2, q3, q4, q5⟩ := ih _ _ _ _ h.2.2.2 j j1 (by have := h.1; omega)
      exact ⟨t', a', b', q1, (by have := h.1; omega), q3, q4, q5⟩
  | nodeWithAntiquot s k t ih =>
    intro bb a b n h j j1 j2
    by_cases e : j = n
    · subst e
      exact ⟨_, a, b, Nat.le_refl _, Nat.le_refl _, self h rfl rfl, fun _ h => h, fun _ h => h⟩
    · obtain ⟨t', a', b', q1, q2, q3, q4, q5⟩ := ih _ _ _ _ h.2.2.2.1 j (by have := h.1; omega) j2
      exact ⟨t', a', b', (by omega), q2, q3, q4, q5⟩
  | sepBy x s y b' ihx ihy =>
    intro bb a b n h j j1 j2
    obtain ⟨_, c, m, e2, e3, e4, e5⟩ := h
    have hx := gn_iv_in _ _ _ _ _ e2
    have hy := gn_iv_in _ _ _ _ _ e5
    by_cases hj : j < c
    · obtain ⟨t', a', b', q1, q2, q3, q4, q5⟩ := ihx _ _ _ _ e2 j j1 hj
      exact ⟨t', a', b', q1, (by omega), q3, fun k hk => Bool.or_eq_true_iff.mpr (.inl (q4 k hk)), fun E hE => Bool.or_eq_true_iff.mpr (.inl (q5 E hE))⟩
    · obtain ⟨t', a', b', q1, q2, q3, q4, q5⟩ := ihy _ _ _ _ e5 j (by omega) j2
      exact ⟨t', a', b', (by omega), q2, q3, fun k hk => Bool.or_eq_true_iff.mpr (.inr (q4 k hk)), fun E hE => Bool.or_eq_true_iff.mpr (.inr (q5 E hE))⟩
  | sepBy1 x s y b' ihx ihy =>
    intro bb a b n h j j1 j2
    obtain ⟨_, c, m, e2, e3, e4, e5⟩ := h
    have hx := gn_iv_in _ _ _ _ _ e2
    have hy := gn_iv_in _ _ _ _ _ e5
    by_cases hj : j < c
    · obtain ⟨t', a', b', q1, q2, q3, q4, q5⟩ := ihx _ _ _ _ e2 j j1 hj
      exact ⟨t', a', b', q1, (by omega), q3, fun k hk => Bool.or_eq_true_iff.mpr (.inl (q4 k hk)), fun E hE => Bool.or_eq_true_iff.mpr (.inl (q5 E hE))⟩
    · obtain ⟨t', a', b', q1, q2, q3, q4, q5⟩ := ihy _ _ _ _ e5 j (by omega) j2
      exact ⟨t', a', b', (by omega), q2, q3, fun k hk => Bool.or_eq_true_iff.mpr (.inr (q4 k hk)), fun E hE => Bool.or_eq_true_iff.mpr (.inr (q5 E hE))⟩
  | _ => exact fun bb a b n h => False.elim h
/-- trees one behind the other, from a to e; z: what is behind the last -/
def gn_ch (kd wi mo : Nat → Nat) (nx : Nat → Option Nat) (z : Option Nat) : List (gt_T × Nat) → Nat → Nat → Prop
  | [], a, e => a = e
  | (t, n) :: r, a, e => ∃ b, gn_iv kd wi mo nx t false a b n ∧ nx n = (match r with | [] => z | (_, m) :: _ => some m) ∧ gn_ch kd wi mo nx z r b e
/-- items as one tree -/
def gt_seqs : List gt_T → gt_T
  | [] => gt_pt
  | [t] => t
  | t :: u :: r => gt_seq t (gt_seqs (u :: r))
def gt_chs : List gt_T → gt_T
  | [] => gt_pt
  | [t] => t
  | t :: u :: r => gt_ch t (gt_chs (u :: r))
theorem gn_ch_le {z : Option Nat} : ∀ (l : List (gt_T × Nat)) (a e : Nat), gn_ch kd wi mo nx z l a e → a ≤ e ∧ ∀ p, p ∈ l → a ≤ p.2 ∧ p.2 < e
  | [], a, e, h => ⟨Nat.le_of_eq h, (fun p hp => by cases hp)⟩
  | (t, n) :: r, a, e, h => by
    obtain ⟨b, h1, _, h2⟩ := h
    have h3 := gn_iv_in _ _ _ _ _ h1
    obtain ⟨h4, h5⟩ := gn_ch_le r b e h2
    refine ⟨by omega, fun p hp => ?_⟩
    rcases List.mem_cons.mp hp with rfl | hp
    · exact ⟨h3.1, by show n < e; omega⟩
    · have := h5 p hp
      omega
theorem gn_ch_eq {z z' : Option Nat} : ∀ (l : List (gt_T × Nat)) (a e : Nat), gn_ch kd wi mo nx z l a e → (∀ j, a ≤ j → j < e → kd' j = kd j ∧ wi' j = wi j ∧ mo' j = mo j) → (∀ j, a ≤ j → j < e → (∀ p, l.getLast? = some p → j ≠ p.2) → nx' j = nx j) → (∀ p, l.getLast? = some p → nx' p.2 = z') → gn_ch kd' wi' mo' nx' z' l a e
  | [], a, e, h, _, _, _ => h
  | [(t, n)], a, e, h, h1, h2, h3 => by
    obtain ⟨b, g1, g2, g3⟩ := h
    have g3 : b = e := g3
    subst g3
    have gi := gn_iv_in _ _ _ _ _ g1
    refine ⟨b, gn_iv_eq _ _ _ _ _ g1 h1 (fun j j1 j2 hj => h2 j j1 j2 (fun p hp => ?_)), h3 (t, n) rfl, rfl⟩
    have e : p = (t, n) := by simpa using hp.symm
    rw [e]
    rcases hj with hj | hj
    · cases hj
    · exact hj
  | (t, n) :: (u, m) :: r, a, e, h, h1, h2, h3 => by
    obtain ⟨b, g1, g2, g3⟩ := h
    have gi := gn_iv_in _ _ _ _ _ g1
    obtain ⟨g4, g5⟩ := gn_ch_le _ _ _ g3
    have hl : ∀ p, ((u, m) :: r).getLast? = some p → b ≤ p.2 := fun p hp => (g5 p (List.mem_of_getLast? hp)).1
    refine ⟨b, gn_iv_eq _ _ _ _ _ g1 (fun j j1 j2 => h1 j j1 (by omega)) (fun j j1 j2 _ => h2 j j1 (by omega) (fun p hp => ?_)), ?_, ?_⟩
    · have := hl p (by simpa using hp)
      omega
    · have e1 : nx' n = nx n := h2 n gi.1 (by omega) (fun p hp => by
        have := hl p (by simpa using hp)
        omega)
      rw [e1]
      exact g2
    · exact gn_ch_eq ((u, m) :: r) b e g3 (fun j j1 j2 => h1 j (by omega) j2) (fun j j1 j2 hj => h2 j (by omega) j2 (fun p hp => hj p (by simpa using hp))) (fun p hp => h3 p (by simpa using hp))
theorem gn_ch_app {z : Option Nat} {t : gt_T} {n : Nat} : ∀ (l : List (gt_T × Nat)) (a e e' : Nat), gn_ch kd wi mo nx (some n) l a e → gn_iv kd wi mo nx t false e e' n → nx n = z → gn_ch kd wi mo nx z (l ++ [(t, n)]) a e'
  | [], a, e, e', h, h1, h2 => by
    have h : a = e := h
    subst h
    exact ⟨e', h1, h2, rfl⟩
  | (u, m) :: r, a, e, e', h, h1, h2 => by
    obtain ⟨b, g1, g2, g3⟩ := h
    refine ⟨b, g1, ?_, gn_ch_app r b e e' g3 h1 h2⟩
    cases r with
    | nil => exact g2
    | cons p r => exact g2
/-- items make a list -/
theorem gn_ch_seqs : ∀ (l : List (gt_T × Nat)) (a e : Nat), l ≠ [] → (∀ p, p ∈ l → gt_isl 9 p.1 = false ∧ gt_isl 10 p.1 = false) → gn_ch kd wi mo nx none l a e → ∃ n, (l.map Prod.snd).head? = some n ∧ gn_iv kd wi mo nx (gt_seqs (l.map Prod.fst)) true a e n ∧ gt_isl 10 (gt_seqs (l.map Prod.fst)) = false
  | [], a, e, h0, _, _ => absurd rfl h0
  | [(t, n)], a, e, _, hl, h => by
    obtain ⟨b, g1, g2, g3⟩ := h
    have g3 : b = e := g3
    subst g3
    obtain ⟨h9, h10⟩ := hl (t, n) List.mem_cons_self
    refine ⟨n, rfl, ?_, h10⟩
    show gn_iv kd wi mo nx t true a b n
    cases t with
    | sepBy x s y b' => cases h9
    | sepBy1 x s y b' => cases h10
    | cat l hi => exact ⟨g1.1, g1.2.1, fun _ => g2, g1.2.2.2⟩
    | parser r => exact ⟨g1.1, g1.2.1, fun _ => g2, g1.2.2.2⟩
    | const r => exact ⟨g1.1, g1.2.1, fun _ => g2, g1.2.2.2⟩
    | unary m t => exact ⟨g1.1, fun _ => g2, g1.2.2⟩
    | node m k t => exact ⟨g1.1, fun _ => g2, g1.2.2⟩
    | trailingNode m k l t => exact ⟨g1.1, fun _ => g2, g1.2.2⟩
    | nodeWithAntiquot s k t => exact ⟨g1.1, fun _ => g2, g1.2.2⟩
    | _ => exact False.elim g1
  | (t, n) :: (u, m) :: r, a, e, _, hl, h => by
    obtain ⟨b, g1, g2, g3⟩ := h
    obtain ⟨m', q1, q2, q3⟩ := gn_ch_seqs ((u, m) :: r) b e (by simp) (fun p hp => hl p (List.mem_cons_of_mem _ hp)) g3
    have em : m' = m := by simpa using q1.symm
    subst em
    exact ⟨n, rfl, ⟨rfl, b, m', g1, q3, g2, q2⟩, rfl⟩
theorem gn_ch_chs : ∀ (l : List (gt_T × Nat)) (a e : Nat), l ≠ [] → (∀ p, p ∈ l → gt_isl 9 p.1 = false ∧ gt_isl 10 p.1 = false) → gn_ch kd wi mo nx none l a e → ∃ n, (l.map Prod.snd).head? = some n ∧ gn_iv kd wi mo nx (gt_chs (l.map Prod.fst)) true a e n ∧ gt_isl 9 (gt_chs (l.map Prod.fst)) = false
  | [], a, e, h0, _, _ => absurd rfl h0
  | [(t, n)], a, e, _, hl, h => by
    obtain ⟨b, g1, g2, g3⟩ := h
    have g3 : b = e := g3
    subst g3
    obtain ⟨h9, h10⟩ := hl (t, n) List.mem_cons_self
    refine ⟨n, rfl, ?_, h9⟩
    show gn_iv kd wi mo nx t true a b n
    cases t with
    | sepBy x s y b' => cases h9
    | sepBy1 x s y b' => cases h10
    | cat l hi => exact ⟨g1.1, g1.2.1, fun _ => g2, g1.2.2.2⟩
    | parser r => exact ⟨g1.1, g1.2.1, fun _ => g2, g1.2.2.2⟩
    | const r => exact ⟨g1.1, g1.2.1, fun _ => g2, g1.2.2.2⟩
    | unary m t => exact ⟨g1.1, fun _ => g2, g1.2.2⟩
    | node m k t => exact ⟨g1.1, fun _ => g2, g1.2.2⟩
    | trailingNode m k l t => exact ⟨g1.1, fun _ => g2, g1.2.2⟩
    | nodeWithAntiquot s k t => exact ⟨g1.1, fun _ => g2, g1.2.2⟩
    | _ => exact False.elim g1
  | (t, n) :: (u, m) :: r, a, e, _, hl, h => by
    obtain ⟨b, g1, g2, g3⟩ := h
    obtain ⟨m', q1, q2, q3⟩ := gn_ch_chs ((u, m) :: r) b e (by simp) (fun p hp => hl p (List.mem_cons_of_mem _ hp)) g3
    have em : m' = m := by simpa using q1.symm
    subst em
    exact ⟨n, rfl, ⟨rfl, b, m', g1, q3, g2, q2⟩, rfl⟩
end GIV
