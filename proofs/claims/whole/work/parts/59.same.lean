/-! A node's tree may be written in more than one way: its matches are the same. -/
section GSAM3
variable {D : Nat → Prop} {kd wi mo : Nat → Nat} {nx : Nat → Option Nat} {L : Nat} {x : Nat → Nat} {e : Nat → Nat → Option Nat}
theorem gn_key {t : gt_T} {n : Nat} (ht : gn_tr D kd wi mo nx t false n) : (∃ l hi, t = .cat l hi ∧ wi n = gt_nm l ∧ (mo n = hi ∨ (hi = 255 ∧ mo n = 127))) ∨ (∃ r, t = .parser r ∧ wi n = gt_nm r) ∨ (∃ r, t = .const r) ∨ (∃ m a, t = .unary m a ∧ gn_tr D kd wi mo nx a false (wi n)) ∨ (∃ m k a, t = .node m k a ∧ k < 3 ∧ gn_tr D kd wi mo nx a false (wi n)) ∨ (∃ m k l a, t = .trailingNode m k l a ∧ gn_tr D kd wi mo nx a false (wi n)) ∨ ∃ s k a, t = .nodeWithAntiquot s k a ∧ gn_tr D kd wi mo nx a true (wi n) ∧ (gt_nm k = 9 ∧ gt_isl 10 a = false ∨ gt_nm k = 10 ∧ gt_isl 9 a = false) := by
  cases t with
  | cat l hi => exact .inl ⟨l, hi, rfl, ht.2.2.2.1, ht.2.2.2.2.1⟩
  | parser r => exact .inr (.inl ⟨r, rfl, ht.2.2.2⟩)
  | const r => exact .inr (.inr (.inl ⟨r, rfl⟩))
  | unary m a => exact .inr (.inr (.inr (.inl ⟨m, a, rfl, ht.2.2.2⟩)))
  | node m k a => exact .inr (.inr (.inr (.inr (.inl ⟨m, k, a, rfl, ht.2.2.1, ht.2.2.2.2⟩))))
  | trailingNode m k l a => exact .inr (.inr (.inr (.inr (.inr (.inl ⟨m, k, l, a, rfl, ht.2.2.2⟩)))))
  | nodeWithAntiquot s k a => exact .inr (.inr (.inr (.inr (.inr (.inr ⟨s, k, a, rfl, ht.2.2.2.1, ht.2.2.2.2⟩)))))
  | sepBy a s c b => cases ht.1
  | sepBy1 a s c b => cases ht.1
  | _ => exact False.elim ht
/-- two ways of writing: alike in where they end and what they meet -/
def gn_al (L : Nat) (x : Nat → Nat) (e : Nat → Nat → Option Nat) (t t' : gt_T) : Prop := ∀ p, gt_en L x e t p = gt_en L x e t' p ∧ gt_ev L x e t p = gt_ev L x e t' p
theorem gn_ends {t : gt_T} {n : Nat} (h9 : gt_isl 9 t = false) (h10 : gt_isl 10 t = false) : (∀ p, gn_ssub L x e nx t n p = [(n, p)]) ∧ ∀ p, gn_csub L x e nx t n p = [(n, p)] := by
  cases t with
  | sepBy a s c b => cases h9
  | sepBy1 a s c b => cases h10
  | _ => exact ⟨fun _ => rfl, fun _ => rfl⟩
theorem gn_nolist {t : gt_T} {n : Nat} (ht : gn_tr D kd wi mo nx t true n) (hx : nx n = none) : gt_isl 9 t = false ∧ gt_isl 10 t = false := by
  cases t with
  | sepBy a s c b =>
    obtain ⟨_, _, _, m, h3, _⟩ := ht
    rw [hx] at h3
    cases h3
  | sepBy1 a s c b =>
    obtain ⟨_, _, _, m, h3, _⟩ := ht
    rw [hx] at h3
    cases h3
  | _ => exact ⟨rfl, rfl⟩
theorem gn_isseq {t : gt_T} {n m : Nat} (ht : gn_tr D kd wi mo nx t true n) (hx : nx n = some m) : (gt_isl 10 t = false → ∃ a s c b, t = .sepBy a s c b) ∧ (gt_isl 9 t = false → ∃ a s c b, t = .sepBy1 a s c b) := by
  cases t with
  | sepBy a s c b => exact ⟨fun _ => ⟨a, s, c, b, rfl⟩, (fun h => by cases h)⟩
  | sepBy1 a s c b => exact ⟨(fun h => by cases h), fun _ => ⟨a, s, c, b, rfl⟩⟩
  | _ => rw [(gn_tr_list ht rfl rfl).2] at hx; cases hx
theorem gn_rep (hx : ∀ p, p < L → x p ≤ 126) (t : gt_T) :
    (∀ t' n, gn_tr D kd wi mo nx t false n → gn_tr D kd wi mo nx t' false n → gn_al L x e t t') ∧
    (∀ t' n, gn_tr D kd wi mo nx t true n → gn_tr D kd wi mo nx t' true n → gt_isl 10 t = false → gt_isl 10 t' = false → gn_al L x e t t' ∧ ∀ p, gn_ssub L x e nx t n p = gn_ssub L x e nx t' n p) ∧
    (∀ t' n, gn_tr D kd wi mo nx t true n → gn_tr D kd wi mo nx t' true n → gt_isl 9 t = false → gt_isl 9 t' = false → gn_al L x e t t' ∧ ∀ p, gn_csub L x e nx t n p = gn_csub L x e nx t' n p) := by
  have lst : ∀ {t : gt_T}, (∀ t' n, gn_tr D kd wi mo nx t false n → gn_tr D kd wi mo nx t' false n → gn_al L x e t t') → gt_isl 9 t = false → gt_isl 10 t = false →
      (∀ t' n, gn_tr D kd wi mo nx t true n → gn_tr D kd wi mo nx t' true n → gt_isl 10 t = false → gt_isl 10 t' = false → gn_al L x e t t' ∧ ∀ p, gn_ssub L x e nx t n p = gn_ssub L x e nx t' n p) ∧
      (∀ t' n, gn_tr D kd wi mo nx t true n → gn_tr D kd wi mo nx t' true n → gt_isl 9 t = false → gt_isl 9 t' = false → gn_al L x e t t' ∧ ∀ p, gn_csub L x e nx t n p = gn_csub L x e nx t' n p) := fun h h9 h10 => ⟨fun t' n ht ht' _ _ => by
        obtain ⟨g1, g2⟩ := gn_tr_list ht h9 h10
        obtain ⟨k1, k2⟩ := gn_nolist ht' g2
        exact ⟨h t' n g1 (gn_tr_list ht' k1 k2).1, fun p => by rw [(gn_ends h9 h10).1, (gn_ends k1 k2).1]⟩, fun t' n ht ht' _ _ => by
        obtain ⟨g1, g2⟩ := gn_tr_list ht h9 h10
        obtain ⟨k1, k2⟩ := gn_nolist ht' g2
        exact ⟨h t' n g1 (gn_tr_list ht' k1 k2).1, fun p => by rw [(gn_ends h9 h10).2, (gn_ends k1 k2).2]⟩⟩
  induction t with
  | cat l hi =>
    refine ⟨?c1, lst ?c1 rfl rfl⟩
    intro t' n ht ht' p
    have hk := (gn_tr_kd ht).symm.trans (gn_tr_kd ht')
    rcases gn_key ht' with ⟨l', hi', rfl, hw', hmo'⟩ | ⟨r', rfl, hw'⟩ | ⟨r', rfl⟩ | ⟨m', a', rfl, _⟩ | ⟨m', k', a', rfl, k3', _⟩ | ⟨m', k', l', a', rfl, _⟩ | ⟨s', k', a', rfl, hta', hl'⟩ <;> simp only [gt_kd] at hk <;> first
      | (exfalso; omega)
      | (exfalso; split at hk <;> omega)
      | skip
    obtain ⟨_, _, _, hw, hmo, _⟩ := ht
    have e2 : (p < L ∧ gt_nm l ≤ x p ∧ x p ≤ hi) ↔ (p < L ∧ gt_nm l' ≤ x p ∧ x p ≤ hi') := by
      constructor
      · rintro ⟨h1, h2, h3⟩
        have := hx p h1
        exact ⟨h1, by omega, by omega⟩
      · rintro ⟨h1, h2, h3⟩
        have := hx p h1
        exact ⟨h1, by omega, by omega⟩
    exact ⟨by simp only [gt_en, e2], by simp only [gt_ev, e2]⟩
  | parser r =>
    refine ⟨?c2, lst ?c2 rfl rfl⟩
    intro t' n ht ht' p
    have hk := (gn_tr_kd ht).symm.trans (gn_tr_kd ht')
    rcases gn_key ht' with ⟨l', hi', rfl, hw', hmo'⟩ | ⟨r', rfl, hw'⟩ | ⟨r', rfl⟩ | ⟨m', a', rfl, _⟩ | ⟨m', k', a', rfl, k3', _⟩ | ⟨m', k', l', a', rfl, _⟩ | ⟨s', k', a', rfl, hta', hl'⟩ <;> simp only [gt_kd] at hk <;> first
      | (exfalso; omega)
      | (exfalso; split at hk <;> omega)
      | skip
    have hw := ht.2.2.2
    rw [hw] at hw'
    exact ⟨by simp only [gt_en, hw'], by simp only [gt_ev, hw']⟩
  | const r =>
    refine ⟨?c3, lst ?c3 rfl rfl⟩
    intro t' n ht ht' p
    have hk := (gn_tr_kd ht).symm.trans (gn_tr_kd ht')
    rcases gn_key ht' with ⟨l', hi', rfl, hw', hmo'⟩ | ⟨r', rfl, hw'⟩ | ⟨r', rfl⟩ | ⟨m', a', rfl, _⟩ | ⟨m', k', a', rfl, k3', _⟩ | ⟨m', k', l', a', rfl, _⟩ | ⟨s', k', a', rfl, hta', hl'⟩ <;> simp only [gt_kd] at hk <;> first
      | (exfalso; omega)
      | (exfalso; split at hk <;> omega)
      | skip
    exact ⟨rfl, rfl⟩
  | unary m a ih =>
    refine ⟨?c4, lst ?c4 rfl rfl⟩
    intro t' n ht ht' p
    have hk := (gn_tr_kd ht).symm.trans (gn_tr_kd ht')
    rcases gn_key ht' with ⟨l', hi', rfl, hw', hmo'⟩ | ⟨r', rfl, hw'⟩ | ⟨r', rfl⟩ | ⟨m', a', rfl, ha'⟩ | ⟨m', k', a', rfl, k3', _⟩ | ⟨m', k', l', a', rfl, _⟩ | ⟨s', k', a', rfl, hta', hl'⟩ <;> simp only [gt_kd] at hk <;> first
      | (exfalso; omega)
      | (exfalso; split at hk <;> omega)
      | skip
    exact ih.1 a' _ ht.2.2.2 ha' p
  | node m k a ih =>
    refine ⟨?c5, lst ?c5 rfl rfl⟩
    intro t' n ht ht' p
    have hk := (gn_tr_kd ht).symm.trans (gn_tr_kd ht')
    rcases gn_key ht' with ⟨l', hi', rfl, hw', hmo'⟩ | ⟨r', rfl, hw'⟩ | ⟨r', rfl⟩ | ⟨m', a', rfl, ha'⟩ | ⟨m', k', a', rfl, k3', ha'⟩ | ⟨m', k', l', a', rfl, _⟩ | ⟨s', k', a', rfl, hta', hl'⟩ <;> simp only [gt_kd] at hk <;> first
      | (exfalso; omega)
      | (exfalso; have := ht.2.2.1; omega)
      | (exfalso; have := ht.2.2.1; split at hk <;> omega)
      | skip
    have ek : k = k' := by omega
    subst ek
    have h1 := ih.1 a' _ ht.2.2.2.2 ha'
    have e1 : gt_en L x e a = gt_en L x e a' := funext fun p => (h1 p).1
    have e2 : gt_ev L x e a = gt_ev L x e a' := funext fun p => (h1 p).2
    exact ⟨by simp only [gt_en, e1], by simp only [gt_ev, e1, e2]⟩
  | trailingNode m k l a ih =>
    refine ⟨?c6, lst ?c6 rfl rfl⟩
    intro t' n ht ht' p
    have hk := (gn_tr_kd ht).symm.trans (gn_tr_kd ht')
    rcases gn_key ht' with ⟨l', hi', rfl, hw', hmo'⟩ | ⟨r', rfl, hw'⟩ | ⟨r', rfl⟩ | ⟨m', a', rfl, ha'⟩ | ⟨m', k', a', rfl, k3', ha'⟩ | ⟨m', k', l', a', rfl, ha'⟩ | ⟨s', k', a', rfl, hta', hl'⟩ <;> simp only [gt_kd] at hk <;> first
      | (exfalso; omega)
      | (exfalso; split at hk <;> omega)
      | skip
    have ek : (k == 1) = (k' == 1) := by
      by_cases h1 : k = 1
      · by_cases h2 : k' = 1
        · rw [h1, h2]
        · rw [if_pos h1, if_neg h2] at hk; omega
      · by_cases h2 : k' = 1
        · rw [if_neg h1, if_pos h2] at hk; omega
        · rw [beq_false_of_ne h1, beq_false_of_ne h2]
    have h1 := ih.1 a' _ ht.2.2.2 ha' p
    exact ⟨by simp only [gt_en, h1.1, ek], h1.2⟩
  | nodeWithAntiquot s k a ih =>
    refine ⟨?c7, lst ?c7 rfl rfl⟩
    intro t' n ht ht' p
    have hk := (gn_tr_kd ht).symm.trans (gn_tr_kd ht')
    obtain ⟨_, _, _, hta, hl⟩ := ht
    rcases gn_key ht' with ⟨l', hi', rfl, hw', hmo'⟩ | ⟨r', rfl, hw'⟩ | ⟨r', rfl⟩ | ⟨m', a', rfl, ha'⟩ | ⟨m', k', a', rfl, k3', ha'⟩ | ⟨m', k', l', a', rfl, ha'⟩ | ⟨s', k', a', rfl, hta', hl'⟩ <;> simp only [gt_kd] at hk <;> first
      | (exfalso; omega)
      | (exfalso; split at hk <;> omega)
      | skip
    rcases hl with ⟨h9, hl⟩ | ⟨h9, hl⟩
    · rcases hl' with ⟨h9', hl'⟩ | ⟨h9', hl'⟩
      · exact (ih.2.1 a' _ hta hta' hl hl').1 p
      · omega
    · rcases hl' with ⟨h9', hl'⟩ | ⟨h9', hl'⟩
      · omega
      · exact (ih.2.2 a' _ hta hta' hl hl').1 p
  | sepBy a s c b iha ihc =>
    refine ⟨(fun t' n ht => by cases ht.1), fun t' n ht ht' _ h10' => ?_, (fun t' n _ _ h => by cases h)⟩
    obtain ⟨_, h1, h2, m, h3, h4⟩ := ht
    obtain ⟨a', s', c', b', rfl⟩ := (gn_isseq ht' h3).1 h10'
    obtain ⟨_, g1, g2, m', g3, g4⟩ := ht'
    rw [h3] at g3
    cases g3
    have e1 := iha.1 a' n h1 g1
    obtain ⟨e2, e3⟩ := ihc.2.1 c' m h4 g4 h2 g2
    have f1 : gt_en L x e c = gt_en L x e c' := funext fun p => (e2 p).1
    have f2 : gt_ev L x e c = gt_ev L x e c' := funext fun p => (e2 p).2
    refine ⟨fun p => ⟨?_, ?_⟩, fun p => ?_⟩
    · simp only [gt_en, (e1 p).1, f1]
    · simp only [gt_ev, (e1 p).1, (e1 p).2, f2]
    · simp only [gn_ssub, (e1 p).1, h3, e3]
  | sepBy1 a s c b iha ihc =>
    refine ⟨(fun t' n ht => by cases ht.1), (fun t' n _ _ h => by cases h), fun t' n ht ht' _ h10' => ?_⟩
    obtain ⟨_, h1, h2, m, h3, h4⟩ := ht
    obtain ⟨a', s', c', b', rfl⟩ := (gn_isseq ht' h3).2 h10'
    obtain ⟨_, g1, g2, m', g3, g4⟩ := ht'
    rw [h3] at g3
    cases g3
    have e1 := iha.1 a' n h1 g1
    obtain ⟨e2, e3⟩ := ihc.2.2 c' m h4 g4 h2 g2
    refine ⟨fun p => ⟨?_, ?_⟩, fun p => ?_⟩
    · simp only [gt_en, (e1 p).1, (e2 p).1]
    · simp only [gt_ev, (e1 p).1, (e1 p).2, (e2 p).2]
    · simp only [gn_csub, (e1 p).1, h3, e3]
  | _ => exact ⟨fun t' n ht => False.elim ht, fun t' n ht => False.elim ht, fun t' n ht => False.elim ht⟩
/-- what is to be done at a cell doesn't hang on the way of writing -/
theorem gn_done_same (hx : ∀ p, p < L → x p ≤ 126) {lk pr : Nat → Nat → Prop} {f : Nat} {t t' : gt_T} {n p : Nat} (ht : gn_tr D kd wi mo nx t false n) (ht' : gn_tr D kd wi mo nx t' false n) (h : gn_done L x e wi nx lk pr f t n p) : gn_done L x e wi nx lk pr f t' n p := by
  have hal := (gn_rep (e := e) hx t).1 t' n ht ht'
  have hk := (gn_tr_kd ht).symm.trans (gn_tr_kd ht')
  obtain ⟨d1, d2, d3⟩ := h
  have hen := (hal p).1
  rcases gn_key ht with ⟨l, hi, rfl, hw, hmo⟩ | ⟨r, rfl, hw⟩ | ⟨r, rfl⟩ | ⟨m, a, rfl, ha⟩ | ⟨m, k, a, rfl, k3, ha⟩ | ⟨m, k, l, a, rfl, ha⟩ | ⟨s, k, a, rfl, hta, hl⟩ <;>
  rcases gn_key ht' with ⟨l', hi', rfl, hw', hmo'⟩ | ⟨r', rfl, hw'⟩ | ⟨r', rfl⟩ | ⟨m', a', rfl, ha'⟩ | ⟨m', k', a', rfl, k3', ha'⟩ | ⟨m', k', l', a', rfl, ha'⟩ | ⟨s', k', a', rfl, hta', hl'⟩ <;>
  simp only [gt_kd] at hk <;> first
    | (exfalso; omega)
    | (exfalso; split at hk <;> omega)
    | skip
  · exact ⟨(fun m q hm => by cases hm), (fun r h => by cases h), fun l2 hi2 h he => d3 l hi rfl (by rw [hen]; exact he)⟩
  · have er : gt_nm r = gt_nm r' := by omega
    refine ⟨fun m q hm => d1 m q (by simp only [gn_sub, er]; exact hm), fun r2 h => ?_, (fun _ _ h => by cases h)⟩
    cases h
    rw [← er]
    exact d2 r rfl
  · exact ⟨(fun m q hm => by cases hm), (fun r h => by cases h), (fun _ _ h => by cases h)⟩
  · exact ⟨d1, (fun r h => by cases h), (fun _ _ h => by cases h)⟩
  · have ek : k = k' := by omega
    subst ek
    have h1 := (gn_rep (e := e) hx a).1 a' _ ha ha'
    have e1 : gt_en L x e a = gt_en L x e a' := funext fun p => (h1 p).1
    refine ⟨fun m q hm => d1 m q (by simp only [gn_sub, e1]; exact hm), (fun r h => by cases h), (fun _ _ h => by cases h)⟩
  · exact ⟨d1, (fun r h => by cases h), (fun _ _ h => by cases h)⟩
  · refine ⟨fun m q hm => d1 m q ?_, (fun r h => by cases h), (fun _ _ h => by cases h)⟩
    simp only [gn_sub] at hm ⊢
    rcases hl with ⟨h9, hl⟩ | ⟨h9, hl⟩
    · rcases hl' with ⟨h9', hl'⟩ | ⟨h9', hl'⟩
      · rw [if_pos h9]
        rw [if_pos h9'] at hm
        rw [((gn_rep (e := e) hx a).2.1 a' _ hta hta' hl hl').2]
        exact hm
      · omega
    · rcases hl' with ⟨h9', hl'⟩ | ⟨h9', hl'⟩
      · omega
      · rw [if_neg (by omega)]
        rw [if_neg (by omega)] at hm
        rw [((gn_rep (e := e) hx a).2.2 a' _ hta hta' hl hl').2]
        exact hm
end GSAM3
