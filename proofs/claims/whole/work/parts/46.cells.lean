/-! The model's cells (node, place): all ends are found; what is looked at; what is captured. -/
section GO
variable {L : Nat} {x : Nat → Nat} {Em : Nat → Bool} {A : Nat → Prop} {D : Nat → Prop} {kd wi mo : Nat → Nat} {nx : Nat → Option Nat} {dfn : Nat → Bool} {tab : Nat → Nat → Option (Option Nat)} {R : Nat → Option gt_T} {o : Nat → Nat}
theorem gn_nd_rule (hg : gt_good R Em A o) {r : Nat} (hA : A r) {t : gt_T} (ht : R r = some t) : gn_nd Em A t := by
  obtain ⟨_, t', ht', _, h2, _, h4⟩ := hg r hA
  rw [ht] at ht'
  cases ht'
  exact ⟨h2, h4⟩
theorem gn_root (hg : gt_good R Em A o) (hL : L ≤ 9) (hrt : ∀ r t, A r → R r = some t → gn_tr D kd wi mo nx t false (40 * r)) (hs : gn_snd L x (gt_Ed L x R) Em A D kd wi mo nx tab) : ∀ r p v, A r → p ≤ L → tab (40 * r) p = some v → v = gt_Ed L x R r p := fun r p v hA hp h => by
  obtain ⟨_, t, ht, _⟩ := hg r hA
  rw [gt_Ed_fix hg hL hA hp ht]
  exact hs t (40 * r) p v (hrt r t hA ht) (gn_nd_rule hg hA ht) hp h
/-- all ends of good rules are found -/
theorem gn_all (hg : gt_good R Em A o) (hL : L ≤ 9) (hrt : ∀ r t, A r → R r = some t → gn_tr D kd wi mo nx t false (40 * r)) (hs : gn_snd L x (gt_Ed L x R) Em A D kd wi mo nx tab) (hd : ∀ r, A r → dfn r = true) (hfix : gn_fix L x dfn D kd wi mo nx tab) : ∀ (k r p : Nat), A r → p ≤ L → 4 * (L - p) + o r < k → tab (40 * r) p ≠ none
  | 0, r, p, _, _, hk => absurd hk (Nat.not_lt_zero _)
  | k + 1, r, p, hA, hp, hk => by
    obtain ⟨_, t, ht, h1, h2, h3, _⟩ := hg r hA
    refine (gn_cmp hs (gt_Ed_ok hg) hL hd hfix t).1 (40 * r) p (hrt r t hA ht) (gn_nd_rule hg hA ht) hp (fun d hd' => ?_)
    have h4 := gt_ev_in (gt_Ed_ok hg) t h2 p hp d.1 d.2 hd'
    have hA' := h2 d.1 h4.1
    refine gn_all hg hL hrt hs hd hfix k d.1 d.2 hA' h4.2.2.1 ?_
    by_cases hpp : d.2 = p
    · have := h3 d.1 (h4.2.2.2 hpp)
      omega
    · have := (hg d.1 hA').1
      omega
/-- the end of each node of good rules is the right one -/
theorem gn_right (hg : gt_good R Em A o) (hL : L ≤ 9) (hrt : ∀ r t, A r → R r = some t → gn_tr D kd wi mo nx t false (40 * r)) (hs : gn_snd L x (gt_Ed L x R) Em A D kd wi mo nx tab) (hd : ∀ r, A r → dfn r = true) (hfix : gn_fix L x dfn D kd wi mo nx tab) {t : gt_T} {n p : Nat} (ht : gn_tr D kd wi mo nx t false n) (hn : gn_nd Em A t) (hp : p ≤ L) : tab n p = some (gt_en L x (gt_Ed L x R) t p) := by
  have h0 : tab n p ≠ none := (gn_cmp hs (gt_Ed_ok hg) hL hd hfix t).1 n p ht hn hp (fun d hd' => by
    have h4 := gt_ev_in (gt_Ed_ok hg) t hn.1 p hp d.1 d.2 hd'
    have hA' := hn.1 d.1 h4.1
    exact gn_all hg hL hrt hs hd hfix _ d.1 d.2 hA' h4.2.2.1 (Nat.lt_succ_self _))
  cases h1 : tab n p with
  | none => exact absurd h1 h0
  | some v => rw [hs t n p v ht hn hp h1]
/-- the cells that are looked at from one -/
def gn_ssub (L : Nat) (x : Nat → Nat) (e : Nat → Nat → Option Nat) (nx : Nat → Option Nat) : gt_T → Nat → Nat → List (Nat × Nat)
  | .sepBy a _ c _, n, p => (n, p) :: (match gt_en L x e a p with
    | none => []
    | some q => match nx n with
      | none => []
      | some m => gn_ssub L x e nx c m q)
  | _, n, p => [(n, p)]
def gn_csub (L : Nat) (x : Nat → Nat) (e : Nat → Nat → Option Nat) (nx : Nat → Option Nat) : gt_T → Nat → Nat → List (Nat × Nat)
  | .sepBy1 a _ c _, n, p => (n, p) :: (match gt_en L x e a p with
    | some _ => []
    | none => match nx n with
      | none => []
      | some m => gn_csub L x e nx c m p)
  | _, n, p => [(n, p)]
def gn_sub (L : Nat) (x : Nat → Nat) (e : Nat → Nat → Option Nat) (wi : Nat → Nat) (nx : Nat → Option Nat) : gt_T → Nat → Nat → List (Nat × Nat)
  | .parser r, _, p => [(40 * gt_nm r, p)]
  | .unary _ _, n, p => [(wi n, p)]
  | .trailingNode _ _ _ _, n, p => [(wi n, p)]
  | .node _ k a, n, p => (gt_tp (gt_en L x e a) (gt_most k) p).map (fun q => (wi n, q))
  | .nodeWithAntiquot _ k a, n, p => if gt_nm k = 9 then gn_ssub L x e nx a (wi n) p else gn_csub L x e nx a (wi n) p
  | _, _, _ => []
/-- all that is to be done at a cell is done -/
def gn_done (L : Nat) (x : Nat → Nat) (e : Nat → Nat → Option Nat) (wi : Nat → Nat) (nx : Nat → Option Nat) (lk pr : Nat → Nat → Prop) (f : Nat) (t : gt_T) (n p : Nat) : Prop :=
  (∀ m q, (m, q) ∈ gn_sub L x e wi nx t n p → lk m q) ∧ (∀ r, t = .parser r → pr (gt_nm r) p) ∧ (∀ l hi, t = .cat l hi → gt_en L x e t p = none → p < f)
theorem gn_closed {e : Nat → Nat → Option Nat} (he : gt_okE L Em A e) {lk pr : Nat → Nat → Prop} {f : Nat} (h : ∀ t n p, gn_tr D kd wi mo nx t false n → gn_nd Em A t → p ≤ L → lk n p → gn_done L x e wi nx lk pr f t n p) (t : gt_T) :
    (∀ n p, gn_tr D kd wi mo nx t false n → gn_nd Em A t → p ≤ L → lk n p → (∀ q, .inl q ∈ gt_ev L x e t p → q < f) ∧ (∀ d, .inr d ∈ gt_ev L x e t p → pr d.1 d.2)) ∧
    (∀ n p, gn_tr D kd wi mo nx t true n → gt_isl 10 t = false → gn_nd Em A t → p ≤ L → (∀ m q, (m, q) ∈ gn_ssub L x e nx t n p → lk m q) → (∀ q, .inl q ∈ gt_ev L x e t p → q < f) ∧ (∀ d, .inr d ∈ gt_ev L x e t p → pr d.1 d.2)) ∧
    (∀ n p, gn_tr D kd wi mo nx t true n → gt_isl 9 t = false → gn_nd Em A t → p ≤ L → (∀ m q, (m, q) ∈ gn_csub L x e nx t n p → lk m q) → (∀ q, .inl q ∈ gt_ev L x e t p → q < f) ∧ (∀ d, .inr d ∈ gt_ev L x e t p → pr d.1 d.2)) := by
  have lst : ∀ {t : gt_T}, (∀ n p, gn_tr D kd wi mo nx t false n → gn_nd Em A t → p ≤ L → lk n p → (∀ q, .inl q ∈ gt_ev L x e t p → q < f) ∧ (∀ d, .inr d ∈ gt_ev L x e t p → pr d.1 d.2)) → gt_isl 9 t = false → gt_isl 10 t = false →
      (∀ n p, gn_ssub L x e nx t n p = [(n, p)]) → (∀ n p, gn_csub L x e nx t n p = [(n, p)]) →
      (∀ n p, gn_tr D kd wi mo nx t true n → gt_isl 10 t = false → gn_nd Em A t → p ≤ L → (∀ m q, (m, q) ∈ gn_ssub L x e nx t n p → lk m q) → (∀ q, .inl q ∈ gt_ev L x e t p → q < f) ∧ (∀ d, .inr d ∈ gt_ev L x e t p → pr d.1 d.2)) ∧
      (∀ n p, gn_tr D kd wi mo nx t true n → gt_isl 9 t = false → gn_nd Em A t → p ≤ L → (∀ m q, (m, q) ∈ gn_csub L x e nx t n p → lk m q) → (∀ q, .inl q ∈ gt_ev L x e t p → q < f) ∧ (∀ d, .inr d ∈ gt_ev L x e t p → pr d.1 d.2)) :=
    fun h h9 h10 hs hc => ⟨fun n p ht _ hn hp hl => h n p (gn_tr_list ht h9 h10).1 hn hp (hl n p (by rw [hs]; exact List.mem_cons_self)), fun n p ht _ hn hp hl => h n p (gn_tr_list ht h9 h10).1 hn hp (hl n p (by rw [hc]; exact List.mem_cons_self))⟩
  induction t with
  | cat l hi =>
    have g : ∀ n p, gn_tr D kd wi mo nx (.cat l hi) false n → gn_nd Em A (.cat l hi) → p ≤ L → lk n p → (∀ q, .inl q ∈ gt_ev L x e (.cat l hi) p → q < f) ∧ (∀ d, .inr d ∈ gt_ev L x e (.cat l hi) p → pr d.1 d.2) := fun n p ht hn hp hl => by
      have h1 := (h _ n p ht hn hp hl).2.2 l hi rfl
      by_cases hc : p < L ∧ gt_nm l ≤ x p ∧ x p ≤ hi
      · exact ⟨fun q hq => by simp [gt_ev, hc] at hq, fun d hd => by simp [gt_ev, hc] at hd⟩
      · have e1 : gt_ev L x e (.cat l hi) p = [.inl p] := if_neg hc
        have e2 : gt_en L x e (.cat l hi) p = none := if_neg hc
        rw [e1]
        exact ⟨fun q hq => by
          have : q = p := by simpa using hq
          rw [this]; exact h1 e2, fun d hd => by simp at hd⟩
    exact ⟨g, lst g rfl rfl (fun _ _ => rfl) (fun _ _ => rfl)⟩
  | parser r =>
    have g : ∀ n p, gn_tr D kd wi mo nx (.parser r) false n → gn_nd Em A (.parser r) → p ≤ L → lk n p → (∀ q, .inl q ∈ gt_ev L x e (.parser r) p → q < f) ∧ (∀ d, .inr d ∈ gt_ev L x e (.parser r) p → pr d.1 d.2) := fun n p ht hn hp hl => by
      have h1 := (h _ n p ht hn hp hl).2.1 r rfl
      exact ⟨fun q hq => by simp [gt_ev] at hq, fun d hd => by
        have : d = (gt_nm r, p) := by simpa [gt_ev] using hd
        rw [this]; exact h1⟩
    exact ⟨g, lst g rfl rfl (fun _ _ => rfl) (fun _ _ => rfl)⟩
  | const r =>
    have g : ∀ n p, gn_tr D kd wi mo nx (.const r) false n → gn_nd Em A (.const r) → p ≤ L → lk n p → (∀ q, .inl q ∈ gt_ev L x e (.const r) p → q < f) ∧ (∀ d, .inr d ∈ gt_ev L x e (.const r) p → pr d.1 d.2) := fun n p ht hn hp hl => ⟨fun q hq => by simp [gt_ev] at hq, fun d hd => by simp [gt_ev] at hd⟩
    exact ⟨g, lst g rfl rfl (fun _ _ => rfl) (fun _ _ => rfl)⟩
  | unary m a ih =>
    have g : ∀ n p, gn_tr D kd wi mo nx (.unary m a) false n → gn_nd Em A (.unary m a) → p ≤ L → lk n p → (∀ q, .inl q ∈ gt_ev L x e (.unary m a) p → q < f) ∧ (∀ d, .inr d ∈ gt_ev L x e (.unary m a) p → pr d.1 d.2) := fun n p ht hn hp hl =>
      ih.1 (wi n) p ht.2.2.2 hn hp ((h _ n p ht hn hp hl).1 (wi n) p List.mem_cons_self)
    exact ⟨g, lst g rfl rfl (fun _ _ => rfl) (fun _ _ => rfl)⟩
  | trailingNode m k l a ih =>
    have g : ∀ n p, gn_tr D kd wi mo nx (.trailingNode m k l a) false n → gn_nd Em A (.trailingNode m k l a) → p ≤ L → lk n p → (∀ q, .inl q ∈ gt_ev L x e (.trailingNode m k l a) p → q < f) ∧ (∀ d, .inr d ∈ gt_ev L x e (.trailingNode m k l a) p → pr d.1 d.2) := fun n p ht hn hp hl =>
      ih.1 (wi n) p ht.2.2.2 hn hp ((h _ n p ht hn hp hl).1 (wi n) p List.mem_cons_self)
    exact ⟨g, lst g rfl rfl (fun _ _ => rfl) (fun _ _ => rfl)⟩
  | node m k a ih =>
    have g : ∀ n p, gn_tr D kd wi mo nx (.node m k a) false n → gn_nd Em A (.node m k a) → p ≤ L → lk n p → (∀ q, .inl q ∈ gt_ev L x e (.node m k a) p → q < f) ∧ (∀ d, .inr d ∈ gt_ev L x e (.node m k a) p → pr d.1 d.2) := fun n p ht hn hp hl => by
      obtain ⟨na, _⟩ := gn_nd_rep hn
      have hm : ∀ p q, p ≤ L → gt_en L x e a p = some q → p ≤ q ∧ q ≤ L := fun p q hp h => ⟨(gt_en_ok he a na.1 p q hp h).1, (gt_en_ok he a na.1 p q hp h).2.1⟩
      have h1 := (h _ n p ht hn hp hl).1
      have h2 : ∀ q, q ∈ gt_tp (gt_en L x e a) (gt_most k) p → (∀ q', .inl q' ∈ gt_ev L x e a q → q' < f) ∧ (∀ d, .inr d ∈ gt_ev L x e a q → pr d.1 d.2) := fun q hq =>
        ih.1 (wi n) q ht.2.2.2.2 na (gt_tp_ok hm _ p q hp hq).2 (h1 (wi n) q (List.mem_map.mpr ⟨q, hq, rfl⟩))
      exact ⟨fun q' hq' => by
        obtain ⟨q, hq, h'⟩ := List.mem_flatMap.mp hq'
        exact (h2 q hq).1 q' h', fun d hd => by
        obtain ⟨q, hq, h'⟩ := List.mem_flatMap.mp hd
        exact (h2 q hq).2 d h'⟩
    exact ⟨g, lst g rfl rfl (fun _ _ => rfl) (fun _ _ => rfl)⟩
  | nodeWithAntiquot s k a ih =>
    have g : ∀ n p, gn_tr D kd wi mo nx (.nodeWithAntiquot s k a) false n → gn_nd Em A (.nodeWithAntiquot s k a) → p ≤ L → lk n p → (∀ q, .inl q ∈ gt_ev L x e (.nodeWithAntiquot s k a) p → q < f) ∧ (∀ d, .inr d ∈ gt_ev L x e (.nodeWithAntiquot s k a) p → pr d.1 d.2) := fun n p ht hn hp hl => by
      have h1 := (h _ n p ht hn hp hl).1
      obtain ⟨_, _, _, hta, hk⟩ := ht
      simp only [gn_sub] at h1
      rcases hk with ⟨hk, hl⟩ | ⟨hk, hl⟩
      · rw [if_pos hk] at h1
        exact ih.2.1 (wi n) p hta hl hn hp h1
      · rw [if_neg (by omega)] at h1
        exact ih.2.2 (wi n) p hta hl hn hp h1
    exact ⟨g, lst g rfl rfl (fun _ _ => rfl) (fun _ _ => rfl)⟩
  | sepBy a s c b iha ihc =>
    refine ⟨(fun n p ht => by cases ht.1), fun n p ht _ hn hp hl => ?_, (fun n p _ h => by cases h)⟩
    obtain ⟨_, h1, h2, m, h3, h4⟩ := ht
    obtain ⟨na, nc⟩ := gn_nd_seq hn
    unfold gn_ssub at hl
    have ha := iha.1 n p h1 na hp (hl n p List.mem_cons_self)
    unfold gt_ev
    cases h6 : gt_en L x e a p with
    | none => simpa using ha
    | some q =>
      rw [h6, h3] at hl
      have h7 := gt_en_ok he a na.1 p q hp h6
      have hc := ihc.2.1 m q h4 h2 nc h7.2.1 (fun m' q' h' => hl m' q' (List.mem_cons_of_mem _ h'))
      exact ⟨fun q' hq' => by
        rcases List.mem_append.mp hq' with h' | h'
        · exact ha.1 q' h'
        · exact hc.1 q' h', fun d hd => by
        rcases List.mem_append.mp hd with h' | h'
        · exact ha.2 d h'
        · exact hc.2 d h'⟩
  | sepBy1 a s c b iha ihc =>
    refine ⟨(fun n p ht => by cases ht.1), (fun n p _ h => by cases h), fun n p ht _ hn hp hl => ?_⟩
    obtain ⟨_, h1, h2, m, h3, h4⟩ := ht
    obtain ⟨na, nc⟩ := gn_nd_ch hn
    unfold gn_csub at hl
    have ha := iha.1 n p h1 na hp (hl n p List.mem_cons_self)
    unfold gt_ev
    cases h6 : gt_en L x e a p with
    | some q => simpa using ha
    | none =>
      rw [h6, h3] at hl
      have hc := ihc.2.2 m p h4 h2 nc hp (fun m' q' h' => hl m' q' (List.mem_cons_of_mem _ h'))
      exact ⟨fun q' hq' => by
        rcases List.mem_append.mp hq' with h' | h'
        · exact ha.1 q' h'
        · exact hc.1 q' h', fun d hd => by
        rcases List.mem_append.mp hd with h' | h'
        · exact ha.2 d h'
        · exact hc.2 d h'⟩
  | _ =>
    exact ⟨fun n p ht => False.elim ht, fun n p ht => False.elim ht, fun n p ht => False.elim ht⟩
/-- what is looked at from a cell is met there: its events are events of the cell -/
theorem gn_sub_ev {e : Nat → Nat → Option Nat} (he : gt_okE L Em A e) (t : gt_T) :
    (∀ n p, gn_tr D kd wi mo nx t true n → gt_isl 10 t = false → gn_nd Em A t → p ≤ L → ∀ m q, (m, q) ∈ gn_ssub L x e nx t n p → q ≤ L ∧ ∃ t', gn_tr D kd wi mo nx t' false m ∧ gn_nd Em A t' ∧ ∀ v, v ∈ gt_ev L x e t' q → v ∈ gt_ev L x e t p) ∧
    (∀ n p, gn_tr D kd wi mo nx t true n → gt_isl 9 t = false → gn_nd Em A t → p ≤ L → ∀ m q, (m, q) ∈ gn_csub L x e nx t n p → q ≤ L ∧ ∃ t', gn_tr D kd wi mo nx t' false m ∧ gn_nd Em A t' ∧ ∀ v, v ∈ gt_ev L x e t' q → v ∈ gt_ev L x e t p) := by
  induction t with
  | sepBy a s c b iha ihc =>
    refine ⟨fun n p ht _ hn hp m q hm => ?_, (fun n p _ h => by cases h)⟩
    obtain ⟨_, h1, h2, m', h3, h4⟩ := ht
    obtain ⟨na, nc⟩ := gn_nd_seq hn
    unfold gn_ssub at hm
    rcases List.mem_cons.mp hm with hm | hm
    · cases hm
      exact ⟨hp, a, h1, na, fun v hv => by unfold gt_ev; exact List.mem_append_left _ hv⟩
    · cases h6 : gt_en L x e a p with
      | none => rw [h6] at hm; cases hm
      | some q1 =>
        rw [h6, h3] at hm
        have h7 := gt_en_ok he a na.1 p q1 hp h6
        obtain ⟨g1, t', g2, g3, g4⟩ := ihc.1 m' q1 h4 h2 nc h7.2.1 m q hm
        exact ⟨g1, t', g2, g3, fun v hv => by unfold gt_ev; rw [h6]; exact List.mem_append_right _ (g4 v hv)⟩
  | sepBy1 a s c b iha ihc =>
    refine ⟨(fun n p _ h => by cases h), fun n p ht _ hn hp m q hm => ?_⟩
    obtain ⟨_, h1, h2, m', h3, h4⟩ := ht
    obtain ⟨na, nc⟩ := gn_nd_ch hn
    unfold gn_csub at hm
    rcases List.mem_cons.mp hm with hm | hm
    · cases hm
      exact ⟨hp, a, h1, na, fun v hv => by unfold gt_ev; exact List.mem_append_left _ hv⟩
    · cases h6 : gt_en L x e a p with
      | some q1 => rw [h6] at hm; cases hm
      | none =>
        rw [h6, h3] at hm
        obtain ⟨g1, t', g2, g3, g4⟩ := ihc.2 m' p h4 h2 nc hp m q hm
        exact ⟨g1, t', g2, g3, fun v hv => by unfold gt_ev; rw [h6]; exact List.mem_append_right _ (g4 v hv)⟩
  | _ =>
    refine ⟨fun n p ht h10 hn hp m q hm => ?_, fun n p ht h9 hn hp m q hm => ?_⟩
    · have e : (m, q) = (n, p) := by simpa [gn_ssub] using hm
      cases e
      exact ⟨hp, _, (gn_tr_list ht rfl h10).1, hn, fun v hv => hv⟩
    · have e : (m, q) = (n, p) := by simpa [gn_csub] using hm
      cases e
      exact ⟨hp, _, (gn_tr_list ht h9 rfl).1, hn, fun v hv => hv⟩
theorem gn_sub_in {e : Nat → Nat → Option Nat} (he : gt_okE L Em A e) {t : gt_T} {n p : Nat} (ht : gn_tr D kd wi mo nx t false n) (hn : gn_nd Em A t) (hp : p ≤ L) (hr : ∀ r, t ≠ .parser r) : ∀ m q, (m, q) ∈ gn_sub L x e wi nx t n p → q ≤ L ∧ ∃ t', gn_tr D kd wi mo nx t' false m ∧ gn_nd Em A t' ∧ ∀ v, v ∈ gt_ev L x e t' q → v ∈ gt_ev L x e t p := by
  intro m q hm
  cases t with
  | parser r => exact absurd rfl (hr r)
  | unary m' a =>
    have e1 : (m, q) = (wi n, p) := by simpa [gn_sub] using hm
    cases e1
    exact ⟨hp, a, ht.2.2.2, hn, fun v hv => hv⟩
  | trailingNode m' k l a =>
    have e1 : (m, q) = (wi n, p) := by simpa [gn_sub] using hm
    cases e1
    exact ⟨hp, a, ht.2.2.2, hn, fun v hv => hv⟩
  | node m' k a =>
    obtain ⟨na, _⟩ := gn_nd_rep hn
    have hmm : ∀ p q, p ≤ L → gt_en L x e a p = some q → p ≤ q ∧ q ≤ L := fun p q hp h => ⟨(gt_en_ok he a na.1 p q hp h).1, (gt_en_ok he a na.1 p q hp h).2.1⟩
    obtain ⟨q', hq', e1⟩ := List.mem_map.mp hm
    cases e1
    exact ⟨(gt_tp_ok hmm _ p q hp hq').2, a, ht.2.2.2.2, na, fun v hv => List.mem_flatMap.mpr ⟨q, hq', hv⟩⟩
  | nodeWithAntiquot s k a =>
    obtain ⟨_, _, _, hta, hk⟩ := ht
    simp only [gn_sub] at hm
    rcases hk with ⟨hk, hl⟩ | ⟨hk, hl⟩
    · rw [if_pos hk] at hm
      exact (gn_sub_ev he a).1 (wi n) p hta hl hn hp m q hm
    · rw [if_neg (by omega)] at hm
      exact (gn_sub_ev he a).2 (wi n) p hta hl hn hp m q hm
  | _ => cases hm
end GO
