/-! The model's empty-able nodes and what nodes start with, by rounds. -/
def gn_eall (em : Nat → Bool) (nx : Nat → Option Nat) : gt_T → Nat → Bool
  | .sepBy _ _ c _, n => em n && (match nx n with
    | none => true
    | some m => gn_eall em nx c m)
  | _, n => em n
def gn_eany (em : Nat → Bool) (nx : Nat → Option Nat) : gt_T → Nat → Bool
  | .sepBy1 _ _ c _, n => em n || (match nx n with
    | none => false
    | some m => gn_eany em nx c m)
  | _, n => em n
def gn_emN (dfn : Nat → Bool) (wi : Nat → Nat) (nx : Nat → Option Nat) (em : Nat → Bool) : gt_T → Nat → Bool
  | .cat _ _, _ => false
  | .parser r, _ => dfn (gt_nm r) && em (40 * gt_nm r)
  | .const _, _ => true
  | .unary _ _, n => em (wi n)
  | .node _ k _, n => !(k == 1) || em (wi n)
  | .trailingNode _ _ _ _, _ => true
  | .nodeWithAntiquot _ k a, n => if gt_nm k = 9 then gn_eall em nx a (wi n) else gn_eany em nx a (wi n)
  | _, _ => false
def gn_sall (em : Nat → Bool) (st : Nat → Nat → Bool) (nx : Nat → Option Nat) (r : Nat) : gt_T → Nat → Bool
  | .sepBy _ _ c _, n => st n r || (em n && (match nx n with
    | none => false
    | some m => gn_sall em st nx r c m))
  | _, n => st n r
def gn_sany (st : Nat → Nat → Bool) (nx : Nat → Option Nat) (r : Nat) : gt_T → Nat → Bool
  | .sepBy1 _ _ c _, n => st n r || (match nx n with
    | none => false
    | some m => gn_sany st nx r c m)
  | _, n => st n r
def gn_stN (wi : Nat → Nat) (nx : Nat → Option Nat) (em : Nat → Bool) (st : Nat → Nat → Bool) (r : Nat) : gt_T → Nat → Bool
  | .parser m, _ => r == gt_nm m
  | .unary _ _, n => st (wi n) r
  | .node _ _ _, n => st (wi n) r
  | .trailingNode _ _ _ _, n => st (wi n) r
  | .nodeWithAntiquot _ k a, n => if gt_nm k = 9 then gn_sall em st nx r a (wi n) else gn_sany st nx r a (wi n)
  | _, _ => false
section GX
variable {D : Nat → Prop} {kd wi mo : Nat → Nat} {nx : Nat → Option Nat} {dfn : Nat → Bool} {em em' : Nat → Bool} {st st' : Nat → Nat → Bool} {R : Nat → Option gt_T}
theorem gn_eall_mono (h : ∀ n, em n = true → em' n = true) (t : gt_T) : ∀ n, gn_eall em nx t n = true → gn_eall em' nx t n = true := by
  induction t with
  | sepBy a s c b iha ihc =>
    intro n hn
    unfold gn_eall at hn ⊢
    obtain ⟨h1, h2⟩ := Bool.and_eq_true_iff.mp hn
    refine Bool.and_eq_true_iff.mpr ⟨h n h1, ?_⟩
    cases hx : nx n with
    | none => rfl
    | some m => rw [hx] at h2; exact ihc m h2
  | _ => exact fun n hn => h n hn
theorem gn_eany_mono (h : ∀ n, em n = true → em' n = true) (t : gt_T) : ∀ n, gn_eany em nx t n = true → gn_eany em' nx t n = true := by
  induction t with
  | sepBy1 a s c b iha ihc =>
    intro n hn
    unfold gn_eany at hn ⊢
    rcases Bool.or_eq_true_iff.mp hn with h1 | h2
    · exact Bool.or_eq_true_iff.mpr (.inl (h n h1))
    · refine Bool.or_eq_true_iff.mpr (.inr ?_)
      cases hx : nx n with
      | none => rw [hx] at h2; cases h2
      | some m => rw [hx] at h2; exact ihc m h2
  | _ => exact fun n hn => h n hn
theorem gn_emN_mono (h : ∀ n, em n = true → em' n = true) (t : gt_T) (n : Nat) : gn_emN dfn wi nx em t n = true → gn_emN dfn wi nx em' t n = true := by
  cases t with
  | parser r => exact fun hn => Bool.and_eq_true_iff.mpr ⟨(Bool.and_eq_true_iff.mp hn).1, h _ (Bool.and_eq_true_iff.mp hn).2⟩
  | unary m a => exact h _
  | node m k a =>
    intro hn
    rcases Bool.or_eq_true_iff.mp hn with h1 | h1
    · exact Bool.or_eq_true_iff.mpr (.inl h1)
    · exact Bool.or_eq_true_iff.mpr (.inr (h _ h1))
  | nodeWithAntiquot s k a =>
    intro hn
    simp only [gn_emN] at hn ⊢
    split at hn
    · rename_i hk
      rw [if_pos hk]
      exact gn_eall_mono h a _ hn
    · rename_i hk
      rw [if_neg hk]
      exact gn_eany_mono h a _ hn
  | _ => exact id
theorem gn_sall_mono {r : Nat} (h : ∀ n, em n = true → em' n = true) (hs : ∀ n, st n r = true → st' n r = true) (t : gt_T) : ∀ n, gn_sall em st nx r t n = true → gn_sall em' st' nx r t n = true := by
  induction t with
  | sepBy a s c b iha ihc =>
    intro n hn
    unfold gn_sall at hn ⊢
    rcases Bool.or_eq_true_iff.mp hn with h1 | h1
    · exact Bool.or_eq_true_iff.mpr (.inl (hs n h1))
    · obtain ⟨h2, h3⟩ := Bool.and_eq_true_iff.mp h1
      refine Bool.or_eq_true_iff.mpr (.inr (Bool.and_eq_true_iff.mpr ⟨h n h2, ?_⟩))
      cases hx : nx n with
      | none => rw [hx] at h3; cases h3
      | some m => rw [hx] at h3; exact ihc m h3
  | _ => exact fun n hn => hs n hn
theorem gn_sany_mono {r : Nat} (hs : ∀ n, st n r = true → st' n r = true) (t : gt_T) : ∀ n, gn_sany st nx r t n = true → gn_sany st' nx r t n = true := by
  induction t with
  | sepBy1 a s c b iha ihc =>
    intro n hn
    unfold gn_sany at hn ⊢
    rcases Bool.or_eq_true_iff.mp hn with h1 | h2
    · exact Bool.or_eq_true_iff.mpr (.inl (hs n h1))
    · refine Bool.or_eq_true_iff.mpr (.inr ?_)
      cases hx : nx n with
      | none => rw [hx] at h2; cases h2
      | some m => rw [hx] at h2; exact ihc m h2
  | _ => exact fun n hn => hs n hn
theorem gn_stN_mono {r : Nat} (h : ∀ n, em n = true → em' n = true) (hs : ∀ n, st n r = true → st' n r = true) (t : gt_T) (n : Nat) : gn_stN wi nx em st r t n = true → gn_stN wi nx em' st' r t n = true := by
  cases t with
  | parser r => exact id
  | unary m a => exact hs _
  | node m k a => exact hs _
  | trailingNode m k l a => exact hs _
  | nodeWithAntiquot s k a =>
    intro hn
    simp only [gn_stN] at hn ⊢
    split at hn
    · rename_i hk
      rw [if_pos hk]
      exact gn_sall_mono h hs a _ hn
    · rename_i hk
      rw [if_neg hk]
      exact gn_sany_mono hs a _ hn
  | _ => exact id
/-- closed under the document's sentences -/
def gt_cl (R : Nat → Option gt_T) (E : Nat → Bool) : Prop := ∀ r t, R r = some t → gt_emp E t = true → E r = true
/-- no node is called empty-able that isn't -/
def gn_eS (R : Nat → Option gt_T) (D : Nat → Prop) (kd wi mo : Nat → Nat) (nx : Nat → Option Nat) (em : Nat → Bool) : Prop := ∀ t n, gn_tr D kd wi mo nx t false n → em n = true → ∀ E, gt_cl R E → gt_emp E t = true
theorem gn_eall_S (hs : gn_eS R D kd wi mo nx em) {E : Nat → Bool} (hE : gt_cl R E) (t : gt_T) : ∀ n, gn_tr D kd wi mo nx t true n → gt_isl 10 t = false → gn_eall em nx t n = true → gt_emp E t = true := by
  induction t with
  | sepBy a s c b iha ihc =>
    intro n ht _ hn
    obtain ⟨_, h1, h2, m, h3, h4⟩ := ht
    unfold gn_eall at hn
    obtain ⟨g1, g2⟩ := Bool.and_eq_true_iff.mp hn
    rw [h3] at g2
    exact Bool.and_eq_true_iff.mpr ⟨hs a n h1 g1 E hE, ihc m h4 h2 g2⟩
  | sepBy1 a s c b iha ihc => intro n _ h; cases h
  | _ => exact fun n ht h10 hn => hs _ n (gn_tr_list ht rfl h10).1 hn E hE
theorem gn_eany_S (hs : gn_eS R D kd wi mo nx em) {E : Nat → Bool} (hE : gt_cl R E) (t : gt_T) : ∀ n, gn_tr D kd wi mo nx t true n → gt_isl 9 t = false → gn_eany em nx t n = true → gt_emp E t = true := by
  induction t with
  | sepBy1 a s c b iha ihc =>
    intro n ht _ hn
    obtain ⟨_, h1, h2, m, h3, h4⟩ := ht
    unfold gn_eany at hn
    rw [h3] at hn
    rcases Bool.or_eq_true_iff.mp hn with g1 | g2
    · exact Bool.or_eq_true_iff.mpr (.inl (hs a n h1 g1 E hE))
    · exact Bool.or_eq_true_iff.mpr (.inr (ihc m h4 h2 g2))
  | sepBy a s c b iha ihc => intro n _ h; cases h
  | _ => exact fun n ht h9 hn => hs _ n (gn_tr_list ht h9 rfl).1 hn E hE
/-- dfn tells which rules are there, and their trees stand at their roots -/
def gn_rts (R : Nat → Option gt_T) (D : Nat → Prop) (kd wi mo : Nat → Nat) (nx : Nat → Option Nat) (dfn : Nat → Bool) : Prop := (∀ r, dfn r = true ↔ ∃ t, R r = some t) ∧ ∀ r t, R r = some t → gn_tr D kd wi mo nx t false (40 * r)
theorem gn_emN_S (hr : gn_rts R D kd wi mo nx dfn) (hs : gn_eS R D kd wi mo nx em) {t : gt_T} {n : Nat} (ht : gn_tr D kd wi mo nx t false n) (hn : gn_emN dfn wi nx em t n = true) {E : Nat → Bool} (hE : gt_cl R E) : gt_emp E t = true := by
  cases t with
  | cat l hi => cases hn
  | parser r =>
    obtain ⟨h1, h2⟩ := Bool.and_eq_true_iff.mp hn
    obtain ⟨t, htR⟩ := (hr.1 _).mp h1
    exact hE _ t htR (hs t _ (hr.2 _ t htR) h2 E hE)
  | const r => rfl
  | unary m a => exact hs a _ ht.2.2.2 hn E hE
  | node m k a =>
    rcases Bool.or_eq_true_iff.mp hn with h1 | h1
    · exact Bool.or_eq_true_iff.mpr (.inl h1)
    · exact Bool.or_eq_true_iff.mpr (.inr (hs a _ ht.2.2.2.2 h1 E hE))
  | trailingNode m k l a => rfl
  | nodeWithAntiquot s k a =>
    obtain ⟨_, _, _, hta, hk⟩ := ht
    simp only [gn_emN] at hn
    rcases hk with ⟨hk, hl⟩ | ⟨hk, hl⟩
    · rw [if_pos hk] at hn
      exact gn_eall_S hs hE a _ hta hl hn
    · rw [if_neg (by omega)] at hn
      exact gn_eany_S hs hE a _ hta hl hn
  | _ => cases hn
/-- where a round changes nothing, the empty-able nodes are those of the tree -/
theorem gn_em_tree (hf : ∀ t n, gn_tr D kd wi mo nx t false n → em n = gn_emN dfn wi nx em t n) (t : gt_T) :
    (∀ n, gn_tr D kd wi mo nx t false n → em n = gt_emp (fun r => dfn r && em (40 * r)) t) ∧
    (∀ n, gn_tr D kd wi mo nx t true n → gt_isl 10 t = false → gn_eall em nx t n = gt_emp (fun r => dfn r && em (40 * r)) t) ∧
    (∀ n, gn_tr D kd wi mo nx t true n → gt_isl 9 t = false → gn_eany em nx t n = gt_emp (fun r => dfn r && em (40 * r)) t) := by
  have lst : ∀ {t : gt_T}, (∀ n, gn_tr D kd wi mo nx t false n → em n = gt_emp (fun r => dfn r && em (40 * r)) t) → gt_isl 9 t = false → gt_isl 10 t = false → (∀ n, gn_eall em nx t n = em n) → (∀ n, gn_eany em nx t n = em n) → 
      (∀ n, gn_tr D kd wi mo nx t true n → gt_isl 10 t = false → gn_eall em nx t n = gt_emp (fun r => dfn r && em (40 * r)) t) ∧ (∀ n, gn_tr D kd wi mo nx t true n → gt_isl 9 t = false → gn_eany em nx t n = gt_emp (fun r => dfn r && em (40 * r)) t) :=
    fun h h9 h10 hs hc => ⟨fun n ht _ => (hs n).trans (h n (gn_tr_list ht h9 h10).1), fun n ht _ => (hc n).trans (h n (gn_tr_list ht h9 h10).1)⟩
  induction t with
  | cat l hi =>
    refine ⟨?a1, lst ?a1 rfl rfl (fun _ => rfl) (fun _ => rfl)⟩
    exact fun n ht => hf _ n ht
  | parser r =>
    refine ⟨?a2, lst ?a2 rfl rfl (fun _ => rfl) (fun _ => rfl)⟩
    exact fun n ht => hf _ n ht
  | const r =>
    refine ⟨?a3, lst ?a3 rfl rfl (fun _ => rfl) (fun _ => rfl)⟩
    exact fun n ht => hf _ n ht
  | unary m a ih =>
    refine ⟨?a4, lst ?a4 rfl rfl (fun _ => rfl) (fun _ => rfl)⟩
    exact fun n ht => (hf _ n ht).trans (ih.1 _ ht.2.2.2)
  | node m k a ih =>
    refine ⟨?a5, lst ?a5 rfl rfl (fun _ => rfl) (fun _ => rfl)⟩
    intro n ht
    have h1 := hf _ n ht
    have h2 := ih.1 _ ht.2.2.2.2
    rw [h1]
    simp only [gn_emN, gt_emp, h2]
  | trailingNode m k l a ih =>
    refine ⟨?a6, lst ?a6 rfl rfl (fun _ => rfl) (fun _ => rfl)⟩
    exact fun n ht => hf _ n ht
  | nodeWithAntiquot s k a ih =>
    refine ⟨?a7, lst ?a7 rfl rfl (fun _ => rfl) (fun _ => rfl)⟩
    intro n ht
    have h1 := hf _ n ht
    obtain ⟨_, _, _, hta, hk⟩ := ht
    rw [h1]
    simp only [gn_emN]
    rcases hk with ⟨hk, hl⟩ | ⟨hk, hl⟩
    · rw [if_pos hk]
      exact ih.2.1 _ hta hl
    · rw [if_neg (by omega)]
      exact ih.2.2 _ hta hl
  | sepBy a s c b iha ihc =>
    refine ⟨(fun n ht => by cases ht.1), fun n ht _ => ?_, (fun n _ h => by cases h)⟩
    obtain ⟨_, h1, h2, m, h3, h4⟩ := ht
    unfold gn_eall
    rw [h3, iha.1 n h1]
    simp only [gt_emp, ihc.2.1 m h4 h2]
  | sepBy1 a s c b iha ihc =>
    refine ⟨(fun n ht => by cases ht.1), (fun n _ h => by cases h), fun n ht _ => ?_⟩
    obtain ⟨_, h1, h2, m, h3, h4⟩ := ht
    unfold gn_eany
    rw [h3, iha.1 n h1]
    simp only [gt_emp, ihc.2.2 m h4 h2]
  | _ => exact ⟨fun n ht => False.elim ht, fun n ht => False.elim ht, fun n ht => False.elim ht⟩
/-- and the empty-able rules are the right ones -/
theorem gn_em_right (hw : gt_wf R) (hr : gn_rts R D kd wi mo nx dfn) (hs : gn_eS R D kd wi mo nx em) (hf : ∀ t n, gn_tr D kd wi mo nx t false n → em n = gn_emN dfn wi nx em t n) : (fun r => dfn r && em (40 * r)) = gt_Em R := by
  refine gt_Em_unique hw (fun r t htR he => ?_) (fun r hk E hE => ?_)
  · have h1 := (gn_em_tree hf t).1 _ (hr.2 r t htR)
    exact Bool.and_eq_true_iff.mpr ⟨(hr.1 r).mpr ⟨t, htR⟩, h1.trans he⟩
  · obtain ⟨h1, h2⟩ := Bool.and_eq_true_iff.mp hk
    obtain ⟨t, htR⟩ := (hr.1 r).mp h1
    exact hE r t htR (hs t _ (hr.2 r t htR) h2 E hE)
/-- the same of what nodes start with -/
theorem gn_st_tree {Em : Nat → Bool} (he : ∀ t n, gn_tr D kd wi mo nx t false n → em n = gt_emp Em t) {r : Nat} (hf : ∀ t n, gn_tr D kd wi mo nx t false n → st n r = gn_stN wi nx em st r t n) (t : gt_T) :
    (∀ n, gn_tr D kd wi mo nx t false n → st n r = gt_sts Em t r) ∧
    (∀ n, gn_tr D kd wi mo nx t true n → gt_isl 10 t = false → gn_sall em st nx r t n = gt_sts Em t r) ∧
    (∀ n, gn_tr D kd wi mo nx t true n → gt_isl 9 t = false → gn_sany st nx r t n = gt_sts Em t r) := by
  have lst : ∀ {t : gt_T}, (∀ n, gn_tr D kd wi mo nx t false n → st n r = gt_sts Em t r) → gt_isl 9 t = false → gt_isl 10 t = false → (∀ n, gn_sall em st nx r t n = st n r) → (∀ n, gn_sany st nx r t n = st n r) → 
      (∀ n, gn_tr D kd wi mo nx t true n → gt_isl 10 t = false → gn_sall em st nx r t n = gt_sts Em t r) ∧ (∀ n, gn_tr D kd wi mo nx t true n → gt_isl 9 t = false → gn_sany st nx r t n = gt_sts Em t r) :=
    fun h h9 h10 hs hc => ⟨fun n ht _ => (hs n).trans (h n (gn_tr_list ht h9 h10).1), fun n ht _ => (hc n).trans (h n (gn_tr_list ht h9 h10).1)⟩
  induction t with
  | cat l hi =>
    refine ⟨?a1, lst ?a1 rfl rfl (fun _ => rfl) (fun _ => rfl)⟩
    exact fun n ht => hf _ n ht
  | parser r =>
    refine ⟨?a2, lst ?a2 rfl rfl (fun _ => rfl) (fun _ => rfl)⟩
    exact fun n ht => hf _ n ht
  | const r =>
    refine ⟨?a3, lst ?a3 rfl rfl (fun _ => rfl) (fun _ => rfl)⟩
    exact fun n ht => hf _ n ht
  | unary m a ih =>
    refine ⟨?a4, lst ?a4 rfl rfl (fun _ => rfl) (fun _ => rfl)⟩
    exact fun n ht => (hf _ n ht).trans (ih.1 _ ht.2.2.2)
  | node m k a ih =>
    refine ⟨?a5, lst ?a5 rfl rfl (fun _ => rfl) (fun _ => rfl)⟩
    exact fun n ht => (hf _ n ht).trans (ih.1 _ ht.2.2.2.2)
  | trailingNode m k l a ih =>
    refine ⟨?a6, lst ?a6 rfl rfl (fun _ => rfl) (fun _ => rfl)⟩
    exact fun n ht => (hf _ n ht).trans (ih.1 _ ht.2.2.2)
  | nodeWithAntiquot s k a ih =>
    refine ⟨?a7, lst ?a7 rfl rfl (fun _ => rfl) (fun _ => rfl)⟩
    intro n ht
    have h1 := hf _ n ht
    obtain ⟨_, _, _, hta, hk⟩ := ht
    rw [h1]
    simp only [gn_stN]
    rcases hk with ⟨hk, hl⟩ | ⟨hk, hl⟩
    · rw [if_pos hk]
      exact ih.2.1 _ hta hl
    · rw [if_neg (by omega)]
      exact ih.2.2 _ hta hl
  | sepBy a s c b iha ihc =>
    refine ⟨(fun n ht => by cases ht.1), fun n ht _ => ?_, (fun n _ h => by cases h)⟩
    obtain ⟨_, h1, h2, m, h3, h4⟩ := ht
    unfold gn_sall
    rw [h3, iha.1 n h1, he a n h1]
    simp only [gt_sts, ihc.2.1 m h4 h2]
  | sepBy1 a s c b iha ihc =>
    refine ⟨(fun n ht => by cases ht.1), (fun n _ h => by cases h), fun n ht _ => ?_⟩
    obtain ⟨_, h1, h2, m, h3, h4⟩ := ht
    unfold gn_sany
    rw [h3, iha.1 n h1]
    simp only [gt_sts, ihc.2.2 m h4 h2]
  | _ => exact ⟨fun n ht => False.elim ht, fun n ht => False.elim ht, fun n ht => False.elim ht⟩
end GX
