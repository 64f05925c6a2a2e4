/-! The model's grammar; work. -/
theorem gn_tr_mono {D D' : Nat → Prop} {kd wi mo : Nat → Nat} {nx : Nat → Option Nat} (h : ∀ n, D n → D' n) (t : gt_T) : ∀ (b : Bool) (n : Nat), gn_tr D kd wi mo nx t b n → gn_tr D' kd wi mo nx t b n := by
  induction t with
  | sepBy a s c b' iha ihc => exact fun b n ⟨h1, h2, h3, m, h4, h5⟩ => ⟨h1, iha _ _ h2, h3, m, h4, ihc _ _ h5⟩
  | sepBy1 a s c b' iha ihc => exact fun b n ⟨h1, h2, h3, m, h4, h5⟩ => ⟨h1, iha _ _ h2, h3, m, h4, ihc _ _ h5⟩
  | cat l hi => exact fun b n ⟨h1, h2⟩ => ⟨h n h1, h2⟩
  | parser r => exact fun b n ⟨h1, h2⟩ => ⟨h n h1, h2⟩
  | const r => exact fun b n ⟨h1, h2⟩ => ⟨h n h1, h2⟩
  | unary m a ih => exact fun b n ⟨h1, h2, h3, h4⟩ => ⟨h n h1, h2, h3, ih _ _ h4⟩
  | node m k a ih => exact fun b n ⟨h1, h2, h3, h4, h5⟩ => ⟨h n h1, h2, h3, h4, ih _ _ h5⟩
  | trailingNode m k l a ih => exact fun b n ⟨h1, h2, h3, h4⟩ => ⟨h n h1, h2, h3, ih _ _ h4⟩
  | nodeWithAntiquot s k a ih => exact fun b n ⟨h1, h2, h3, h4, h5⟩ => ⟨h n h1, h2, h3, ih _ _ h4, h5⟩
  | _ => exact fun b n h => False.elim h
/-- a name's node is there -/
theorem gn_tr_nms {D : Nat → Prop} {kd wi mo : Nat → Nat} {nx : Nat → Option Nat} {k : Nat} (t : gt_T) : ∀ (b : Bool) (n : Nat), gn_tr D kd wi mo nx t b n → gt_nms t k = true → ∃ m, D m ∧ kd m = 1 ∧ wi m = k := by
  induction t with
  | sepBy a s c b' iha ihc =>
    intro b n ⟨h1, h2, h3, m, h4, h5⟩ h
    rcases Bool.or_eq_true_iff.mp h with h | h
    · exact iha _ _ h2 h
    · exact ihc _ _ h5 h
  | sepBy1 a s c b' iha ihc =>
    intro b n ⟨h1, h2, h3, m, h4, h5⟩ h
    rcases Bool.or_eq_true_iff.mp h with h | h
    · exact iha _ _ h2 h
    · exact ihc _ _ h5 h
  | parser r =>
    intro b n ⟨h1, h2, h3, h4⟩ h
    have e : k = gt_nm r := by simpa [gt_nms] using h
    exact ⟨n, h1, h3, by omega⟩
  | unary m a ih => exact fun b n ⟨h1, h2, h3, h4⟩ h => ih _ _ h4 h
  | node m k a ih => exact fun b n ⟨h1, h2, h3, h4, h5⟩ h => ih _ _ h5 h
  | trailingNode m k l a ih => exact fun b n ⟨h1, h2, h3, h4⟩ h => ih _ _ h4 h
  | nodeWithAntiquot s k a ih => exact fun b n ⟨h1, h2, h3, h4, h5⟩ h => ih _ _ h4 h
  | _ => exact fun b n _ h => by cases h
/-- so is that of a p* or p+ with p empty-able -/
theorem gn_tr_grd {D : Nat → Prop} {kd wi mo : Nat → Nat} {nx : Nat → Option Nat} {E : Nat → Bool} (t : gt_T) : ∀ (b : Bool) (n : Nat), gn_tr D kd wi mo nx t b n → gt_grd E t = true → ∃ m a, D m ∧ (kd m = 4 ∨ kd m = 5) ∧ gn_tr D kd wi mo nx a false (wi m) ∧ gt_emp E a = true := by
  induction t with
  | sepBy a s c b' iha ihc =>
    intro b n ⟨h1, h2, h3, m, h4, h5⟩ h
    rcases Bool.or_eq_true_iff.mp h with h | h
    · exact iha _ _ h2 h
    · exact ihc _ _ h5 h
  | sepBy1 a s c b' iha ihc =>
    intro b n ⟨h1, h2, h3, m, h4, h5⟩ h
    rcases Bool.or_eq_true_iff.mp h with h | h
    · exact iha _ _ h2 h
    · exact ihc _ _ h5 h
  | unary m a ih => exact fun b n ⟨h1, h2, h3, h4⟩ h => ih _ _ h4 h
  | node m k a ih =>
    intro b n ⟨h1, h2, h3, h4, h5⟩ h
    rcases Bool.or_eq_true_iff.mp h with h | h
    · obtain ⟨g1, g2⟩ := Bool.and_eq_true_iff.mp h
      have hk : ¬ k = 2 := by simpa using g1
      exact ⟨n, a, h1, by omega, h5, g2⟩
    · exact ih _ _ h5 h
  | trailingNode m k l a ih => exact fun b n ⟨h1, h2, h3, h4⟩ h => ih _ _ h4 h
  | nodeWithAntiquot s k a ih => exact fun b n ⟨h1, h2, h3, h4, h5⟩ h => ih _ _ h4 h
  | _ => exact fun b n _ h => by cases h
/-- a node's kind by its tree -/
def gt_kd : gt_T → Nat
  | .cat _ _ => 0
  | .parser _ => 1
  | .const _ => 2
  | .unary _ _ => 3
  | .node _ k _ => 4 + k
  | .trailingNode _ k _ _ => if k = 1 then 7 else 8
  | .nodeWithAntiquot _ k _ => gt_nm k
  | _ => 11
theorem gn_tr_kd {D : Nat → Prop} {kd wi mo : Nat → Nat} {nx : Nat → Option Nat} {t : gt_T} {n : Nat} (h : gn_tr D kd wi mo nx t false n) : kd n = gt_kd t := by
  cases t with
  | cat l hi => exact h.2.2.1
  | parser r => exact h.2.2.1
  | const r => exact h.2.2
  | unary m a => exact h.2.2.1
  | node m k a => exact h.2.2.2.1
  | trailingNode m k l a => exact h.2.2.1
  | nodeWithAntiquot s k a => exact h.2.2.1
  | sepBy a s c b => cases h.1
  | sepBy1 a s c b => cases h.1
  | _ => exact False.elim h
section GSAME
variable {D : Nat → Prop} {kd wi mo : Nat → Nat} {nx : Nat → Option Nat} {em : Nat → Bool} {st : Nat → Nat → Bool} {dfn : Nat → Bool}
theorem gn_eall_same (t : gt_T) : ∀ (t' : gt_T) (n : Nat), gn_tr D kd wi mo nx t true n → gn_tr D kd wi mo nx t' true n → gt_isl 10 t = false → gt_isl 10 t' = false → gn_eall em nx t n = gn_eall em nx t' n ∧ ∀ r, gn_sall em st nx r t n = gn_sall em st nx r t' n := by
  have end1 : ∀ {t : gt_T} {n : Nat}, gt_isl 9 t = false → gn_eall em nx t n = em n ∧ ∀ r, gn_sall em st nx r t n = st n r := fun {t n} h => by
    cases t with
    | sepBy a s c b => cases h
    | _ => exact ⟨rfl, fun _ => rfl⟩
  have non : ∀ {t : gt_T} {n m : Nat}, gn_tr D kd wi mo nx t true n → gt_isl 10 t = false → nx n = some m → ∃ a s c b, t = .sepBy a s c b := fun {t n m} ht h10 hx => by
    cases t with
    | sepBy a s c b => exact ⟨a, s, c, b, rfl⟩
    | sepBy1 a s c b => cases h10
    | _ => rw [(gn_tr_list ht rfl rfl).2] at hx; cases hx
  induction t with
  | sepBy a s c b iha ihc =>
    intro t' n ht ht' _ h10'
    obtain ⟨_, h1, h2, m, h3, h4⟩ := ht
    obtain ⟨a', s', c', b', rfl⟩ := non ht' h10' h3
    obtain ⟨_, g1, g2, m', g3, g4⟩ := ht'
    rw [h3] at g3
    cases g3
    obtain ⟨e1, e2⟩ := ihc c' m h4 g4 h2 g2
    refine ⟨?_, fun r => ?_⟩
    · unfold gn_eall
      simp only [h3, e1]
    · unfold gn_sall
      simp only [h3, e2]
  | sepBy1 a s c b iha ihc => intro t' n _ _ h; cases h
  | _ =>
    intro t' n ht ht' h10 h10'
    have hx := (gn_tr_list ht rfl h10).2
    have h9' : gt_isl 9 t' = false := by
      cases t' with
      | sepBy a s c b =>
        obtain ⟨_, _, _, m, h3, _⟩ := ht'
        rw [hx] at h3
        cases h3
      | _ => first | rfl | (cases h10')
    obtain ⟨e1, e2⟩ := end1 (n := n) h9'
    exact ⟨e1.symm, fun r => (e2 r).symm⟩
theorem gn_eany_same (t : gt_T) : ∀ (t' : gt_T) (n : Nat), gn_tr D kd wi mo nx t true n → gn_tr D kd wi mo nx t' true n → gt_isl 9 t = false → gt_isl 9 t' = false → gn_eany em nx t n = gn_eany em nx t' n ∧ ∀ r, gn_sany st nx r t n = gn_sany st nx r t' n := by
  have end1 : ∀ {t : gt_T} {n : Nat}, gt_isl 10 t = false → gn_eany em nx t n = em n ∧ ∀ r, gn_sany st nx r t n = st n r := fun {t n} h => by
    cases t with
    | sepBy1 a s c b => cases h
    | _ => exact ⟨rfl, fun _ => rfl⟩
  have non : ∀ {t : gt_T} {n m : Nat}, gn_tr D kd wi mo nx t true n → gt_isl 9 t = false → nx n = some m → ∃ a s c b, t = .sepBy1 a s c b := fun {t n m} ht h10 hx => by
    cases t with
    | sepBy1 a s c b => exact ⟨a, s, c, b, rfl⟩
    | sepBy a s c b => cases h10
    | _ => rw [(gn_tr_list ht rfl rfl).2] at hx; cases hx
  induction t with
  | sepBy1 a s c b iha ihc =>
    intro t' n ht ht' _ h10'
    obtain ⟨_, h1, h2, m, h3, h4⟩ := ht
    obtain ⟨a', s', c', b', rfl⟩ := non ht' h10' h3
    obtain ⟨_, g1, g2, m', g3, g4⟩ := ht'
    rw [h3] at g3
    cases g3
    obtain ⟨e1, e2⟩ := ihc c' m h4 g4 h2 g2
    refine ⟨?_, fun r => ?_⟩
    · unfold gn_eany
      simp only [h3, e1]
    · unfold gn_sany
      simp only [h3, e2]
  | sepBy a s c b iha ihc => intro t' n _ _ h; cases h
  | _ =>
    intro t' n ht ht' h10 h10'
    have hx := (gn_tr_list ht h10 rfl).2
    have h9' : gt_isl 10 t' = false := by
      cases t' with
      | sepBy1 a s c b =>
        obtain ⟨_, _, _, m, h3, _⟩ := ht'
        rw [hx] at h3
        cases h3
      | _ => first | rfl | (cases h10')
    obtain ⟨e1, e2⟩ := end1 (n := n) h9'
    exact ⟨e1.symm, fun r => (e2 r).symm⟩
/-- what a node gives doesn't hang on how its tree is written -/
theorem gn_emN_same {t t' : gt_T} {n : Nat} (ht : gn_tr D kd wi mo nx t false n) (ht' : gn_tr D kd wi mo nx t' false n) : gn_emN dfn wi nx em t n = gn_emN dfn wi nx em t' n ∧ ∀ r, gn_stN wi nx em st r t n = gn_stN wi nx em st r t' n := by
  have hk := (gn_tr_kd ht).symm.trans (gn_tr_kd ht')
  have key : ∀ t : gt_T, gn_tr D kd wi mo nx t false n → (∃ l hi, t = .cat l hi) ∨ (∃ r, t = .parser r ∧ wi n = gt_nm r) ∨ (∃ r, t = .const r) ∨ (∃ m a, t = .unary m a) ∨ (∃ m k a, t = .node m k a ∧ k < 3) ∨ (∃ m k l a, t = .trailingNode m k l a) ∨ ∃ s k a, t = .nodeWithAntiquot s k a ∧ gn_tr D kd wi mo nx a true (wi n) ∧ (gt_nm k = 9 ∧ gt_isl 10 a = false ∨ gt_nm k = 10 ∧ gt_isl 9 a = false) := fun t ht => by
    cases t with
    | cat l hi => exact .inl ⟨l, hi, rfl⟩
    | parser r => exact .inr (.inl ⟨r, rfl, ht.2.2.2⟩)
    | const r => exact .inr (.inr (.inl ⟨r, rfl⟩))
    | unary m a => exact .inr (.inr (.inr (.inl ⟨m, a, rfl⟩)))
    | node m k a => exact .inr (.inr (.inr (.inr (.inl ⟨m, k, a, rfl, ht.2.2.1⟩))))
    | trailingNode m k l a => exact .inr (.inr (.inr (.inr (.inr (.inl ⟨m, k, l, a, rfl⟩)))))
    | nodeWithAntiquot s k a => exact .inr (.inr (.inr (.inr (.inr (.inr ⟨s, k, a, rfl, ht.2.2.2.1, ht.2.2.2.2⟩)))))
    | sepBy a s c b => cases ht.1
    | sepBy1 a s c b => cases ht.1
    | _ => exact False.elim ht
  rcases key t ht with ⟨l, hi, rfl⟩ | ⟨r, rfl, hw⟩ | ⟨r, rfl⟩ | ⟨m, a, rfl⟩ | ⟨m, k, a, rfl, k3⟩ | ⟨m, k, l, a, rfl⟩ | ⟨s, k, a, rfl, hta, hl⟩ <;>
  rcases key t' ht' with ⟨l', hi', rfl⟩ | ⟨r', rfl, hw'⟩ | ⟨r', rfl⟩ | ⟨m', a', rfl⟩ | ⟨m', k', a', rfl, k3'⟩ | ⟨m', k', l', a', rfl⟩ | ⟨s', k', a', rfl, hta', hl'⟩ <;>
  simp only [gt_kd] at hk <;> first
    | exact ⟨rfl, fun _ => rfl⟩
    | (exfalso; omega)
    | (exfalso; split at hk <;> omega)
    | skip
  · rw [hw] at hw'
    simp only [gn_emN, gn_stN, hw']
    exact ⟨trivial, fun _ => trivial⟩
  · have e : k = k' := by omega
    subst e
    exact ⟨rfl, fun _ => rfl⟩
  · simp only [gn_emN, gn_stN, hk]
    rcases hl with ⟨h9, hl⟩ | ⟨h9, hl⟩
    · rcases hl' with ⟨h9', hl'⟩ | ⟨h9', hl'⟩
      · obtain ⟨e1, e2⟩ := gn_eall_same (em := em) (st := st) a a' _ hta hta' hl hl'
        simp only [if_pos h9', e1, e2]
        exact ⟨trivial, fun _ => trivial⟩
      · omega
    · rcases hl' with ⟨h9', hl'⟩ | ⟨h9', hl'⟩
      · omega
      · obtain ⟨e1, e2⟩ := gn_eany_same (em := em) (st := st) a a' _ hta hta' hl hl'
        simp only [if_neg (show ¬ gt_nm k' = 9 by omega), e1, e2]
        exact ⟨trivial, fun _ => trivial⟩
end GSAME
/-- n is a node of rule r -/
def gm_Dr (S : Nat → Nat → Int32) (r n : Nat) : Prop := 40 * r ≤ n ∧ n < 40 * r + gp_n (S 6 r)
/-- node n of rule r is the tree t -/
abbrev gm_trr (S : Nat → Nat → Int32) (r : Nat) (t : gt_T) (b : Bool) (n : Nat) : Prop := gn_tr (gm_Dr S r) (fun n => gp_n (S 7 n)) (fun n => gp_n (S 8 n)) (fun n => gp_n (S 9 n)) (gm_nx S) t b n
/-- the model's rules are R -/
def gm_gr (S : Nat → Nat → Int32) (R : Nat → Option gt_T) : Prop := (∀ r, r < 4 → S 3 r = gp_b (R r).isSome) ∧ (∀ r, r < 4 → gp_n (S 6 r) ≤ 40) ∧
  ∀ r t, R r = some t → r < 4 ∧ (∀ k, gt_nms t k = true → k < 4) ∧ gt_sz t ≤ 20 ∧ gm_trr S r t false (40 * r) ∧ ∀ n, gm_Dr S r n → ∃ t', gm_trr S r t' false n ∧ (∀ k, gt_nms t' k = true → gt_nms t k = true) ∧ ∀ E, gt_grd E t' = true → gt_grd E t = true
section GME
variable {S : Nat → Nat → Int32} {R : Nat → Option gt_T}
theorem gm_gr_dfn (h : gm_gr S R) (r : Nat) : gm_dfn S r = (R r).isSome := by
  by_cases hr : r < 4
  · have h1 := h.1 r hr
    cases h2 : (R r).isSome with
    | true => rw [h2] at h1; simp [hr, h1, gp_b]
    | false => rw [h2] at h1; simp [h1, gp_b]
  · cases h2 : R r with
    | none => simp [hr]
    | some t => exact absurd (h.2.2 r t h2).1 hr
theorem gm_gr_S3 (h : gm_gr S R) : ∀ r, r < 4 → S 3 r = gp_b (gm_dfn S r) := fun r hr => by rw [gm_gr_dfn h r]; exact h.1 r hr
theorem gm_gr_wf (h : gm_gr S R) : gt_wf R := fun r t ht => ⟨(h.2.2 r t ht).1, (h.2.2 r t ht).2.1⟩
theorem gm_Dr_D (h : gm_gr S R) {r : Nat} {t : gt_T} (ht : R r = some t) : ∀ n, gm_Dr S r n → gm_D S n := fun n hn => by
  have hr := (h.2.2 r t ht).1
  have h40 := h.2.1 r hr
  obtain ⟨h1, h2⟩ := hn
  have e : n / 40 = r := by omega
  refine ⟨by omega, ?_, ?_⟩
  · rw [e, gm_gr_dfn h, ht]; rfl
  · rw [e]; omega
theorem gm_D_Dr (h : gm_gr S R) {n : Nat} (hn : gm_D S n) : ∃ r t, r < 4 ∧ R r = some t ∧ gm_Dr S r n := by
  obtain ⟨h1, h2, h3⟩ := hn
  rw [gm_gr_dfn h] at h2
  cases ht : R (n / 40) with
  | none => rw [ht] at h2; cases h2
  | some t => exact ⟨n / 40, t, by omega, ht, by omega, by omega⟩
theorem gm_trr_tr (h : gm_gr S R) {r : Nat} {t : gt_T} (ht : R r = some t) {t' : gt_T} {b : Bool} {n : Nat} (h' : gm_trr S r t' b n) : gm_tr S t' b n := gn_tr_mono (gm_Dr_D h ht) t' b n h'
theorem gm_gr_rts (h : gm_gr S R) : gn_rts R (gm_D S) (fun n => gp_n (S 7 n)) (fun n => gp_n (S 8 n)) (fun n => gp_n (S 9 n)) (gm_nx S) (gm_dfn S) := ⟨fun r => by
  rw [gm_gr_dfn h]
  exact Option.isSome_iff_exists, fun r t ht => gm_trr_tr h ht (h.2.2 r t ht).2.2.2.1⟩
theorem gm_gr_node (h : gm_gr S R) {n : Nat} (hn : gm_D S n) : ∃ t, gm_tr S t false n ∧ ∀ k, gt_nms t k = true → k < 4 := by
  obtain ⟨r, t, hr, ht, hD⟩ := gm_D_Dr h hn
  obtain ⟨t', h1, h2, _⟩ := (h.2.2 r t ht).2.2.2.2 n hD
  exact ⟨t', gm_trr_tr h ht h1, fun k hk => (h.2.2 r t ht).2.1 k (h2 k hk)⟩
/-- alike but for some rows -/
def gm_eqr (l : List Nat) (S S' : Nat → Nat → Int32) : Prop := ∀ k, k ∉ l → S' k = S k
theorem gm_eqr.refl {l : List Nat} : gm_eqr l S S := fun _ _ => rfl
theorem gm_eqr.u {l : List Nat} {S' : Nat → Nat → Int32} (h : gm_eqr l S S') {k : Nat} (hk : k ∈ l) (j : Nat) (v : Int32) : gm_eqr l S (gm_u S' k j v) := fun k' hk' => by
  rw [gm_u_row S' j v (fun e => hk' (by rw [e]; exact hk))]
  exact h k' hk'
theorem gm_eqr_tr {l : List Nat} {S' : Nat → Nat → Int32} (h : gm_eqr l S S') (h3 : 3 ∉ l) (h6 : 6 ∉ l) (h7 : 7 ∉ l) (h8 : 8 ∉ l) (h9 : 9 ∉ l) (h10 : 10 ∉ l) : gm_tr S' = gm_tr S ∧ gm_trr S' = gm_trr S ∧ gm_dfn S' = gm_dfn S ∧ gm_nx S' = gm_nx S ∧ gm_D S' = gm_D S ∧ gm_Dr S' = gm_Dr S := by
  have e3 := h 3 h3
  have e6 := h 6 h6
  have e7 := h 7 h7
  have e8 := h 8 h8
  have e9 := h 9 h9
  have e10 := h 10 h10
  have a1 : gm_dfn S' = gm_dfn S := by funext r; unfold gm_dfn; rw [e3]
  have a2 : gm_nx S' = gm_nx S := by funext r; unfold gm_nx; rw [e10]
  have a3 : gm_D S' = gm_D S := by funext r; unfold gm_D; rw [a1, e6]
  have a4 : gm_Dr S' = gm_Dr S := by funext r n; unfold gm_Dr; rw [e6]
  refine ⟨?_, ?_, a1, a2, a3, a4⟩
  · funext t b n
    unfold gm_tr
    rw [a3, a2, e7, e8, e9]
  · funext r t b n
    unfold gm_trr
    rw [a4, a2, e7, e8, e9]
theorem gm_eqr_gr {l : List Nat} {S' : Nat → Nat → Int32} (h : gm_eqr l S S') (h3 : 3 ∉ l) (h6 : 6 ∉ l) (h7 : 7 ∉ l) (h8 : 8 ∉ l) (h9 : 9 ∉ l) (h10 : 10 ∉ l) (hg : gm_gr S R) : gm_gr S' R := by
  obtain ⟨a1, a2, _, _, _, a6⟩ := gm_eqr_tr h h3 h6 h7 h8 h9 h10
  unfold gm_gr at hg ⊢
  rw [a2, a6, h 3 h3, h 6 h6]
  exact hg
-- counting what is still to be found
def gp_ct (f : Nat → Nat) : Nat → Nat
  | 0 => 0
  | n + 1 => gp_ct f n + f n
theorem gp_ct_le {f g : Nat → Nat} (h : ∀ n, f n ≤ g n) : ∀ N, gp_ct f N ≤ gp_ct g N
  | 0 => Nat.le_refl _
  | N + 1 => Nat.add_le_add (gp_ct_le h N) (h N)
theorem gp_ct_lt {f g : Nat → Nat} (h : ∀ n, f n ≤ g n) {k : Nat} (hk : f k < g k) : ∀ N, k < N → gp_ct f N < gp_ct g N
  | 0, h0 => absurd h0 (Nat.not_lt_zero _)
  | N + 1, h0 => by
    have h1 := h N
    have e1 : gp_ct f (N + 1) = gp_ct f N + f N := rfl
    have e2 : gp_ct g (N + 1) = gp_ct g N + g N := rfl
    by_cases e : k = N
    · subst e
      have := gp_ct_le h k
      omega
    · have := gp_ct_lt h hk N (by omega)
      omega
def gm_mu (em : Nat → Bool) (st : Nat → Nat → Bool) : Nat := gp_ct (fun n => (1 - (em n).toNat) + (4 - gt_cnt (st n))) 160
/-- what holds in work's rounds -/
def gm_W (R : Nat → Option gt_T) (S0 S : Nat → Nat → Int32) (em : Nat → Bool) (st : Nat → Nat → Bool) : Prop :=
  gm_eqr [12, 13, 14] S0 S ∧ (∀ n, n < 160 → S 12 n = gp_b (em n)) ∧ (∀ n, n < 160 → S 13 n = gp_m (st n)) ∧ gn_eS R (gm_D S0) (fun n => gp_n (S0 7 n)) (fun n => gp_n (S0 8 n)) (fun n => gp_n (S0 9 n)) (gm_nx S0) em ∧
  ∀ t n, gm_tr S0 t false n → (em n = true → gn_emN (gm_dfn S0) (fun n => gp_n (S0 8 n)) (gm_nx S0) em t n = true) ∧ ∀ r, st n r = true → gn_stN (fun n => gp_n (S0 8 n)) (gm_nx S0) em st r t n = true
/-- at node n nothing changes -/
def gm_Wn (S0 : Nat → Nat → Int32) (em : Nat → Bool) (st : Nat → Nat → Bool) (n : Nat) : Prop := ∀ t, gm_tr S0 t false n → em n = gn_emN (gm_dfn S0) (fun n => gp_n (S0 8 n)) (gm_nx S0) em t n ∧ ∀ r, r < 4 → st n r = gn_stN (fun n => gp_n (S0 8 n)) (gm_nx S0) em st r t n
theorem gp_nar_b (b : Bool) : vp_nar .boolean (gp_b b) = gp_b b := by cases b <;> rfl
theorem gt_cnt_mono {v w : Nat → Bool} (h : ∀ k, v k = true → w k = true) : gt_cnt v ≤ gt_cnt w := by
  have aux : ∀ j, (v j).toNat ≤ (w j).toNat := fun j => by
    cases hj : v j with
    | false => exact Nat.zero_le _
    | true => rw [h j hj]; exact Nat.le_refl _
  have := aux 0
  have := aux 1
  have := aux 2
  have := aux 3
  unfold gt_cnt
  omega
end GME
