/-! The model's findEnds. -/
section GSAM2
variable {D : Nat → Prop} {kd wi mo : Nat → Nat} {nx : Nat → Option Nat} {dfn : Nat → Bool} {L : Nat} {x : Nat → Nat} {tab : Nat → Nat → Option (Option Nat)}
theorem gn_sq_same (t : gt_T) : ∀ (t' : gt_T) (n p : Nat), gn_tr D kd wi mo nx t true n → gn_tr D kd wi mo nx t' true n → gt_isl 10 t = false → gt_isl 10 t' = false → gn_sq nx tab t n p = gn_sq nx tab t' n p := by
  have end1 : ∀ {t : gt_T} {n p : Nat}, gt_isl 9 t = false → gn_sq nx tab t n p = tab n p := fun {t n p} h => by
    cases t with
    | sepBy a s c b => cases h
    | _ => rfl
  have non : ∀ {t : gt_T} {n m : Nat}, gn_tr D kd wi mo nx t true n → gt_isl 10 t = false → nx n = some m → ∃ a s c b, t = .sepBy a s c b := fun {t n m} ht h10 hx => by
    cases t with
    | sepBy a s c b => exact ⟨a, s, c, b, rfl⟩
    | sepBy1 a s c b => cases h10
    | _ => rw [(gn_tr_list ht rfl rfl).2] at hx; cases hx
  induction t with
  | sepBy a s c b iha ihc =>
    intro t' n p ht ht' _ h10'
    obtain ⟨_, h1, h2, m, h3, h4⟩ := ht
    obtain ⟨a', s', c', b', rfl⟩ := non ht' h10' h3
    obtain ⟨_, g1, g2, m', g3, g4⟩ := ht'
    rw [h3] at g3
    cases g3
    unfold gn_sq
    simp only [h3, fun q => ihc c' m q h4 g4 h2 g2]
  | sepBy1 a s c b iha ihc => intro t' n p _ _ h; cases h
  | _ =>
    intro t' n p ht ht' h10 h10'
    have hx := (gn_tr_list ht rfl h10).2
    have h9' : gt_isl 9 t' = false := by
      cases t' with
      | sepBy a s c b =>
        obtain ⟨_, _, _, m, h3, _⟩ := ht'
        rw [hx] at h3
        cases h3
      | _ => first | rfl | (cases h10')
    exact (end1 h9').symm
theorem gn_cs_same (t : gt_T) : ∀ (t' : gt_T) (n p : Nat), gn_tr D kd wi mo nx t true n → gn_tr D kd wi mo nx t' true n → gt_isl 9 t = false → gt_isl 9 t' = false → gn_cs nx tab t n p = gn_cs nx tab t' n p := by
  have end1 : ∀ {t : gt_T} {n p : Nat}, gt_isl 10 t = false → gn_cs nx tab t n p = tab n p := fun {t n p} h => by
    cases t with
    | sepBy1 a s c b => cases h
    | _ => rfl
  have non : ∀ {t : gt_T} {n m : Nat}, gn_tr D kd wi mo nx t true n → gt_isl 9 t = false → nx n = some m → ∃ a s c b, t = .sepBy1 a s c b := fun {t n m} ht h10 hx => by
    cases t with
    | sepBy1 a s c b => exact ⟨a, s, c, b, rfl⟩
    | sepBy a s c b => cases h10
    | _ => rw [(gn_tr_list ht rfl rfl).2] at hx; cases hx
  induction t with
  | sepBy1 a s c b iha ihc =>
    intro t' n p ht ht' _ h10'
    obtain ⟨_, h1, h2, m, h3, h4⟩ := ht
    obtain ⟨a', s', c', b', rfl⟩ := non ht' h10' h3
    obtain ⟨_, g1, g2, m', g3, g4⟩ := ht'
    rw [h3] at g3
    cases g3
    unfold gn_cs
    simp only [h3, fun q => ihc c' m q h4 g4 h2 g2]
  | sepBy a s c b iha ihc => intro t' n p _ _ h; cases h
  | _ =>
    intro t' n p ht ht' h10 h10'
    have hx := (gn_tr_list ht h10 rfl).2
    have h9' : gt_isl 10 t' = false := by
      cases t' with
      | sepBy1 a s c b =>
        obtain ⟨_, _, _, m, h3, _⟩ := ht'
        rw [hx] at h3
        cases h3
      | _ => first | rfl | (cases h10')
    exact (end1 h9').symm
theorem gn_now_same (hx : ∀ p, p < L → x p ≤ 126) {t t' : gt_T} {n p : Nat} (ht : gn_tr D kd wi mo nx t false n) (ht' : gn_tr D kd wi mo nx t' false n) : gn_now L x dfn wi nx tab t n p = gn_now L x dfn wi nx tab t' n p := by
  have hk := (gn_tr_kd ht).symm.trans (gn_tr_kd ht')
  have key : ∀ t : gt_T, gn_tr D kd wi mo nx t false n → (∃ l hi, t = .cat l hi ∧ wi n = gt_nm l ∧ (mo n = hi ∨ (hi = 255 ∧ mo n = 127))) ∨ (∃ r, t = .parser r ∧ wi n = gt_nm r) ∨ (∃ r, t = .const r) ∨ (∃ m a, t = .unary m a) ∨ (∃ m k a, t = .node m k a ∧ k < 3) ∨ (∃ m k l a, t = .trailingNode m k l a) ∨ ∃ s k a, t = .nodeWithAntiquot s k a ∧ gn_tr D kd wi mo nx a true (wi n) ∧ (gt_nm k = 9 ∧ gt_isl 10 a = false ∨ gt_nm k = 10 ∧ gt_isl 9 a = false) := fun t ht => by
    cases t with
    | cat l hi => exact .inl ⟨l, hi, rfl, ht.2.2.2.1, ht.2.2.2.2.1⟩
    | parser r => exact .inr (.inl ⟨r, rfl, ht.2.2.2⟩)
    | const r => exact .inr (.inr (.inl ⟨r, rfl⟩))
    | unary m a => exact .inr (.inr (.inr (.inl ⟨m, a, rfl⟩)))
    | node m k a => exact .inr (.inr (.inr (.inr (.inl ⟨m, k, a, rfl, ht.2.2.1⟩))))
    | trailingNode m k l a => exact .inr (.inr (.inr (.inr (.inr (.inl ⟨m, k, l, a, rfl⟩)))))
    | nodeWithAntiquot s k a => exact .inr (.inr (.inr (.inr (.inr (.inr ⟨s, k, a, rfl, ht.2.2.2.1, ht.2.2.2.2⟩)))))
    | sepBy a s c b => cases ht.1
    | sepBy1 a s c b => cases ht.1
    | _ => exact False.elim ht
  rcases key t ht with ⟨l, hi, rfl, hw, hmo⟩ | ⟨r, rfl, hw⟩ | ⟨r, rfl⟩ | ⟨m, a, rfl⟩ | ⟨m, k, a, rfl, k3⟩ | ⟨m, k, l, a, rfl⟩ | ⟨s, k, a, rfl, hta, hl⟩ <;>
  rcases key t' ht' with ⟨l', hi', rfl, hw', hmo'⟩ | ⟨r', rfl, hw'⟩ | ⟨r', rfl⟩ | ⟨m', a', rfl⟩ | ⟨m', k', a', rfl, k3'⟩ | ⟨m', k', l', a', rfl⟩ | ⟨s', k', a', rfl, hta', hl'⟩ <;>
  simp only [gt_kd] at hk <;> first
    | (exfalso; omega)
    | (exfalso; split at hk <;> omega)
    | skip
  · have e1 : gt_nm l = gt_nm l' := by omega
    have e2 : (p < L ∧ gt_nm l ≤ x p ∧ x p ≤ hi) ↔ (p < L ∧ gt_nm l' ≤ x p ∧ x p ≤ hi') := by
      constructor
      · rintro ⟨h1, h2, h3⟩
        have := hx p h1
        exact ⟨h1, by omega, by omega⟩
      · rintro ⟨h1, h2, h3⟩
        have := hx p h1
        exact ⟨h1, by omega, by omega⟩
    simp only [gn_now, e2]
  · rw [hw] at hw'
    simp only [gn_now, hw']
  · rfl
  · rfl
  · have e : k = k' := by omega
    subst e
    rfl
  · have e : (k == 1) = (k' == 1) := by
      by_cases h1 : k = 1
      · by_cases h2 : k' = 1
        · rw [h1, h2]
        · rw [if_pos h1, if_neg h2] at hk; omega
      · by_cases h2 : k' = 1
        · rw [if_neg h1, if_pos h2] at hk; omega
        · rw [beq_false_of_ne h1, beq_false_of_ne h2]
    simp only [gn_now, e]
  · simp only [gn_now, hk]
    rcases hl with ⟨h9, hl⟩ | ⟨h9, hl⟩
    · rcases hl' with ⟨h9', hl'⟩ | ⟨h9', hl'⟩
      · rw [if_pos h9', if_pos h9']
        exact gn_sq_same a a' _ p hta hta' hl hl'
      · omega
    · rcases hl' with ⟨h9', hl'⟩ | ⟨h9', hl'⟩
      · omega
      · rw [if_neg (show ¬ gt_nm k' = 9 by omega), if_neg (show ¬ gt_nm k' = 9 by omega)]
        exact gn_cs_same a a' _ p hta hta' hl hl'
end GSAM2
section GMJ
variable {S S0 : Nat → Nat → Int32} {R : Nat → Option gt_T} {d bc bs : Nat} {Q : gx_R → Prop} {L : Nat} {x : Nat → Nat} {tab : Nat → Nat → Option (Option Nat)} {Em : Nat → Bool} {A : Nat → Prop} {o : Nat → Nat}
/-- how many ends are open -/
def gm_op (tab : Nat → Nat → Option (Option Nat)) : Nat := gp_ct (fun k => if tab (k / 13) (k % 13) = none then 1 else 0) 2080
/-- what holds in findEnds' rounds -/
def gm_F (R : Nat → Option gt_T) (L : Nat) (x : Nat → Nat) (Em : Nat → Bool) (A : Nat → Prop) (S0 S : Nat → Nat → Int32) (tab : Nat → Nat → Option (Option Nat)) : Prop :=
  gm_eqr [20] S0 S ∧ gm_tab S L tab ∧ gn_snd L x (gt_Ed L x R) Em A (gm_D S0) (fun n => gp_n (S0 7 n)) (fun n => gp_n (S0 8 n)) (fun n => gp_n (S0 9 n)) (gm_nx S0) tab
/-- at node n and place p nothing is found -/
def gm_Fn (L : Nat) (x : Nat → Nat) (S0 : Nat → Nat → Int32) (tab : Nat → Nat → Option (Option Nat)) (n p : Nat) : Prop := ∀ t, gm_tr S0 t false n → tab n p = none → gn_now L x (gm_dfn S0) (fun n => gp_n (S0 8 n)) (gm_nx S0) tab t n p = none
/-- one end is found -/
def gp_at2 (tab : Nat → Nat → Option (Option Nat)) (n p : Nat) (v : Option (Option Nat)) : Nat → Nat → Option (Option Nat) := fun n' p' => if n' = n ∧ p' = p then v else tab n' p'
theorem gm_F_up (hgood : gt_good R Em A o) (hg : gm_gr S0 R) (hx : gm_tx S0 L x) (h : gm_F R L x Em A S0 S tab) {n p : Nat} (hp : p ≤ L) {t : gt_T} (ht : gm_tr S0 t false n) (ho : tab n p = none) {v : Option (Option Nat)} (hv : v = gn_now L x (gm_dfn S0) (fun n => gp_n (S0 8 n)) (gm_nx S0) tab t n p) :
    gm_F R L x Em A S0 (gm_u S 20 (13 * n + p) (gp_e v)) (gp_at2 tab n p v) ∧ gm_op (gp_at2 tab n p v) ≤ gm_op tab ∧ (v ≠ none → gm_op (gp_at2 tab n p v) < gm_op tab) := by
  obtain ⟨h1, ⟨h2, h3, h9⟩, h4⟩ := h
  have hn := gm_tr_lt ht
  have hle : ∀ k, (if gp_at2 tab n p v (k / 13) (k % 13) = none then 1 else 0) ≤ (if tab (k / 13) (k % 13) = none then 1 else 0) := fun k => by
    by_cases hk : k / 13 = n ∧ k % 13 = p
    · rw [hk.1, hk.2, if_pos ho]
      split <;> omega
    · have e : gp_at2 tab n p v (k / 13) (k % 13) = tab (k / 13) (k % 13) := if_neg hk
      rw [e]
      exact Nat.le_refl _
  refine ⟨⟨h1.u (by simp) _ _, ⟨fun n' p' hn' hp' => ?_, fun n' p' q hp' hq => ?_, h9⟩, fun t' n' p' w ht' hnd hp' hw => ?_⟩, gp_ct_le hle _, fun hne => gp_ct_lt hle (k := 13 * n + p) ?_ _ (by omega)⟩
  · rw [gm_u_at]
    by_cases hk : n' = n ∧ p' = p
    · rw [if_pos ⟨rfl, by omega⟩, gp_at2, if_pos hk]
    · rw [if_neg (by omega), gp_at2, if_neg hk]
      exact h2 n' p' hn' hp'
  · unfold gp_at2 at hq
    split at hq
    · rename_i hk
      rw [hk.2]
      rw [hv] at hq
      exact gn_now_rng h3 hp hq
    · exact h3 n' p' q hp' hq
  · unfold gp_at2 at hw
    split at hw
    · rename_i hk
      obtain ⟨rfl, rfl⟩ := hk
      rw [hv, gn_now_same (fun p hp => (hx.2.2 p hp).2) ht ht'] at hw
      exact gn_now_snd h4 (gt_Ed_ok hgood) h9 (gn_root hgood h9 (fun r t _ ht => (gm_gr_rts hg).2 r t ht) h4) ht' hnd hp' hw
    · exact h4 t' n' p' w ht' hnd hp' hw
  · have e1 : (13 * n + p) / 13 = n := by omega
    have e2 : (13 * n + p) % 13 = p := by omega
    have e3 : gp_at2 tab n p v n p = v := if_pos ⟨rfl, rfl⟩
    rw [e1, e2, e3, if_neg hne, if_pos ho]
    exact Nat.one_pos
/-- one cell's turn -/
theorem gm_fe_cell (hgood : gt_good R Em A o) (hg : gm_gr S0 R) (hx : gm_tx S0 L x) (h : gm_F R L x Em A S0 S tab) {n p : Nat} (hn : n < 160) (hp : p ≤ L) {more : Bool} {M : Nat} (hM1 : more = true → gm_op tab < M) (hM0 : more = false → gm_op tab = M)
    (K : ∀ (S' : Nat → Nat → Int32) (tab' : Nat → Nat → Option (Option Nat)) (more' : Bool), gm_F R L x Em A S0 S' tab' → (more' = true → gm_op tab' < M) → (more' = false → more = false ∧ tab' = tab ∧ gm_Fn L x S0 tab n p) → gx_X gm_P (d + 3) 33 (115, [some (.ref 0), some (.int (gp_b more')), some (.int (nI p)), some (.int (nI n))], [], gm_h S', bc, bs) Q) :
    gx_X gm_P (d + 3) 33 (44, [some (.ref 0), some (.int (gp_b more)), some (.int (nI p)), some (.int (nI n))], [], gm_h S, bc, bs) Q := by
  obtain ⟨h1, htab, h4⟩ := id h
  obtain ⟨h2, h3, h9⟩ := id htab
  obtain ⟨a1, a2, a3, a4, a5, a6⟩ := gm_eqr_tr h1 (by simp) (by simp) (by simp) (by simp) (by simp) (by simp)
  have hgS : gm_gr S R := gm_eqr_gr h1 (by simp) (by simp) (by simp) (by simp) (by simp) (by simp) hg
  have hxS : gm_tx S L x := by
    unfold gm_tx at hx ⊢
    rw [h1 0 (by simp), h1 2 (by simp)]
    exact hx
  have e8 : S 8 = S0 8 := h1 8 (by simp)
  obtain ⟨g1, g2, g3⟩ := gp_13 hn (show p < 13 by omega)
  refine gb_findEnds_44 ⟨fun h => absurd h (nI_pos (by omega)), fun _ => gm_isNode hgS.2.1 (gm_gr_S3 hgS) (by omega) (fun b hb => ?_)⟩
  rw [a5] at hb
  cases hbb : b with
  | false =>
    have hno : ¬ gm_D S0 n := fun hD => by
      have := hb.mpr hD
      rw [hbb] at this
      cases this
    exact gb_findEnds_53 ⟨fun _ => K S tab more h hM1 (fun hm => ⟨hm, rfl, fun t ht => absurd (gn_tr_D t _ _ ht) hno⟩), fun h => absurd rfl h⟩
  | true =>
    have hD : gm_D S0 n := hb.mp hbb
    obtain ⟨t, ht, hnm⟩ := gm_gr_node hg hD
    have htS : gm_tr S t false n := by rw [a1]; exact ht
    refine gb_findEnds_53 ⟨fun h => absurd h (by decide), fun _ => ?_⟩
    rw [g1, g2, h2 n p hn hp]
    refine ⟨g3, fun hne => K S tab more h hM1 (fun hm => ⟨hm, rfl, fun t' ht' h0 => ?_⟩), fun heq => ?_⟩
    · rw [h0] at hne
      exact absurd rfl hne
    · have ho : tab n p = none := by
        cases h5 : tab n p with
        | none => rfl
        | some v =>
          rw [h5] at heq
          cases v with
          | none => exact absurd heq (by decide)
          | some q =>
            have := h3 n p q hp h5
            have h0 := nI_pos (n := q) (by omega)
            have heq : nI q = -2 := heq
            rw [heq] at h0
            exact absurd (by decide) h0
      refine gm_endNow (gm_gr_S3 hgS) htab hxS htS hnm hp ?_
      have eN : gn_now L x (gm_dfn S) (fun n => gp_n (S 8 n)) (gm_nx S) tab t n p = gn_now L x (gm_dfn S0) (fun n => gp_n (S0 8 n)) (gm_nx S0) tab t n p := by rw [a3, a4, e8]
      rw [eN]
      obtain ⟨u1, u2, u3⟩ := gm_F_up hgood hg hx h hp ht ho rfl
      refine gb_findEnds_88 ?_
      rw [g1, g2]
      have eu : upd (S 20) (13 * n + p) (gp_e (gn_now L x (gm_dfn S0) (fun n => gp_n (S0 8 n)) (gm_nx S0) tab t n p)) (13 * n + p) = gp_e (gn_now L x (gm_dfn S0) (fun n => gp_n (S0 8 n)) (gm_nx S0) tab t n p) := by simp [upd]
      rw [eu]
      have e20 : gp_e (gn_now L x (gm_dfn S0) (fun n => gp_n (S0 8 n)) (gm_nx S0) tab t n p) = -2 ↔ gn_now L x (gm_dfn S0) (fun n => gp_n (S0 8 n)) (gm_nx S0) tab t n p = none := by
        cases h5 : gn_now L x (gm_dfn S0) (fun n => gp_n (S0 8 n)) (gm_nx S0) tab t n p with
        | none => exact ⟨fun _ => rfl, fun _ => rfl⟩
        | some v =>
          refine ⟨fun heq => ?_, fun h => by cases h⟩
          cases v with
          | none => exact absurd heq (by decide)
          | some q =>
            have := gn_now_rng h3 hp h5
            have h0 := nI_pos (n := q) (by omega)
            have heq : nI q = -2 := heq
            rw [heq] at h0
            exact absurd (by decide) h0
      refine ⟨g3, fun hm => gb_findEnds_109 (gb_findEnds_114 (K _ _ true u1 (fun _ => ?_) (fun h => by cases h))), fun hm => ⟨g3, fun h0 => gb_findEnds_114 ?_, fun h0 => gb_findEnds_109 (gb_findEnds_114 (K _ _ true u1 (fun _ => ?_) (fun h => by cases h)))⟩⟩
      · have hmo : more = true := by
          cases hmo : more with
          | true => rfl
          | false => rw [hmo] at hm; exact absurd rfl hm
        have := hM1 hmo
        omega
      · have hn0 := e20.mp h0
        have hmo : more = false := (gp_b_0 _).mp hm
        rw [hn0] at u1 ⊢
        have e : gp_at2 tab n p none = tab := by
          funext n' p'
          unfold gp_at2
          split
          · rename_i hk
            rw [hk.1, hk.2, ho]
          · rfl
        rw [e] at u1
        refine K _ tab false u1 (fun h => by cases h) (fun _ => ⟨hmo, rfl, fun t' ht' _ => ?_⟩)
        rw [gn_now_same (fun p hp => (hx.2.2 p hp).2) ht' ht]
        exact hn0
      · have := u3 (fun h => h0 (e20.mpr h))
        have hmo : more = false := (gp_b_0 _).mp hm
        have := hM0 hmo
        omega
/-- the nodes at one place -/
theorem gm_fe_nodes (hgood : gt_good R Em A o) (hg : gm_gr S0 R) (hx : gm_tx S0 L x) {p : Nat} (hp : p ≤ L) {M : Nat}
    (K : ∀ (S' : Nat → Nat → Int32) (tab' : Nat → Nat → Option (Option Nat)) (more' : Bool) (o3 : Option Value), gm_F R L x Em A S0 S' tab' → (more' = true → gm_op tab' < M) → (more' = false → gm_op tab' = M ∧ ∀ n p', p ≤ p' → p' ≤ L → n < 160 → gm_Fn L x S0 tab' n p') → gx_X gm_P (d + 3) 33 (36, [some (.ref 0), some (.int (gp_b more')), some (.int (nI p + -1)), o3], [], gm_h S', bc, bs) Q) :
    ∀ (j : Nat) (S : Nat → Nat → Int32) (tab : Nat → Nat → Option (Option Nat)) (more : Bool), j ≤ 160 → gm_F R L x Em A S0 S tab → (more = true → gm_op tab < M) → (more = false → gm_op tab = M ∧ (∀ n p', p < p' → p' ≤ L → n < 160 → gm_Fn L x S0 tab n p') ∧ ∀ n, j ≤ n → n < 160 → gm_Fn L x S0 tab n p) →
    gx_X gm_P (d + 3) 33 (44, [some (.ref 0), some (.int (gp_b more)), some (.int (nI p)), some (.int (nI j + -1))], [], gm_h S, bc, bs) Q
  | 0, S, tab, more, hj, hF, h1, h0 => by
    refine gb_findEnds_44 ⟨fun _ => K S tab more _ hF h1 (fun hm => ⟨(h0 hm).1, fun n p' hp1 hp2 hn => ?_⟩), fun h => absurd (by decide) h⟩
    by_cases e : p' = p
    · subst e
      exact (h0 hm).2.2 n (Nat.zero_le _) hn
    · exact (h0 hm).2.1 n p' (by omega) hp2 hn
  | j + 1, S, tab, more, hj, hF, h1, h0 => by
    rw [show nI (j + 1) + -1 = nI j from pk_m1 j]
    refine gm_fe_cell hgood hg hx hF (by omega) hp h1 (fun hm => (h0 hm).1) (fun S' tab' more' hF' h1' h0' => gb_findEnds_115 ?_)
    refine gm_fe_nodes hgood hg hx hp K j S' tab' more' (by omega) hF' h1' (fun hm => ?_)
    obtain ⟨k1, rfl, k3⟩ := h0' hm
    refine ⟨(h0 k1).1, (h0 k1).2.1, fun n hn1 hn2 => ?_⟩
    by_cases e : n = j
    · subst e; exact k3
    · exact (h0 k1).2.2 n (by omega) hn2
/-- a round -/
theorem gm_fe_round (hgood : gt_good R Em A o) (hg : gm_gr S0 R) (hx : gm_tx S0 L x) {M : Nat}
    (K1 : ∀ (S' : Nat → Nat → Int32) (tab' : Nat → Nat → Option (Option Nat)) (o2 o3 : Option Value), gm_F R L x Em A S0 S' tab' → gm_op tab' < M → gx_X gm_P (d + 3) 33 (25, [some (.ref 0), some (.int 1), o2, o3], [], gm_h S', bc, bs) Q)
    (K0 : ∀ (S' : Nat → Nat → Int32) (tab' : Nat → Nat → Option (Option Nat)) (o2 o3 : Option Value), gm_F R L x Em A S0 S' tab' → (∀ n p, p ≤ L → n < 160 → gm_Fn L x S0 tab' n p) → gx_X gm_P (d + 3) 33 (25, [some (.ref 0), some (.int 0), o2, o3], [], gm_h S', bc, bs) Q) :
    ∀ (j : Nat) (S : Nat → Nat → Int32) (tab : Nat → Nat → Option (Option Nat)) (more : Bool) (o3 : Option Value), j ≤ L + 1 → gm_F R L x Em A S0 S tab → (more = true → gm_op tab < M) → (more = false → gm_op tab = M ∧ ∀ n p', j ≤ p' → p' ≤ L → n < 160 → gm_Fn L x S0 tab n p') →
    gx_X gm_P (d + 3) 33 (36, [some (.ref 0), some (.int (gp_b more)), some (.int (nI j + -1)), o3], [], gm_h S, bc, bs) Q
  | 0, S, tab, more, o3, hj, hF, h1, h0 => by
    refine gb_findEnds_36 ⟨fun _ => ?_, fun h => absurd (by decide) h⟩
    cases hm : more with
    | true => exact K1 S tab _ _ hF (h1 hm)
    | false => exact K0 S tab _ _ hF (fun n p hp hn => (h0 hm).2 n p (Nat.zero_le _) hp hn)
  | j + 1, S, tab, more, o3, hj, hF, h1, h0 => by
    have h9 := hF.2.1.2.2
    rw [show nI (j + 1) + -1 = nI j from pk_m1 j]
    refine gb_findEnds_36 ⟨fun h => absurd h (nI_pos (by omega)), fun _ => ?_⟩
    rw [show (159 : Int32) = nI 160 + -1 by decide +kernel]
    refine gm_fe_nodes hgood hg hx (p := j) (by omega) (M := M) (fun S' tab' more' o3' hF' h1' h0' => gm_fe_round hgood hg hx K1 K0 j S' tab' more' o3' (by omega) hF' h1' h0') 160 S tab more (Nat.le_refl _) hF h1 (fun hm => ⟨(h0 hm).1, fun n p' hp1 hp2 hn => (h0 hm).2 n p' (by omega) hp2 hn, fun n hn1 hn2 => absurd hn1 (Nat.not_le.mpr hn2)⟩)
theorem gm_fe_rounds (hgood : gt_good R Em A o) (hg : gm_gr S0 R) (hx : gm_tx S0 L x)
    (K0 : ∀ (S' : Nat → Nat → Int32) (tab' : Nat → Nat → Option (Option Nat)) (o2 o3 : Option Value), gm_F R L x Em A S0 S' tab' → (∀ n p, p ≤ L → n < 160 → gm_Fn L x S0 tab' n p) → gx_X gm_P (d + 3) 33 (25, [some (.ref 0), some (.int 0), o2, o3], [], gm_h S', bc, bs) Q) :
    ∀ (M : Nat) (S : Nat → Nat → Int32) (tab : Nat → Nat → Option (Option Nat)) (o2 o3 : Option Value), gm_F R L x Em A S0 S tab → gm_op tab < M → gx_X gm_P (d + 3) 33 (25, [some (.ref 0), some (.int 1), o2, o3], [], gm_h S, bc, bs) Q := by
  intro M
  induction M with
  | zero => exact fun S tab o2 o3 hF hM => absurd hM (Nat.not_lt_zero _)
  | succ M ih =>
    intro S tab o2 o3 hF hM
    refine gb_findEnds_25 ⟨fun h => absurd h (by decide), fun _ => ?_⟩
    rw [hF.1 0 (by simp), hx.1, ← pk_m1 L]
    generalize hmu : gm_op tab = M0 at hM
    exact gm_fe_round hgood hg hx (M := M0) (fun S' tab' o2 o3 hF' hM' => ih S' tab' o2 o3 hF' (Nat.lt_of_lt_of_le hM' (Nat.le_of_lt_succ hM))) K0 (L + 1) S tab false o3 (Nat.le_refl _) hF (fun h => by cases h) (fun _ => ⟨hmu, fun n p h1 h2 => absurd h1 (Nat.not_le.mpr (Nat.lt_succ_of_le h2))⟩)
theorem gm_fe_clear (K : ∀ (S' : Nat → Nat → Int32) (o2 o3 : Option Value), gm_eqr [20] S0 S' → (∀ n, n < 2600 → S' 20 n = -2) → gx_X gm_P (d + 1) 33 (25, [some (.ref 0), some (.int 1), o2, o3], [], gm_h S', bc, bs) Q) :
    ∀ (f j : Nat) (S : Nat → Nat → Int32) (o2 o3 : Option Value), j + f = 2600 → gm_eqr [20] S0 S → (∀ n, n < j → S 20 n = -2) → gx_X gm_P (d + 1) 33 (2, [some (.ref 0), some (.int (nI j)), o2, o3], [], gm_h S, bc, bs) Q := by
  intro f
  induction f with
  | zero =>
    intro j S o2 o3 hj he hz
    refine gb_findEnds_2 ⟨fun _ => K S o2 o3 he (fun n hn => hz n (by omega)), fun h => ?_⟩
    have := (nI_ltI (b := 2600) (by omega) (by decide)).mp h
    omega
  | succ f ih =>
    intro j S o2 o3 hj he hz
    have hc : (nI j).toNatClampNeg = j := nI_clamp (by omega)
    refine gb_findEnds_2 ⟨fun h => absurd (nI_lt (b := 2600) (by omega) (by decide)) h, fun _ => ⟨vp_in_nI (by omega) (by decide), ?_⟩⟩
    rw [hc, show nI j + Int32.ofInt 1 = nI (j + 1) from nI_1 j]
    refine ih (j + 1) _ o2 o3 (by omega) (he.u (by simp) _ _) (fun n hn => ?_)
    by_cases e : n = j
    · subst e
      rw [gm_u_at, if_pos ⟨rfl, rfl⟩]
    · rw [gm_u_at, if_neg (by omega)]
      exact hz n (by omega)
/-- findEnds: the ends of all nodes of good rules -/
theorem gm_findEnds (hgood : gt_good R Em A o) (hg : gm_gr S R) (hx : gm_tx S L x) {o1 o2 o3 : Option Value}
    (hq : ∀ S' tab, gm_eqr [20] S S' → gm_tab S' L tab → (∀ t n p, gm_tr S t false n → gn_nd Em A t → p ≤ L → tab n p = some (gt_en L x (gt_Ed L x R) t p)) → Q (.inl none, gm_h S')) :
    gx_X gm_P (d + 3) 33 (0, [some (.ref 0), o1, o2, o3], [], gm_h S, bc, bs) Q := by
  refine gb_findEnds_0 ?_
  refine gm_fe_clear (S0 := S) (fun S1 o2 o3 g1 g2 => ?_) 2600 0 S o2 o3 rfl gm_eqr.refl (fun n hn => absurd hn (Nat.not_lt_zero _))
  have hF : gm_F R L x Em A S S1 (fun _ _ => none) := ⟨g1, ⟨fun n p hn hp => g2 _ (by have := hx.2.1; omega), (fun n p q _ h => by cases h), hx.2.1⟩, (fun t n p v _ _ _ h => by cases h)⟩
  refine gm_fe_rounds hgood hg hx (fun S2 tab o2 o3 hF2 hfix => ?_) _ S1 _ o2 o3 hF (Nat.lt_succ_self _)
  refine gb_findEnds_25 ⟨fun _ => ?_, fun h => absurd rfl h⟩
  obtain ⟨w1, w2, w3⟩ := hF2
  refine hq S2 tab w1 w2 (fun t n p ht hnd hp => ?_)
  exact gn_right hgood hx.2.1 (fun r t _ ht => (gm_gr_rts hg).2 r t ht) w3 (fun r hA => by
    obtain ⟨_, t, ht, _⟩ := hgood r hA
    exact ((gm_gr_rts hg).1 r).mpr ⟨t, ht⟩) (fun t n p ht hp h0 => hfix n p hp (gm_tr_lt ht) t ht h0) ht hnd hp
end GMJ
