/-! The model's work as a whole. -/
section GMG
variable {S S0 : Nat → Nat → Int32} {R : Nat → Option gt_T} {d bc bs : Nat} {Q : gx_R → Prop}
theorem gm_work_clear (K : ∀ (S' : Nat → Nat → Int32) (o2 o3 o4 : Option Value), gm_eqr [12, 13, 14] S0 S' → (∀ n, n < 200 → S' 12 n = 0 ∧ S' 13 n = 0) → gx_X gm_P (d + 1) 25 (31, [some (.ref 0), some (.int 1), o2, o3, o4], [], gm_h S', bc, bs) Q) :
    ∀ (f j : Nat) (S : Nat → Nat → Int32) (o2 o3 o4 : Option Value), j + f = 200 → gm_eqr [12, 13, 14] S0 S → (∀ n, n < j → S 12 n = 0 ∧ S 13 n = 0) → gx_X gm_P (d + 1) 25 (2, [some (.ref 0), some (.int (nI j)), o2, o3, o4], [], gm_h S, bc, bs) Q := by
  intro f
  induction f with
  | zero =>
    intro j S o2 o3 o4 hj he hz
    refine gb_work_2 ⟨fun _ => K S o2 o3 o4 he (fun n hn => hz n (by omega)), fun h => ?_⟩
    have := (nI_ltI (b := 200) (by omega) (by decide)).mp h
    omega
  | succ f ih =>
    intro j S o2 o3 o4 hj he hz
    have hc : (nI j).toNatClampNeg = j := nI_clamp (by omega)
    have hin : vp_in (nI j) 200 := vp_in_nI (by omega) (by decide)
    refine gb_work_2 ⟨fun h => absurd (nI_lt (b := 200) (by omega) (by decide)) h, fun _ => ⟨hin, hin, ?_⟩⟩
    rw [hc, show nI j + Int32.ofInt 1 = nI (j + 1) from nI_1 j]
    refine ih (j + 1) _ o2 o3 o4 (by omega) ((he.u (by simp) _ _).u (by simp) _ _) (fun n hn => ?_)
    by_cases e : n = j
    · subst e
      exact ⟨by rw [gm_u_at, if_neg (by omega), gm_u_at, if_pos ⟨rfl, rfl⟩]; rfl, by rw [gm_u_at, if_pos ⟨rfl, rfl⟩]⟩
    · have := hz n (by omega)
      exact ⟨by rw [gm_u_at, if_neg (by omega), gm_u_at, if_neg (by omega)]; exact this.1, by rw [gm_u_at, if_neg (by omega), gm_u_at, if_neg (by omega)]; exact this.2⟩
/-- a name's node names a rule -/
theorem gm_name_lt (hg : gm_gr S0 R) {n : Nat} (hD : gm_D S0 n) (hk : gp_n (S0 7 n) = 1) : gp_n (S0 8 n) < 4 := by
  obtain ⟨t, ht, hm⟩ := gm_gr_node hg hD
  have h1 := gn_tr_kd ht
  simp only [hk] at h1
  cases t with
  | parser r =>
    have hw : gp_n (S0 8 n) = gt_nm r := ht.2.2.2
    have := hm (gt_nm r) (by simp [gt_nms])
    omega
  | node m k a => simp only [gt_kd] at h1; omega
  | trailingNode m k l a => simp only [gt_kd] at h1; split at h1 <;> omega
  | nodeWithAntiquot s k a =>
    have := ht.2.2.2.2
    simp only [gt_kd] at h1
    omega
  | sepBy a s c b => cases ht.1
  | sepBy1 a s c b => cases ht.1
  | cat l hi => cases h1
  | const r => cases h1
  | unary m a => cases h1
  | _ => exact False.elim ht
theorem gm_uses_in (hg : gm_gr S0 R) {r : Nat} (hr : r < 4) {S1 : Nat → Nat → Int32}
    (K : ∀ (S' : Nat → Nat → Int32) (u : Nat → Bool) (o3 o4 : Option Value), gm_eqr [14] S1 S' → (∀ j, j ≠ r → S' 14 j = S1 14 j) → S' 14 r = gp_m u → (∀ k, k < 4 → (u k = true ↔ ∃ m, m < 40 ∧ gm_D S0 (40 * r + m) ∧ gp_n (S0 7 (40 * r + m)) = 1 ∧ gp_n (S0 8 (40 * r + m)) = k)) → gx_X gm_P (d + 2) 25 (123, [some (.ref 0), some (.int 0), some (.int (nI (r + 1))), o3, o4], [], gm_h S', bc, bs) Q) :
    ∀ (f n : Nat) (S : Nat → Nat → Int32) (u : Nat → Bool) (o4 : Option Value), n + f = 40 → gm_eqr [12, 13, 14] S0 S → gm_eqr [14] S1 S → (∀ j, j ≠ r → S 14 j = S1 14 j) → S 14 r = gp_m u → (∀ k, k < 4 → (u k = true ↔ ∃ m, m < n ∧ gm_D S0 (40 * r + m) ∧ gp_n (S0 7 (40 * r + m)) = 1 ∧ gp_n (S0 8 (40 * r + m)) = k)) →
    gx_X gm_P (d + 2) 25 (140, [some (.ref 0), some (.int 0), some (.int (nI r)), some (.int (nI (40 * r + n))), o4], [], gm_h S, bc, bs) Q := by
  have e40 : (40 : Int32) * nI r + 40 = nI (40 * r + 40) := by
    have : r = 0 ∨ r = 1 ∨ r = 2 ∨ r = 3 := by omega
    rcases this with rfl | rfl | rfl | rfl <;> decide +kernel
  have hcr : (nI r).toNatClampNeg = r := nI_clamp (by omega)
  have hinr : vp_in (nI r) 4 := vp_in_nI hr (by decide)
  intro f
  induction f with
  | zero =>
    intro n S u o4 hn he0 he hj hu hux
    refine gb_work_140 ⟨fun _ => ?_, fun h => ?_⟩
    · rw [show nI r + Int32.ofInt 1 = nI (r + 1) from nI_1 r]
      have e : n = 40 := by omega
      subst e
      exact K S u _ _ he hj hu hux
    · rw [e40] at h
      have := (nI_ltI (by omega) (by omega)).mp h
      omega
  | succ f ih =>
    intro n S u o4 hn he0 he hj hu hux
    have hgS : gm_gr S R := gm_eqr_gr he0 (by simp) (by simp) (by simp) (by simp) (by simp) (by simp) hg
    obtain ⟨_, _, _, _, a5, _⟩ := gm_eqr_tr he0 (by simp) (by simp) (by simp) (by simp) (by simp) (by simp)
    have hc : (nI (40 * r + n)).toNatClampNeg = 40 * r + n := nI_clamp (by omega)
    have hin : vp_in (nI (40 * r + n)) 200 := vp_in_nI (by omega) (by decide)
    have e7 : S 7 = S0 7 := he0 7 (by simp)
    have e8 : S 8 = S0 8 := he0 8 (by simp)
    have put : ∀ (v : Nat → Bool), (∀ k, k < 4 → (v k = true ↔ ∃ m, m < n + 1 ∧ gm_D S0 (40 * r + m) ∧ gp_n (S0 7 (40 * r + m)) = 1 ∧ gp_n (S0 8 (40 * r + m)) = k)) → gx_X gm_P (d + 2) 25 (198, [some (.ref 0), some (.int 0), some (.int (nI r)), some (.int (nI (40 * r + n))), o4], [.int (gp_m v), .int (nI r), .ref 14], gm_h S, bc, bs) Q := fun v hv => by
      refine gb_work_198 ⟨hinr, ?_⟩
      rw [hcr, show nI (40 * r + n) + Int32.ofInt 1 = nI (40 * r + (n + 1)) from nI_1 (40 * r + n)]
      refine ih (n + 1) _ v o4 (by omega) (he0.u (by simp) _ _) (he.u (by simp) _ _) (fun j hjr => ?_) ?_ hv
      · rw [gm_u_at, if_neg (by omega)]; exact hj j hjr
      · rw [gm_u_at, if_pos ⟨rfl, rfl⟩]
    have same : ¬ (gm_D S0 (40 * r + n) ∧ gp_n (S0 7 (40 * r + n)) = 1) → gx_X gm_P (d + 2) 25 (192, [some (.ref 0), some (.int 0), some (.int (nI r)), some (.int (nI (40 * r + n))), o4], [.int (nI r), .ref 14], gm_h S, bc, bs) Q := fun hno => by
      refine gb_work_192 ⟨hinr, ?_⟩
      rw [hcr, hu]
      refine put u (fun k hk => (hux k hk).trans ⟨fun ⟨m, h1, h2, h3, h4⟩ => ⟨m, by omega, h2, h3, h4⟩, fun ⟨m, h1, h2, h3, h4⟩ => ?_⟩)
      by_cases e : m = n
      · subst e
        exact absurd ⟨h2, h3⟩ hno
      · exact ⟨m, by omega, h2, h3, h4⟩
    refine gb_work_140 ⟨fun h => ?_, fun _ => gm_isNode hgS.2.1 (gm_gr_S3 hgS) (by omega) (fun b hb => ?_)⟩
    · rw [e40] at h
      exact absurd (nI_lt (by omega) (by omega)) h
    · rw [a5] at hb
      cases hbb : b with
      | false =>
        refine gb_work_161 ⟨fun _ => same (fun h => ?_), fun h => absurd rfl h⟩
        have := hb.mpr h.1
        rw [hbb] at this
        cases this
      | true =>
        have hD := hb.mp hbb
        refine gb_work_161 ⟨fun h => absurd h (by decide), fun _ => ⟨hin, fun h => same (fun h' => ?_), fun h => ⟨hinr, hin, ?_⟩⟩⟩
        · rw [hc, e7] at h
          exact h (gp_of h'.2)
        · rw [hc, e7] at h
          have hk1 : gp_n (S0 7 (40 * r + n)) = 1 := by rw [h]; rfl
          have hlt := gm_name_lt hg hD hk1
          rw [hc, hcr, hu, e8, ← gp_nI (S0 8 (40 * r + n)), gp_m_one hlt, gp_m_or]
          refine put _ (fun k hk => ?_)
          rw [Bool.or_eq_true_iff, hux k hk]
          constructor
          · rintro (⟨m, h1, h2, h3, h4⟩ | h1)
            · exact ⟨m, by omega, h2, h3, h4⟩
            · exact ⟨n, by omega, hD, hk1, (show k = gp_n (S0 8 (40 * r + n)) by simpa using h1).symm⟩
          · rintro ⟨m, h1, h2, h3, h4⟩
            by_cases e : m = n
            · subst e
              exact .inr (by simp [h4])
            · exact .inl ⟨m, by omega, h2, h3, h4⟩
/-- the nodes tell what a rule uses -/
theorem gm_uses_U (hg : gm_gr S0 R) {r : Nat} (hr : r < 4) {u : Nat → Bool} (hu : ∀ k, k < 4 → (u k = true ↔ ∃ m, m < 40 ∧ gm_D S0 (40 * r + m) ∧ gp_n (S0 7 (40 * r + m)) = 1 ∧ gp_n (S0 8 (40 * r + m)) = k)) : gp_m u = gp_m (gt_U R r) := by
  refine gp_m_congr fun k hk => Bool.eq_iff_iff.mpr ((hu k hk).trans ⟨fun ⟨m, h1, h2, h3, h4⟩ => ?_, fun h => ?_⟩)
  · obtain ⟨r', t, hr', ht, hD⟩ := gm_D_Dr hg h2
    have h40 := hg.2.1 r' hr'
    have e : r' = r := by
      obtain ⟨q1, q2⟩ := hD
      omega
    subst e
    obtain ⟨t', ht', hm, _⟩ := (hg.2.2 r' t ht).2.2.2.2 _ hD
    unfold gt_U
    rw [ht]
    refine hm k ?_
    have h1' := gn_tr_kd ht'
    simp only [h3] at h1'
    cases t' with
    | parser q =>
      have hw : gp_n (S0 8 (40 * r' + m)) = gt_nm q := ht'.2.2.2
      simp [gt_nms]
      omega
    | node m k a => simp only [gt_kd] at h1'; omega
    | trailingNode m k l a => simp only [gt_kd] at h1'; split at h1' <;> omega
    | nodeWithAntiquot s k a =>
      have := ht'.2.2.2.2
      simp only [gt_kd] at h1'
      omega
    | sepBy a s c b => cases ht'.1
    | sepBy1 a s c b => cases ht'.1
    | cat l hi => cases h1'
    | const r => cases h1'
    | unary m a => cases h1'
    | _ => exact False.elim ht'
  · unfold gt_U at h
    cases ht : R r with
    | none => rw [ht] at h; cases h
    | some t =>
      rw [ht] at h
      obtain ⟨n, hn, h1, h2⟩ := gn_tr_nms t _ _ (hg.2.2 r t ht).2.2.2.1 h
      have h40 := hg.2.1 r hr
      have hD := gm_Dr_D hg ht n hn
      obtain ⟨q1, q2⟩ := hn
      refine ⟨n - 40 * r, by omega, ?_⟩
      rw [show 40 * r + (n - 40 * r) = n by omega]
      exact ⟨hD, h1, h2⟩
theorem gm_uses (hg : gm_gr S0 R) {S1 : Nat → Nat → Int32}
    (K : ∀ (S' : Nat → Nat → Int32), gm_eqr [14] S1 S' → (∀ r, r < 4 → S' 14 r = gp_m (gt_U R r)) → Q (.inl none, gm_h S')) :
    ∀ (f r : Nat) (S : Nat → Nat → Int32) (o3 o4 : Option Value), r + f = 4 → gm_eqr [12, 13, 14] S0 S → gm_eqr [14] S1 S → (∀ j, j < r → S 14 j = gp_m (gt_U R j)) →
    gx_X gm_P (d + 2) 25 (123, [some (.ref 0), some (.int 0), some (.int (nI r)), o3, o4], [], gm_h S, bc, bs) Q := by
  intro f
  induction f with
  | zero =>
    intro r S o3 o4 hf he0 he hj
    have e : r = 4 := by omega
    subst e
    exact gb_work_123 ⟨fun _ => K S he hj, fun h => absurd h (by decide)⟩
  | succ f ih =>
    intro r S o3 o4 hf he0 he hj
    have hr : r < 4 := by omega
    have hcr : (nI r).toNatClampNeg = r := nI_clamp (by omega)
    have e40 : (40 : Int32) * nI r = nI (40 * r + 0) := (Int32.ofNat_mul 40 r).symm
    refine gb_work_123 ⟨fun h => absurd (nI_lt (b := 4) hr (by decide)) h, fun _ => ⟨vp_in_nI hr (by decide), ?_⟩⟩
    rw [hcr, e40]
    refine gm_uses_in hg hr (S1 := gm_u S 14 r 0) (fun S' u o3' o4' g1 g2 g3 g4 => ?_) 40 0 _ (fun _ => false) o4 rfl (he0.u (by simp) _ _) gm_eqr.refl (fun _ _ => rfl) ?_ (fun k hk => ⟨(fun h => by cases h), fun ⟨m, h1, _⟩ => absurd h1 (Nat.not_lt_zero _)⟩)
    · refine ih (r + 1) S' o3' o4' (by omega) (fun k hk => ?_) (fun k hk => ?_) (fun j hjr => ?_)
      · have hk14 : k ∉ [14] := fun h => hk (by simp at h; simp [h])
        rw [g1 k hk14, gm_u_row S r 0 (fun e => hk14 (by simp [e]))]
        exact he0 k hk
      · rw [g1 k hk, gm_u_row S r 0 (fun e => hk (by simp [e]))]
        exact he k hk
      · by_cases e : j = r
        · subst e
          rw [g3, gm_uses_U hg hr g4]
        · rw [g2 j e, gm_u_at, if_neg (by omega)]
          exact hj j (by omega)
    · rw [gm_u_at, if_pos ⟨rfl, rfl⟩, gp_m_zero]
/-- work: the empty-able nodes, what rules start with, what rules use -/
theorem gm_work (hg : gm_gr S R) {o1 o2 o3 o4 : Option Value}
    (hq : ∀ S', gm_eqr [12, 13, 14] S S' → (∀ t n, gm_tr S t false n → S' 12 n = gp_b (gt_emp (gt_Em R) t)) → (∀ r t, R r = some t → S' 13 (40 * r) = gp_m (gt_ST R r)) → (∀ r, r < 4 → S' 14 r = gp_m (gt_U R r)) → Q (.inl none, gm_h S')) :
    gx_X gm_P (d + 2) 25 (0, [some (.ref 0), o1, o2, o3, o4], [], gm_h S, bc, bs) Q := by
  refine gb_work_0 ?_
  refine gm_work_clear (S0 := S) (fun S1 o2 o3 o4 g1 g2 => ?_) 200 0 S o2 o3 o4 rfl gm_eqr.refl (fun n hn => absurd hn (Nat.not_lt_zero _))
  have hW : gm_W R S S1 (fun _ => false) (fun _ _ => false) := ⟨g1, fun n hn => (g2 n (by omega)).1, fun n hn => (g2 n (by omega)).2.trans gp_m_zero.symm, (fun t n _ h => by cases h), fun t n _ => ⟨(fun h => by cases h), (fun r h => by cases h)⟩⟩
  refine gm_work_rounds hg (fun S2 em st o2 o3 o4 hW2 hfix => ?_) _ S1 _ _ o2 o3 o4 hW (Nat.lt_succ_self _)
  refine gb_work_31 ⟨fun _ => ?_, fun h => absurd rfl h⟩
  obtain ⟨w1, w2, w3, w4, w5⟩ := hW2
  have hf1 : ∀ t n, gm_tr S t false n → em n = gn_emN (gm_dfn S) (fun n => gp_n (S 8 n)) (gm_nx S) em t n := fun t n ht => (hfix n (gm_tr_lt ht) t ht).1
  have hE := gn_em_right (gm_gr_wf hg) (gm_gr_rts hg) w4 hf1
  have hem : ∀ t n, gm_tr S t false n → em n = gt_emp (gt_Em R) t := fun t n ht => by
    rw [← hE]
    exact (gn_em_tree hf1 t).1 n ht
  have hst : ∀ r, r < 4 → ∀ t n, gm_tr S t false n → st n r = gt_sts (gt_Em R) t r := fun r hr t n ht =>
    (gn_st_tree hem (fun t n ht => (hfix n (gm_tr_lt ht) t ht).2 r hr) t).1 n ht
  refine gm_uses hg (S1 := S2) (fun S3 g3 g4 => ?_) 4 0 S2 o3 o4 rfl w1 gm_eqr.refl (fun j hj => absurd hj (Nat.not_lt_zero _))
  refine hq S3 (fun k hk => ?_) (fun t n ht => ?_) (fun r t ht => ?_) g4
  · have hk14 : k ∉ [14] := fun h => hk (by simp at h; simp [h])
    rw [g3 k hk14]
    exact w1 k hk
  · rw [g3 12 (by simp), w2 n (gm_tr_lt ht), hem t n ht]
  · have hroot := (gm_gr_rts hg).2 r t ht
    have hr := (hg.2.2 r t ht).1
    rw [g3 13 (by simp), w3 _ (gm_tr_lt hroot)]
    refine gp_m_congr fun k hk => ?_
    rw [hst k hk t _ hroot]
    simp [gt_ST, ht]
end GMG
