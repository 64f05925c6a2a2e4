/-! The model's work: empty-able nodes, what nodes start with, what rules use. -/
def gp_at {α : Type} (f : Nat → α) (n : Nat) (v : α) : Nat → α := fun k => if k = n then v else f k
theorem gp_at_eq {α : Type} {f : Nat → α} {n : Nat} {v : α} : gp_at f n v n = v := if_pos rfl
theorem gp_at_ne {α : Type} {f : Nat → α} {n k : Nat} {v : α} (h : k ≠ n) : gp_at f n v k = f k := if_neg h
section GMF
variable {S S0 : Nat → Nat → Int32} {R : Nat → Option gt_T} {em : Nat → Bool} {st : Nat → Nat → Bool}
/-- node n gets what it has now -/
theorem gm_W_up (hg : gm_gr S0 R) (h : gm_W R S0 S em st) {n : Nat} {t : gt_T} (ht : gm_tr S0 t false n) {e : Bool} {s : Nat → Bool} (he : e = gn_emN (gm_dfn S0) (fun n => gp_n (S0 8 n)) (gm_nx S0) em t n) (hs : s = fun r => gn_stN (fun n => gp_n (S0 8 n)) (gm_nx S0) em st r t n) :
    gm_W R S0 (gm_u (gm_u S 12 n (gp_b e)) 13 n (gp_m s)) (gp_at em n e) (gp_at st n s) ∧ (∀ k, em k = true → gp_at em n e k = true) ∧ (∀ k r, st k r = true → gp_at st n s k r = true) := by
  obtain ⟨h1, h2, h3, h4, h5⟩ := h
  have hn := gm_tr_lt ht
  have m1 : ∀ k, em k = true → gp_at em n e k = true := fun k hk => by
    by_cases ek : k = n
    · subst ek
      rw [gp_at_eq, he]
      exact (h5 t k ht).1 hk
    · rw [gp_at_ne ek]; exact hk
  have m2 : ∀ k r, st k r = true → gp_at st n s k r = true := fun k r hk => by
    by_cases ek : k = n
    · subst ek
      rw [gp_at_eq, hs]
      exact (h5 t k ht).2 r hk
    · rw [gp_at_ne ek]; exact hk
  refine ⟨⟨(h1.u (by simp) _ _).u (by simp) _ _, fun k hk => ?_, fun k hk => ?_, fun t' k ht' hk E hE => ?_, fun t' k ht' => ⟨fun hk => ?_, fun r hk => ?_⟩⟩, m1, m2⟩
  · rw [gm_u_at, if_neg (by omega), gm_u_at]
    by_cases ek : k = n
    · rw [if_pos ⟨rfl, ek⟩, ek, gp_at_eq]
    · rw [if_neg (by omega), gp_at_ne ek]; exact h2 k hk
  · rw [gm_u_at]
    by_cases ek : k = n
    · rw [if_pos ⟨rfl, ek⟩, ek, gp_at_eq]
    · rw [if_neg (by omega), gp_at_ne ek, gm_u_at, if_neg (by omega)]; exact h3 k hk
  · by_cases ek : k = n
    · subst ek
      rw [gp_at_eq] at hk
      refine gn_emN_S (gm_gr_rts hg) h4 ht' ?_ hE
      rw [(gn_emN_same (st := st) ht' ht).1, ← he]
      exact hk
    · rw [gp_at_ne ek] at hk
      exact h4 t' k ht' hk E hE
  · by_cases ek : k = n
    · subst ek
      rw [gp_at_eq] at hk
      refine gn_emN_mono m1 t' k ?_
      rw [(gn_emN_same (st := st) ht' ht).1, ← he]
      exact hk
    · rw [gp_at_ne ek] at hk
      exact gn_emN_mono m1 t' k ((h5 t' k ht').1 hk)
  · by_cases ek : k = n
    · subst ek
      rw [gp_at_eq] at hk
      refine gn_stN_mono m1 (fun j => m2 j r) t' k ?_
      rw [(gn_emN_same (dfn := gm_dfn S0) ht' ht).2 r]
      rw [hs] at hk
      exact hk
    · rw [gp_at_ne ek] at hk
      exact gn_stN_mono m1 (fun j => m2 j r) t' k ((h5 t' k ht').2 r hk)
/-- then less is to be found, if it changes -/
theorem gm_mu_up {n : Nat} (hn : n < 160) {e : Bool} {s : Nat → Bool} (m1 : ∀ k, em k = true → gp_at em n e k = true) (m2 : ∀ k r, st k r = true → gp_at st n s k r = true) : gm_mu (gp_at em n e) (gp_at st n s) ≤ gm_mu em st ∧ (e ≠ em n ∨ gp_m s ≠ gp_m (st n) → gm_mu (gp_at em n e) (gp_at st n s) < gm_mu em st) := by
  have a1 : ∀ k, (em k).toNat ≤ (gp_at em n e k).toNat := fun k => by
    cases hk : em k with
    | false => exact Nat.zero_le _
    | true => rw [m1 k hk]; exact Nat.le_refl _
  have a2 : ∀ k, gt_cnt (st k) ≤ gt_cnt (gp_at st n s k) := fun k => gt_cnt_mono (m2 k)
  have le : ∀ k, (1 - (gp_at em n e k).toNat) + (4 - gt_cnt (gp_at st n s k)) ≤ (1 - (em k).toNat) + (4 - gt_cnt (st k)) := fun k => by
    have := a1 k
    have := a2 k
    omega
  refine ⟨gp_ct_le le 160, fun h => gp_ct_lt le (k := n) ?_ 160 hn⟩
  have b1 := a1 n
  have b2 := a2 n
  have b3 := gt_cnt_le (gp_at st n s n)
  rcases h with h | h
  · cases hm : em n with
    | true =>
      have := m1 n hm
      rw [gp_at_eq] at this
      exact absurd (this.trans hm.symm) h
    | false =>
      have e1 : e = true := by
        cases he : e with
        | true => rfl
        | false => exact absurd (he.trans hm.symm) h
      rw [gp_at_eq] at b1 ⊢
      rw [e1]
      simp only [Bool.toNat_true, Bool.toNat_false]
      omega
  · have hx : ∃ k, k < 4 ∧ s k ≠ st n k := Classical.byContradiction fun hno => h (gp_m_congr fun k hk => Classical.byContradiction fun hc => hno ⟨k, hk, hc⟩)
    obtain ⟨k, hk, hne⟩ := hx
    have hsk : st n k = false := by
      cases hh : st n k with
      | false => rfl
      | true =>
        have := m2 n k hh
        rw [gp_at_eq] at this
        exact absurd (this.trans hh.symm) hne
    have hsk1 : s k = true := by
      cases hh : s k with
      | true => rfl
      | false => exact absurd (hh.trans hsk.symm) hne
    have hlt := gt_cnt_lt (S := st n) (T := gp_at st n s n) (m2 n) hk hsk (by rw [gp_at_eq]; exact hsk1)
    omega
variable {d bc bs : Nat} {Q : gx_R → Prop}
/-- one node's turn in a round -/
theorem gm_work_node (hg : gm_gr S0 R) (h : gm_W R S0 S em st) {n : Nat} (hn : n < 160) {more : Bool} {o3 o4 : Option Value} {M : Nat} (hM1 : more = true → gm_mu em st < M) (hM0 : more = false → gm_mu em st = M)
    (K : ∀ (S' : Nat → Nat → Int32) (em' : Nat → Bool) (st' : Nat → Nat → Bool) (more' : Bool) (o3' o4' : Option Value), gm_W R S0 S' em' st' → (more' = true → gm_mu em' st' < M) → (more' = false → more = false ∧ em' = em ∧ st' = st ∧ gm_Wn S0 em st n) → gx_X gm_P (d + 2) 25 (112, [some (.ref 0), some (.int (gp_b more')), some (.int (nI n)), o3', o4'], [], gm_h S', bc, bs) Q) :
    gx_X gm_P (d + 2) 25 (41, [some (.ref 0), some (.int (gp_b more)), some (.int (nI n)), o3, o4], [], gm_h S, bc, bs) Q := by
  obtain ⟨h1, h2, h3, h4, h5⟩ := id h
  obtain ⟨a1, a2, a3, a4, a5, a6⟩ := gm_eqr_tr h1 (by simp) (by simp) (by simp) (by simp) (by simp) (by simp)
  have hgS : gm_gr S R := gm_eqr_gr h1 (by simp) (by simp) (by simp) (by simp) (by simp) (by simp) hg
  have hc : (nI n).toNatClampNeg = n := nI_clamp (by omega)
  have hin : vp_in (nI n) 200 := vp_in_nI (by omega) (by decide)
  have e8 : S 8 = S0 8 := h1 8 (by simp)
  refine gb_work_41 ⟨fun h => absurd h (nI_pos (by omega)), fun _ => gm_isNode hgS.2.1 (gm_gr_S3 hgS) (by omega) (fun b hb => ?_)⟩
  cases hbb : b with
  | false =>
    have hno : ¬ gm_D S0 n := fun hD => by
      rw [← a5] at hD
      have := hb.mpr hD
      rw [hbb] at this
      cases this
    refine gb_work_50 ⟨fun _ => K S em st more o3 o4 h hM1 (fun hm => ⟨hm, rfl, rfl, fun t ht => absurd (gn_tr_D t _ _ ht) hno⟩), fun h => absurd rfl h⟩
  | true =>
    have hD : gm_D S0 n := by rw [← a5]; exact hb.mp hbb
    obtain ⟨t, ht, hnm⟩ := gm_gr_node hg hD
    have htS : gm_tr S t false n := by rw [a1]; exact ht
    refine gb_work_50 ⟨fun h => absurd h (by decide), fun _ => gm_emptyNow h2 (gm_gr_S3 hgS) htS hnm (gb_work_58 (gm_startsNow h2 h3 htS hnm ?_))⟩
    have eE : gn_emN (gm_dfn S) (fun n => gp_n (S 8 n)) (gm_nx S) em t n = gn_emN (gm_dfn S0) (fun n => gp_n (S0 8 n)) (gm_nx S0) em t n := by rw [a3, a4, e8]
    have eS : (fun r => gn_stN (fun n => gp_n (S 8 n)) (gm_nx S) em st r t n) = (fun r => gn_stN (fun n => gp_n (S0 8 n)) (gm_nx S0) em st r t n) := by rw [a4, e8]
    rw [eE, eS]
    obtain ⟨u1, m1, m2⟩ := gm_W_up hg h ht rfl rfl
    obtain ⟨u2, u3⟩ := gm_mu_up (em := em) (st := st) hn m1 m2
    have chg : (more = true ∨ gn_emN (gm_dfn S0) (fun n => gp_n (S0 8 n)) (gm_nx S0) em t n ≠ em n ∨ gp_m (fun r => gn_stN (fun n => gp_n (S0 8 n)) (gm_nx S0) em st r t n) ≠ gp_m (st n)) →
        gx_X gm_P (d + 2) 25 (91, [some (.ref 0), some (.int (gp_b more)), some (.int (nI n)), some (.int (gp_b (gn_emN (gm_dfn S0) (fun n => gp_n (S0 8 n)) (gm_nx S0) em t n))), some (.int (gp_m (fun r => gn_stN (fun n => gp_n (S0 8 n)) (gm_nx S0) em st r t n)))], [], gm_h S, bc, bs) Q := fun hch => by
      refine gb_work_91 (gb_work_96 ⟨hin, hin, ?_⟩)
      rw [hc, gp_nar_b]
      refine K _ _ _ true _ _ u1 (fun _ => ?_) (fun hm => by cases hm)
      rcases hch with hmo | hne
      · have := hM1 hmo
        omega
      · have := u3 hne
        cases hmo : more with
        | true => have := hM1 hmo; omega
        | false => have := hM0 hmo; omega
    refine gb_work_64 ⟨fun hm => chg (.inl ?_), fun hm => ⟨hin, fun h1' => chg (.inr (.inl ?_)), fun h1' => ⟨hin, fun h2' => gb_work_96 ⟨hin, hin, ?_⟩, fun h2' => chg (.inr (.inr ?_))⟩⟩⟩
    · cases hmo : more with
      | true => rfl
      | false => rw [hmo] at hm; exact absurd rfl hm
    · intro he
      rw [hc, h2 n hn, he] at h1'
      exact h1' rfl
    · rw [hc] at h1' h2' ⊢
      rw [gp_nar_b]
      have hmo : more = false := (gp_b_0 _).mp hm
      rw [h2 n hn] at h1'
      rw [h3 n hn] at h2'
      have he : gn_emN (gm_dfn S0) (fun n => gp_n (S0 8 n)) (gm_nx S0) em t n = em n := by
        revert h1'
        cases gn_emN (gm_dfn S0) (fun n => gp_n (S0 8 n)) (gm_nx S0) em t n <;> cases em n <;> decide
      refine K _ em st false _ _ ⟨(h1.u (by simp) _ _).u (by simp) _ _, fun k hk => ?_, fun k hk => ?_, h4, h5⟩ (fun hm => by cases hm) (fun _ => ⟨hmo, rfl, rfl, fun t' ht' => ?_⟩)
      · rw [gm_u_at, if_neg (by omega), gm_u_at]
        by_cases ek : k = n
        · rw [if_pos ⟨rfl, ek⟩, ek, he]
        · rw [if_neg (by omega)]; exact h2 k hk
      · rw [gm_u_at]
        by_cases ek : k = n
        · rw [if_pos ⟨rfl, ek⟩, ek, h2']
        · rw [if_neg (by omega), gm_u_at, if_neg (by omega)]; exact h3 k hk
      · have hs := gn_emN_same (em := em) (st := st) (dfn := gm_dfn S0) ht' ht
        refine ⟨by rw [hs.1, he], fun r hr => ?_⟩
        rw [hs.2 r]
        exact (gp_m_inj h2' hr).symm
    · intro he
      rw [hc, h3 n hn] at h2'
      exact h2' he
/-- a round -/
theorem gm_work_round (hg : gm_gr S0 R) {M : Nat}
    (K1 : ∀ (S' : Nat → Nat → Int32) (em' : Nat → Bool) (st' : Nat → Nat → Bool) (o2 o3 o4 : Option Value), gm_W R S0 S' em' st' → gm_mu em' st' < M → gx_X gm_P (d + 2) 25 (31, [some (.ref 0), some (.int 1), o2, o3, o4], [], gm_h S', bc, bs) Q)
    (K0 : ∀ (S' : Nat → Nat → Int32) (em' : Nat → Bool) (st' : Nat → Nat → Bool) (o2 o3 o4 : Option Value), gm_W R S0 S' em' st' → (∀ n, n < 160 → gm_Wn S0 em' st' n) → gx_X gm_P (d + 2) 25 (31, [some (.ref 0), some (.int 0), o2, o3, o4], [], gm_h S', bc, bs) Q) :
    ∀ (j : Nat) (S : Nat → Nat → Int32) (em : Nat → Bool) (st : Nat → Nat → Bool) (more : Bool) (o3 o4 : Option Value), j ≤ 160 → gm_W R S0 S em st → (more = true → gm_mu em st < M) → (more = false → gm_mu em st = M ∧ ∀ n, j ≤ n → n < 160 → gm_Wn S0 em st n) →
    gx_X gm_P (d + 2) 25 (41, [some (.ref 0), some (.int (gp_b more)), some (.int (nI j + -1)), o3, o4], [], gm_h S, bc, bs) Q
  | 0, S, em, st, more, o3, o4, hj, hW, h1, h0 => by
    refine gb_work_41 ⟨fun _ => ?_, fun h => absurd (by decide) h⟩
    cases hm : more with
    | true => exact K1 S em st _ _ _ hW (h1 hm)
    | false => exact K0 S em st _ _ _ hW (fun n hn => (h0 hm).2 n (Nat.zero_le _) hn)
  | j + 1, S, em, st, more, o3, o4, hj, hW, h1, h0 => by
    rw [show nI (j + 1) + -1 = nI j from pk_m1 j]
    refine gm_work_node hg hW (by omega) h1 (fun hm => (h0 hm).1) (fun S' em' st' more' o3' o4' hW' h1' h0' => gb_work_112 ?_)
    refine gm_work_round hg K1 K0 j S' em' st' more' o3' o4' (by omega) hW' h1' (fun hm => ?_)
    obtain ⟨g1, rfl, rfl, g4⟩ := h0' hm
    refine ⟨(h0 g1).1, fun n hn1 hn2 => ?_⟩
    by_cases e : n = j
    · subst e; exact g4
    · exact (h0 g1).2 n (by omega) hn2
/-- the rounds, until nothing changes -/
theorem gm_work_rounds (hg : gm_gr S0 R)
    (K0 : ∀ (S' : Nat → Nat → Int32) (em' : Nat → Bool) (st' : Nat → Nat → Bool) (o2 o3 o4 : Option Value), gm_W R S0 S' em' st' → (∀ n, n < 160 → gm_Wn S0 em' st' n) → gx_X gm_P (d + 2) 25 (31, [some (.ref 0), some (.int 0), o2, o3, o4], [], gm_h S', bc, bs) Q) :
    ∀ (M : Nat) (S : Nat → Nat → Int32) (em : Nat → Bool) (st : Nat → Nat → Bool) (o2 o3 o4 : Option Value), gm_W R S0 S em st → gm_mu em st < M → gx_X gm_P (d + 2) 25 (31, [some (.ref 0), some (.int 1), o2, o3, o4], [], gm_h S, bc, bs) Q := by
  intro M
  induction M with
  | zero => exact fun S em st o2 o3 o4 hW hM => absurd hM (Nat.not_lt_zero _)
  | succ M ih =>
    intro S em st o2 o3 o4 hW hM
    refine gb_work_31 ⟨fun h => absurd h (by decide), fun _ => ?_⟩
    rw [show (159 : Int32) = nI 160 + -1 by decide +kernel]
    generalize hmu : gm_mu em st = M0 at hM
    exact gm_work_round hg (M := M0) (fun S' em' st' o2 o3 o4 hW' hM' => ih S' em' st' o2 o3 o4 hW' (Nat.lt_of_lt_of_le hM' (Nat.le_of_lt_succ hM))) K0 160 S em st false o3 o4 (Nat.le_refl _) hW (fun h => by cases h) (fun _ => ⟨hmu, fun n h1 h2 => absurd h1 (Nat.not_le.mpr h2)⟩)
end GMF
