/-! The model's calls, by the same words. -/
section GJS
variable {d bc bs : Nat} {S : Nat → Nat → Int32} {R : Nat → Option gt_T} {Q : gx_R → Prop}
theorem gm_shown2 {a1 a2 : Int32} (hg : gm_gr S R) (hlen : ∀ r t, R r = some t → ∃ n, n ≤ 20 ∧ S 5 r = nI n) (hch : ∀ r t k n, R r = some t → S 5 r = nI n → k < n → n ≤ 20 → ∃ c, S 4 (20 * r + k) = nI c ∧ c ≤ 126)
    (h0 : ¬ (∃ r t k n, a1 = nI r ∧ a2 = nI k ∧ R r = some t ∧ S 5 r = nI n ∧ k < n ∧ n ≤ 20) → Q (.inl (some (.int 0)), gm_h (gm_u S 0 0 0)))
    (h1 : ∀ r t k n, a1 = nI r → a2 = nI k → R r = some t → S 5 r = nI n → k < n → n ≤ 20 → Q (.inl (some (.int (S 4 (20 * r + k)))), gm_h (gm_u S 0 0 0))) :
    gx_X gm_P (d + 2) 21 (0, [some (.ref 0), some (.int a1), some (.int a2)], [], gm_h S, bc, bs) Q := by
  have no : ¬ (∃ r t k n, a1 = nI r ∧ a2 = nI k ∧ R r = some t ∧ S 5 r = nI n ∧ k < n ∧ n ≤ 20) → gx_X gm_P (d + 2) 21 (50, [some (.ref 0), some (.int a1), some (.int a2)], [], gm_h (gm_u S 0 0 0), bc, bs) Q := fun h => gb_shown_50 (gb_shown_51 ⟨rfl, h0 h⟩)
  have r3 : ∀ k j, k ≠ 0 → gm_u S 0 0 0 k j = S k j := fun k j hk => by rw [gm_u_at, if_neg (by omega)]
  refine gb_shown_0 (gm_isRule ?_)
  by_cases hr' : ¬ a1 < 0 ∧ a1 < 4
  · rw [if_pos hr']
    obtain ⟨r, hr, rfl⟩ := gp_rule hr'
    have hcr : (nI r).toNatClampNeg = r := nI_clamp (by omega)
    have hin : vp_in (nI r) 4 := vp_in_nI hr (by decide)
    refine gb_shown_9 ⟨fun h => absurd h (by decide), fun _ => ?_⟩
    rw [hcr, r3 3 r (by omega), r3 5 r (by omega), hg.1 r hr]
    refine ⟨hin, fun hd => no ?_, fun hd => ⟨fun hk => no ?_, fun hk => ⟨hin, fun hk' => no ?_, fun hk' => ?_⟩⟩⟩
    · rintro ⟨r', t, k, n, e1, e2, e3, e4, e5, e6⟩
      have : r' < 4 := (hg.2.2 r' t e3).1
      have e : r = r' := (nI_eq (by omega) (by omega)).mp e1
      rw [← e] at e3
      rw [e3] at hd
      exact absurd hd (show ¬ gp_b true = 0 by decide)
    · rintro ⟨r', t, k, n, e1, e2, e3, e4, e5, e6⟩
      rw [e2] at hk
      exact absurd hk (nI_pos (by omega))
    · rintro ⟨r', t, k, n, e1, e2, e3, e4, e5, e6⟩
      have : r' < 4 := (hg.2.2 r' t e3).1
      have e : r = r' := (nI_eq (by omega) (by omega)).mp e1
      rw [e2, e, e4] at hk'
      exact hk' (nI_lt e5 (by omega))
    · obtain ⟨t, ht⟩ : ∃ t, R r = some t := by
        cases ht : R r with
        | none => rw [ht] at hd; exact absurd rfl hd
        | some t => exact ⟨t, rfl⟩
      obtain ⟨n, hn20, h5⟩ := hlen r t ht
      obtain ⟨k, hk31, rfl⟩ := nI_of hk
      rw [h5] at hk'
      have hkn : k < n := (nI_ltI hk31 (by omega)).mp hk'
      have e20 : (20 : Int32) * nI r + nI k = nI (20 * r + k) := by
        rw [show (20 : Int32) * nI r = nI (20 * r) from (Int32.ofNat_mul 20 r).symm, nI_add]
      rw [e20, nI_clamp (show 20 * r + k < 2 ^ 31 by omega), r3 4 _ (by omega)]
      obtain ⟨c, hc, hc126⟩ := hch r t k n ht h5 hkn hn20
      refine ⟨vp_in_nI (by omega) (by decide), gb_shown_51 ?_⟩
      have := h1 r t k n rfl rfl ht h5 hkn hn20
      rw [hc] at this ⊢
      have aux : ∀ c : Fin 127, (((nI c.val).toUInt32 % 65536).toInt32 = nI c.val) ∧ narrow .char (.int (nI c.val)) = .int (nI c.val) := by decide +kernel
      have h2 := aux ⟨c, by omega⟩
      simp only at h2
      rw [h2.1]
      exact ⟨h2.2, this⟩
  · rw [if_neg hr']
    refine gb_shown_9 ⟨fun _ => no ?_, fun h => absurd rfl h⟩
    rintro ⟨r', t, k, n, e1, e2, e3, e4, e5, e6⟩
    have : r' < 4 := (hg.2.2 r' t e3).1
    rw [e1] at hr'
    exact hr' ⟨nI_pos (by omega), nI_lt (b := 4) this (by decide)⟩
end GJS
section GJM
variable {d bc bs : Nat} {S : Nat → Nat → Int32} {a : gj_A}
theorem gj_M_u0 {T : Nat → Option gt_T} {ch : Nat → Nat → Nat} {nn : Nat} {c : Nat → Nat} {Lx : Nat} {y : Nat → Nat} {cp : List (Nat × Nat)} {f : Nat} {v : Nat → Bool} {z : Int32} (hJ : gj_M (T, ch, (nn, c), (Lx, y), cp, f, v) S) : gj_M (T, ch, (nn, c), (Lx, y), cp, f, v) (gm_u S 0 0 z) := by
  obtain ⟨hg, ⟨l1, l2, l3, l4⟩, ⟨x1, x2, x3⟩, ⟨m1, m2, m3, m4, m5, m6, m7⟩, ls1, ls2, ls3⟩ := hJ
  have e1 : ∀ k j, (k = 0 → j ≠ 0) → gm_u S 0 0 z k j = S k j := fun k j h => by rw [gm_u_at, if_neg (by omega)]
  refine ⟨gm_gr_u0 hg, ⟨(e1 0 2 (by omega)).trans l1, l2, fun i hi => by rw [e1 1 i (by omega)]; exact l3 i hi, l4⟩, ⟨(e1 0 4 (by omega)).trans x1, x2, fun p hp => by rw [e1 2 p (by omega)]; exact x3 p hp⟩, ⟨(e1 0 30 (by omega)).trans m1, m2, fun i s t h => by rw [e1 24 i (by omega), e1 25 i (by omega)]; exact m3 i s t h, (e1 0 33 (by omega)).trans m4, m5, (e1 0 34 (by omega)).trans m6, m7⟩, fun r t h => ?_, ls2, ls3⟩
  obtain ⟨n, h1, h2, h3, h4⟩ := ls1 r t h
  exact ⟨n, h1, (e1 5 r (by omega)).trans h2, fun k hk => by rw [e1 4 _ (by omega)]; exact h3 k hk, h4⟩
theorem gj_u00 {z : Int32} : gm_u S 0 0 z 0 0 = z := by rw [gm_u_at, if_pos ⟨rfl, rfl⟩]
theorem gjm_type (hJ : gj_M a S) {x : Int32} : gx_X gm_P (d + 2) 4 (0, [some (.ref 0), some (.int x), none, none], [], gm_h S, bc, bs) (gj_QM (gj_type x a)) := by
  obtain ⟨T, ch, ⟨nn, c⟩, ⟨Lx, y⟩, cp, f, v⟩ := a
  obtain ⟨hg, ⟨l1, l2, l3, l4⟩, ⟨x1, x2, x3⟩, ⟨m1, m2, m3, m4, m5, m6, m7⟩, ls1, ls2, ls3⟩ := id hJ
  refine gm_type l1 l2 ?_
  cases hcs : gp_cs x with
  | none =>
    refine ⟨1, 0, _, _, 0, ?_, gj_M_u0 hJ, gj_u00, rfl, fun _ => rfl⟩
    show (match gp_cs x with
      | none => _
      | some l => _)
    rw [hcs]
  | some l =>
    refine ⟨fun h => ⟨0, 0, _, _, 0, ?_, gj_M_u0 hJ, gj_u00, rfl, fun _ => rfl⟩, fun h S' e1 e0 e2 e3 e4 => ⟨0, 1, (T, ch, (nn + l.length, gj_ap nn c l), (Lx, y), cp, f, v), S', 1, ?_, ?_, e0, rfl, fun _ => rfl⟩⟩
    · show (match gp_cs x with
        | none => _
        | some l => _)
      rw [hcs]
      exact .inl ⟨h, rfl⟩
    · show (match gp_cs x with
        | none => _
        | some l => _)
      rw [hcs]
      exact .inr ⟨h, rfl⟩
    · obtain ⟨e5, e6⟩ := e1
      refine ⟨gm_eqr_gr (l := [0, 1]) (fun k hk => by
        simp only [List.mem_cons, List.not_mem_nil, or_false, not_or] at hk
        funext j
        exact e5 k j hk.1 hk.2) (by simp) (by simp) (by simp) (by simp) (by simp) (by simp) hg, ⟨e2, h, gj_put hcs l3 e3 e4, fun j hj => gj_ap_z hj⟩, ⟨(e6 4 (by omega) (by omega)).trans x1, x2, fun p hp => by rw [e5 2 p (by omega) (by omega)]; exact x3 p hp⟩, ⟨(e6 30 (by omega) (by omega)).trans m1, m2, fun i s t h => by rw [e5 24 i (by omega) (by omega), e5 25 i (by omega) (by omega)]; exact m3 i s t h, (e6 33 (by omega) (by omega)).trans m4, m5, (e6 34 (by omega) (by omega)).trans m6, m7⟩, fun r t h => ?_, ls2, ls3⟩
      obtain ⟨n, h1, h2, h3, h4⟩ := ls1 r t h
      exact ⟨n, h1, (e5 5 r (by omega) (by omega)).trans h2, fun k hk => by rw [e5 4 _ (by omega) (by omega)]; exact h3 k hk, h4⟩
theorem gjm_text (hJ : gj_M a S) {x : Int32} : gx_X gm_P (d + 2) 5 (0, [some (.ref 0), some (.int x), none, none], [], gm_h S, bc, bs) (gj_QM (gj_text x a)) := by
  obtain ⟨T, ch, ⟨nn, c⟩, ⟨Lx, y⟩, cp, f, v⟩ := a
  obtain ⟨hg, ⟨l1, l2, l3, l4⟩, ⟨x1, x2, x3⟩, ⟨m1, m2, m3, m4, m5, m6, m7⟩, ls1, ls2, ls3⟩ := id hJ
  refine gm_text x1 x2 ?_
  cases hcs : gp_cs x with
  | none =>
    refine ⟨1, 0, _, _, 0, ?_, gj_M_u0 hJ, gj_u00, rfl, fun _ => rfl⟩
    show (match gp_cs x with
      | none => _
      | some l => _)
    rw [hcs]
  | some l =>
    refine ⟨fun h => ⟨0, 0, _, _, 0, ?_, gj_M_u0 hJ, gj_u00, rfl, fun _ => rfl⟩, fun h S' e1 e0 e2 e3 e4 => ⟨0, 1, (T, ch, (nn, c), (Lx + l.length, gj_ap Lx y l), cp, f, v), S', 1, ?_, ?_, e0, rfl, fun _ => rfl⟩⟩
    · show (match gp_cs x with
        | none => _
        | some l => _)
      rw [hcs]
      exact .inl ⟨h, rfl⟩
    · show (match gp_cs x with
        | none => _
        | some l => _)
      rw [hcs]
      exact .inr ⟨h, rfl⟩
    · obtain ⟨e5, e6⟩ := e1
      refine ⟨gm_eqr_gr (l := [0, 2]) (fun k hk => by
        simp only [List.mem_cons, List.not_mem_nil, or_false, not_or] at hk
        funext j
        exact e5 k j hk.1 hk.2) (by simp) (by simp) (by simp) (by simp) (by simp) (by simp) hg, ⟨(e6 2 (by omega) (by omega)).trans l1, l2, fun i hi => by rw [e5 1 i (by omega) (by omega)]; exact l3 i hi, l4⟩, ⟨e2, h, gj_put' hcs x3 e3 e4⟩, ⟨(e6 30 (by omega) (by omega)).trans m1, m2, fun i s t h => by rw [e5 24 i (by omega) (by omega), e5 25 i (by omega) (by omega)]; exact m3 i s t h, (e6 33 (by omega) (by omega)).trans m4, m5, (e6 34 (by omega) (by omega)).trans m6, m7⟩, fun r t h => ?_, ls2, ls3⟩
      obtain ⟨n, h1, h2, h3, h4⟩ := ls1 r t h
      exact ⟨n, h1, (e5 5 r (by omega) (by omega)).trans h2, fun k hk => by rw [e5 4 _ (by omega) (by omega)]; exact h3 k hk, h4⟩
theorem gjm_clear (hJ : gj_M a S) {o1 : Option Value} : gx_X gm_P (d + 1) 6 (0, [some (.ref 0), o1], [], gm_h S, bc, bs) (gj_QM (gj_clear a)) := by
  obtain ⟨T, ch, ⟨nn, c⟩, ⟨Lx, y⟩, cp, f, v⟩ := a
  have hJ2 := gj_M_u0 (z := 0) hJ
  obtain ⟨hg, ⟨l1, l2, l3, l4⟩, ⟨x1, x2, x3⟩, ⟨m1, m2, m3, m4, m5, m6, m7⟩, ls1, ls2, ls3⟩ := id hJ2
  have e1 : ∀ k j, (k = 0 → j ≠ 4) → gm_u (gm_u S 0 0 0) 0 4 0 k j = gm_u S 0 0 0 k j := fun k j h => by rw [gm_u_at, if_neg (by omega)]
  have hx1 : S 0 4 = nI Lx := hJ.2.2.1.1
  refine gb_clear_0 ⟨0, nI Lx, (T, ch, (nn, c), (0, y), cp, f, v), _, S 0 4, rfl, ⟨gm_gr_u0 hg, ⟨(e1 0 2 (by omega)).trans l1, l2, fun i hi => by rw [e1 1 i (by omega)]; exact l3 i hi, l4⟩, ⟨by rw [gm_u_at, if_pos ⟨rfl, rfl⟩]; rfl, by omega, fun p hp => by omega⟩, ⟨(e1 0 30 (by omega)).trans m1, m2, fun i s t h => by rw [e1 24 i (by omega), e1 25 i (by omega)]; exact m3 i s t h, (e1 0 33 (by omega)).trans m4, m5, (e1 0 34 (by omega)).trans m6, m7⟩, fun r t h => ?_, ls2, ls3⟩, (e1 0 0 (by omega)).trans gj_u00, rfl, fun _ => hx1⟩
  obtain ⟨n, h1, h2, h3, h4⟩ := ls1 r t h
  exact ⟨n, h1, (e1 5 r (by omega)).trans h2, fun k hk => by rw [e1 4 _ (by omega)]; exact h3 k hk, h4⟩
theorem gjm_captures (hJ : gj_M a S) : gx_X gm_P (d + 1) 45 (0, [some (.ref 0)], [], gm_h S, bc, bs) (gj_QM (gj_captures a)) := by
  obtain ⟨T, ch, ⟨nn, c⟩, ⟨Lx, y⟩, cp, f, v⟩ := a
  exact gb_captures_0 ⟨0, _, _, _, _, rfl, gj_M_u0 hJ, gj_u00, rfl, fun _ => hJ.2.2.2.1.1⟩
theorem gjm_farthest (hJ : gj_M a S) : gx_X gm_P (d + 1) 47 (0, [some (.ref 0)], [], gm_h S, bc, bs) (gj_QM (gj_farthest a)) := by
  obtain ⟨T, ch, ⟨nn, c⟩, ⟨Lx, y⟩, cp, f, v⟩ := a
  exact gb_farthest_0 ⟨0, _, _, _, _, rfl, gj_M_u0 hJ, gj_u00, rfl, fun _ => hJ.2.2.2.1.2.2.2.1⟩
theorem gjm_tried (hJ : gj_M a S) : gx_X gm_P (d + 1) 48 (0, [some (.ref 0)], [], gm_h S, bc, bs) (gj_QM (gj_tried a)) := by
  obtain ⟨T, ch, ⟨nn, c⟩, ⟨Lx, y⟩, cp, f, v⟩ := a
  exact gb_tried_0 ⟨0, _, _, _, _, rfl, gj_M_u0 hJ, gj_u00, rfl, fun _ => hJ.2.2.2.1.2.2.2.2.2.1⟩
theorem gjm_check (hJ : gj_M a S) {x : Int32} : gx_X gm_P (d + 4) 28 (0, [some (.ref 0), some (.int x)], [], gm_h S, bc, bs) (gj_QM (gj_check x a)) := by
  obtain ⟨T, ch, ⟨nn, c⟩, ⟨Lx, y⟩, cp, f, v⟩ := a
  obtain ⟨hg, ⟨l1, l2, l3, l4⟩, ⟨x1, x2, x3⟩, ⟨m1, m2, m3, m4, m5, m6, m7⟩, ls1, ls2, ls3⟩ := id (gj_M_u0 (z := 0) hJ)
  refine gm_check hJ.1 (fun r hr hx S' e1 => ⟨0, _, (T, ch, (nn, c), (Lx, y), cp, f, v), S', _, .inr ⟨r, hr, hx, rfl⟩, ?_, by rw [e1 0 (by simp)]; exact gj_u00, rfl, fun _ => rfl⟩) (fun h => ⟨1, 0, _, _, 0, .inl ⟨h, rfl⟩, gj_M_u0 hJ, gj_u00, rfl, fun _ => rfl⟩)
  have q0 := e1 0 (by simp)
  have q1 := e1 1 (by simp)
  have q2 := e1 2 (by simp)
  have q4 := e1 4 (by simp)
  have q5 := e1 5 (by simp)
  have q24 := e1 24 (by simp)
  have q25 := e1 25 (by simp)
  unfold gj_M gm_ln gm_tx gm_lt gj_ls
  rw [q0, q1, q2, q4, q5, q24, q25]
  exact ⟨gm_eqr_gr e1 (by simp) (by simp) (by simp) (by simp) (by simp) (by simp) hg, ⟨l1, l2, l3, l4⟩, ⟨x1, x2, x3⟩, ⟨m1, m2, m3, m4, m5, m6, m7⟩, ls1, ls2, ls3⟩
/-- behind a match or find -/
theorem gj_M_X {T : Nat → Option gt_T} {ch : Nat → Nat → Nat} {nn : Nat} {c : Nat → Nat} {Lx : Nat} {y : Nat → Nat} {cp cp' : List (Nat × Nat)} {f f' : Nat} {v v' : Nat → Bool} {S' : Nat → Nat → Int32} (hJ : gj_M (T, ch, (nn, c), (Lx, y), cp, f, v) S) (h : gm_eqX S S') (hl : gm_lt S' cp' f' (gp_ct (fun k => (v' k).toNat) 40)) : gj_M (T, ch, (nn, c), (Lx, y), cp', f', v') S' := by
  obtain ⟨hg, ⟨l1, l2, l3, l4⟩, ⟨x1, x2, x3⟩, -, ls1, ls2, ls3⟩ := hJ
  have q1 := h.1 1 (by simp)
  have q2 := h.1 2 (by simp)
  have q4 := h.1 4 (by simp)
  have q5 := h.1 5 (by simp)
  have q02 := h.2 2 (by simp)
  have q04 := h.2 4 (by simp)
  unfold gj_M gm_ln gm_tx gj_ls
  rw [q1, q2, q4, q5, q02, q04]
  exact ⟨gm_eqr_gr h.1 (by simp) (by simp) (by simp) (by simp) (by simp) (by simp) hg, ⟨l1, l2, l3, l4⟩, ⟨x1, x2, x3⟩, hl, ls1, ls2, ls3⟩
theorem gj_ee (q : Option Nat) : gp_e (some q) = gc_e q := by cases q <;> rfl
theorem gjm_match (hJ : gj_M a S) {z1 z2 : Int32} : gx_X gm_P (d + 6) 43 (0, [some (.ref 0), some (.int z1), some (.int z2)], [], gm_h S, bc, bs) (gj_QM (gj_match z1 z2 a)) := by
  obtain ⟨T, ch, ⟨nn, c⟩, ⟨Lx, y⟩, cp, f, v⟩ := a
  refine gm_match hJ.1 hJ.2.2.1 (fun h => ⟨1, 0, _, _, 0, .inl ⟨h, rfl⟩, gj_M_u0 hJ, gj_u00, rfl, fun _ => rfl⟩)
    (fun r p hr hp e e' hk S' hX hl h0 => ⟨2, 0, (T, ch, (nn, c), (Lx, y), cp, f, v), S', 0, .inr ⟨r, p, hr, hp, e, e', .inl ⟨hk, rfl⟩⟩, gj_M_X hJ hX (by rw [hl]; exact hJ.2.2.2.1), h0, rfl, fun _ => rfl⟩)
    (fun r p hr hp e e' hk S' f' v' hX h0 hl hF hV => ⟨0, _, (T, ch, (nn, c), (Lx, y), _, f', v'), S', _, .inr ⟨r, p, hr, hp, e, e', .inr ⟨hk, f', v', hF, hV, rfl⟩⟩, gj_M_X hJ hX hl, h0, rfl, fun _ => gj_ee _⟩)
theorem gjm_find (hJ : gj_M a S) {z1 : Int32} : gx_X gm_P (d + 6) 44 (0, [some (.ref 0), some (.int z1), none], [], gm_h S, bc, bs) (gj_QM (gj_find z1 a)) := by
  obtain ⟨T, ch, ⟨nn, c⟩, ⟨Lx, y⟩, cp, f, v⟩ := a
  refine gm_find hJ.1 hJ.2.2.1 (fun h => ⟨1, 0, _, _, 0, .inl ⟨h, rfl⟩, gj_M_u0 hJ, gj_u00, rfl, fun _ => rfl⟩)
    (fun r hr e hk S' hX hl h0 => ⟨2, 0, (T, ch, (nn, c), (Lx, y), cp, f, v), S', 0, .inr ⟨r, hr, e, .inl ⟨hk, rfl⟩⟩, gj_M_X hJ hX (by rw [hl]; exact hJ.2.2.2.1), h0, rfl, fun _ => rfl⟩)
    (fun r hr e hk S' p f' v' hp hpL hX h0 hl hF hV => ⟨0, _, (T, ch, (nn, c), (Lx, y), _, f', v'), S', _, .inr ⟨r, hr, e, .inr ⟨hk, p, f', v', hp, hF, hV, rfl⟩⟩, gj_M_X hJ hX hl, h0, rfl, fun _ => gj_ee _⟩)
theorem gjm_capture (hJ : gj_M a S) {z1 z2 : Int32} : gx_X gm_P (d + 1) 46 (0, [some (.ref 0), some (.int z1), some (.int z2)], [], gm_h S, bc, bs) (gj_QM (gj_capture z1 z2 a)) := by
  obtain ⟨T, ch, ⟨nn, c⟩, ⟨Lx, y⟩, cp, f, v⟩ := a
  refine gm_capture hJ.2.2.2.1 (fun h => ⟨1, 0, _, _, 0, .inl ⟨h, rfl⟩, gj_M_u0 hJ, gj_u00, rfl, fun _ => rfl⟩) (fun i s t e1 e2 e3 => ⟨0, _, _, _, _, .inr ⟨i, s, t, e1, e2, ?_, ?_, rfl⟩, gj_M_u0 hJ, gj_u00, rfl, fun _ => rfl⟩)
  · rcases e3 with rfl | rfl <;> decide
  · rcases e3 with rfl | rfl <;> decide
theorem gjm_shown (hJ : gj_M a S) {z1 z2 : Int32} : gx_X gm_P (d + 2) 21 (0, [some (.ref 0), some (.int z1), some (.int z2)], [], gm_h S, bc, bs) (gj_QM (gj_shown z1 z2 a)) := by
  obtain ⟨T, ch, ⟨nn, c⟩, ⟨Lx, y⟩, cp, f, v⟩ := a
  obtain ⟨hg, -, -, -, ls1, ls2, ls3⟩ := id hJ
  refine gm_shown2 hg (fun r t h => ?_) (fun r t k n h h5 hk hn => ?_) (fun h => ?_) (fun r t k n e1 e2 h h5 hk hn => ?_)
  · obtain ⟨n, h1, h2, -⟩ := ls1 r t h
    exact ⟨n, h1, h2⟩
  · obtain ⟨n', h1, h2, h3, h4⟩ := ls1 r t h
    have hr := (hg.2.2 r t h).1
    have e : n' = n := (nI_eq (by omega) (by omega)).mp (h2.symm.trans h5)
    subst e
    exact ⟨ch r k, h3 k hk, ls3 r k hr (by omega)⟩
  · by_cases hv : ∃ r k, r < 4 ∧ k < 20 ∧ z1 = nI r ∧ z2 = nI k
    · obtain ⟨r, k, hr, hk, e1, e2⟩ := hv
      refine ⟨0, nI (ch r k), _, _, 0, .inr ⟨r, k, hr, hk, e1, e2, rfl⟩, gj_M_u0 hJ, gj_u00, rfl, fun _ => ?_⟩
      have hz : ch r k = 0 := by
        cases hT : T r with
        | none => exact ls2 r hr hT k hk
        | some t =>
          obtain ⟨n', h1, h2, h3, h4⟩ := ls1 r t hT
          by_cases hkn : k < n'
          · exact absurd ⟨r, t, k, n', e1, e2, hT, h2, hkn, h1⟩ h
          · exact h4 k (by omega) hk
      rw [hz]
      rfl
    · exact ⟨0, 0, _, _, 0, .inl ⟨hv, rfl⟩, gj_M_u0 hJ, gj_u00, rfl, fun _ => rfl⟩
  · obtain ⟨n', h1, h2, h3, h4⟩ := ls1 r t h
    have hr := (hg.2.2 r t h).1
    have e : n' = n := (nI_eq (by omega) (by omega)).mp (h2.symm.trans h5)
    subst e
    exact ⟨0, nI (ch r k), _, _, _, .inr ⟨r, k, hr, by omega, e1, e2, rfl⟩, gj_M_u0 hJ, gj_u00, rfl, fun _ => h3 k hk⟩
theorem gjm_drop (hJ : gj_M a S) {x : Int32} : gx_X gm_P (d + 2) 20 (0, [some (.ref 0), some (.int x)], [], gm_h S, bc, bs) (gj_QM (gj_drop x a)) := by
  obtain ⟨T, ch, ⟨nn, c⟩, ⟨Lx, y⟩, cp, f, v⟩ := a
  refine gm_drop ?_
  by_cases hv : ¬ x < 0 ∧ x < 4
  · rw [if_pos hv]
    obtain ⟨r, hr, rfl⟩ := gp_rule hv
    rw [nI_clamp (show r < 2 ^ 31 by omega)]
    obtain ⟨hg, ⟨l1, l2, l3, l4⟩, ⟨x1, x2, x3⟩, ⟨m1, m2, m3, m4, m5, m6, m7⟩, ls1, ls2, ls3⟩ := id (gj_M_u0 (z := 0) hJ)
    have key : ∀ S', (∀ k j, (k = 3 → j ≠ r) → S' k j = gm_u S 0 0 0 k j) → S' 3 r = 0 → gj_M (va_up T r none, va_up ch r (fun _ => 0), (nn, c), (Lx, y), cp, f, v) S' := fun S' e1 e3 => by
      refine ⟨⟨fun r' hr' => ?_, fun r' hr' => by rw [e1 6 r' (by omega)]; exact hg.2.1 r' hr', fun r' t h => ?_⟩, ⟨(e1 0 2 (by omega)).trans l1, l2, fun i hi => by rw [e1 1 i (by omega)]; exact l3 i hi, l4⟩, ⟨(e1 0 4 (by omega)).trans x1, x2, fun p hp => by rw [e1 2 p (by omega)]; exact x3 p hp⟩, ⟨(e1 0 30 (by omega)).trans m1, m2, fun i s t h => by rw [e1 24 i (by omega), e1 25 i (by omega)]; exact m3 i s t h, (e1 0 33 (by omega)).trans m4, m5, (e1 0 34 (by omega)).trans m6, m7⟩, fun r' t h => ?_, fun r' hr' h k hk => ?_, fun r' k hr' hk => ?_⟩
      · by_cases hrr : r' = r
        · subst hrr
          rw [e3, va_up_self]; rfl
        · rw [e1 3 r' (fun _ => hrr), va_up_ne _ _ hrr]; exact hg.1 r' hr'
      · have hrr : r' ≠ r := fun e => by rw [e, va_up_self] at h; cases h
        rw [va_up_ne _ _ hrr] at h
        have h9 := (hg.2.2 r' t h)
        exact gm_rl_eq (S0 := gm_u S 0 0 0) (fun k n hk _ _ => e1 k n (fun e => by subst e; simp at hk)) (e1 6 r' (by omega)) (hg.2.1 r' h9.1) h9
      · have hrr : r' ≠ r := fun e => by rw [e, va_up_self] at h; cases h
        rw [va_up_ne _ _ hrr] at h
        rw [va_up_ne _ _ hrr]
        obtain ⟨n, h1, h2, h3, h4⟩ := ls1 r' t h
        exact ⟨n, h1, (e1 5 r' (by omega)).trans h2, fun k hk => by rw [e1 4 _ (by omega)]; exact h3 k hk, h4⟩
      · by_cases hrr : r' = r
        · subst hrr
          rw [va_up_self]
        · rw [va_up_ne _ _ hrr] at h ⊢
          exact ls2 r' hr' h k hk
      · by_cases hrr : r' = r
        · subst hrr
          rw [va_up_self]; exact Nat.zero_le _
        · rw [va_up_ne _ _ hrr]; exact ls3 r' k hr' hk
    have h3 : S 3 r = gp_b (T r).isSome := hJ.1.1 r hr
    have h3' : gm_u S 0 0 0 3 r = S 3 r := by rw [gm_u_at, if_neg (by omega)]
    by_cases hd : S 3 r = 0
    · rw [if_pos hd]
      exact ⟨0, _, _, _, 0, .inr ⟨r, hr, rfl, rfl⟩, key _ (fun _ _ _ => rfl) (h3'.trans hd), gj_u00, rfl, fun _ => hd.symm.trans h3⟩
    · rw [if_neg hd]
      refine ⟨0, _, _, _, 1, .inr ⟨r, hr, rfl, rfl⟩, key _ (fun k j h => by rw [gm_u_at, if_neg (by omega)]) (by rw [gm_u_at, if_pos ⟨rfl, rfl⟩]), by rw [gm_u_at, if_neg (by omega)]; exact gj_u00, rfl, fun _ => ?_⟩
      rw [h3] at hd
      cases hT : (T r).isSome with
      | true => rfl
      | false => rw [hT] at hd; exact absurd rfl hd
  · rw [if_neg hv]
    exact ⟨1, 0, _, _, 0, .inl ⟨hv, rfl⟩, gj_M_u0 hJ, gj_u00, rfl, fun _ => rfl⟩
theorem gjm_define (hJ : gj_M a S) : gx_X gm_P (d + 7) 19 (0, [some (.ref 0), none, none, none, none], [], gm_h S, bc, bs) (gj_QM (gj_define a)) := by
  obtain ⟨T, ch, ⟨nn, c⟩, ⟨Lx, y⟩, cp, f, v⟩ := a
  obtain ⟨hg, ⟨l1, l2, l3, l4⟩, ⟨x1, x2, x3⟩, ⟨m1, m2, m3, m4, m5, m6, m7⟩, ls1, ls2, ls3⟩ := id hJ
  have key : ∀ S' T' ch', gm_eqD S S' → gm_gr S' T' → gj_ls S' T' ch' → gj_M (T', ch', (0, fun _ => 0), (Lx, y), cp, f, v) S' := fun S' T' ch' e1 g' hls => by
    obtain ⟨e1, e2, e3⟩ := e1
    refine ⟨g', ⟨e3, by omega, fun i hi => by omega, fun i _ => rfl⟩, ⟨(e2 4 (by simp)).trans x1, x2, fun p hp => by rw [e1 2 (by simp)]; exact x3 p hp⟩, ⟨(e2 30 (by simp)).trans m1, m2, fun i s t h => by rw [e1 24 (by simp), e1 25 (by simp)]; exact m3 i s t h, (e2 33 (by simp)).trans m4, m5, (e2 34 (by simp)).trans m6, m7⟩, hls⟩
  refine gm_define ⟨l1, l2, l3, l4⟩ hg (fun hq S' e1 h0 g' h4 h5 => ⟨1, 0, _, S', 0, ?_, key S' T ch e1 g' (by unfold gj_ls; rw [h4, h5]; exact ⟨ls1, ls2, ls3⟩), h0, rfl, fun _ => rfl⟩) (fun rr t S' hq e1 h0 g' h4 h4' h5 h5' => ⟨0, nI rr, _, S', _, ?_, key S' (va_up T rr (some t)) (va_up ch rr c) e1 g' ?_, h0, rfl, fun _ => rfl⟩)
  · show (match gq_line c nn with
      | none => _
      | some (r, t) => _)
    rw [hq]
  · show (match gq_line c nn with
      | none => _
      | some (r, t) => _)
    rw [hq]
  · obtain ⟨q1, q2, q3, q4⟩ := gq_line_ok l4 hq
    have hrr : rr < 4 := (g'.2.2 rr t gp_at_eq).1
    refine ⟨fun r t' h => ?_, fun r hr h k hk => ?_, fun r k hr hk => ?_⟩
    · by_cases hr : r = rr
      · subst hr
        rw [va_up_self]
        exact ⟨nn, l2, h5', fun k hk => h4' k hk, fun k hk _ => l4 k hk⟩
      · rw [va_up_ne _ _ hr] at h
        rw [va_up_ne _ _ hr]
        obtain ⟨n, h1, h2, h3, h4x⟩ := ls1 r t' h
        exact ⟨n, h1, (h5 r hr).trans h2, fun k hk => by rw [h4 _ (by omega)]; exact h3 k hk, h4x⟩
    · have hne : r ≠ rr := fun e => by rw [e, va_up_self] at h; cases h
      rw [va_up_ne _ _ hne] at h ⊢
      exact ls2 r hr h k hk
    · by_cases hne : r = rr
      · subst hne
        rw [va_up_self]
        by_cases hkn : k < nn
        · exact (l3 k hkn).2.2
        · rw [l4 k (by omega)]; exact Nat.zero_le _
      · rw [va_up_ne _ _ hne]; exact ls3 r k hr hk
end GJM
