/-! A call comes to one thing; how it begins. -/
section GJD
variable {a : gj_A} {o o' : gj_O}
theorem gj_type_det {x : Int32} (h : gj_type x a o) (h' : gj_type x a o') : o = o' := by
  obtain ⟨T, ch, ⟨nn, c⟩, tx, m⟩ := a
  unfold gj_type at h h'
  cases hc : gp_cs x with
  | none => rw [hc] at h h'; exact h.trans h'.symm
  | some l =>
    rw [hc] at h h'
    rcases h with ⟨h1, h2⟩ | ⟨h1, h2⟩ <;> rcases h' with ⟨h3, h4⟩ | ⟨h3, h4⟩
    · exact h2.trans h4.symm
    · exact absurd h1 (by omega)
    · exact absurd h1 (by omega)
    · exact h2.trans h4.symm
theorem gj_text_det {x : Int32} (h : gj_text x a o) (h' : gj_text x a o') : o = o' := by
  obtain ⟨T, ch, ln, ⟨Lx, y⟩, m⟩ := a
  unfold gj_text at h h'
  cases hc : gp_cs x with
  | none => rw [hc] at h h'; exact h.trans h'.symm
  | some l =>
    rw [hc] at h h'
    rcases h with ⟨h1, h2⟩ | ⟨h1, h2⟩ <;> rcases h' with ⟨h3, h4⟩ | ⟨h3, h4⟩
    · exact h2.trans h4.symm
    · exact absurd h1 (by omega)
    · exact absurd h1 (by omega)
    · exact h2.trans h4.symm
theorem gj_define_det (h : gj_define a o) (h' : gj_define a o') : o = o' := by
  obtain ⟨T, ch, ⟨nn, c⟩, tx, m⟩ := a
  cases hc : gq_line c nn with
  | none =>
    simp only [gj_define, hc] at h h'
    exact h.trans h'.symm
  | some rt =>
    simp only [gj_define, hc] at h h'
    exact h.trans h'.symm
theorem gj_nr {r : Nat} (hr : r < 4) : ¬ nI r < 0 ∧ nI r < 4 := ⟨nI_pos (by omega), nI_lt (b := 4) hr (by decide)⟩
theorem gj_r {r s : Nat} (hr : r < 4) (hs : s < 4) (e : nI r = nI s) : r = s := (nI_eq (by omega) (by omega)).mp e
theorem gj_drop_det {x : Int32} (h : gj_drop x a o) (h' : gj_drop x a o') : o = o' := by
  obtain ⟨T, ch, ln, tx, m⟩ := a
  rcases h with ⟨h1, h2⟩ | ⟨r, h1, h2, h3⟩ <;> rcases h' with ⟨h4, h5⟩ | ⟨r', h4, h5, h6⟩
  · exact h2.trans h5.symm
  · exact absurd (h5 ▸ gj_nr h4) h1
  · exact absurd (h2 ▸ gj_nr h1) h4
  · have := gj_r h1 h4 (h2.symm.trans h5)
    subst this
    exact h3.trans h6.symm
theorem gj_check_det {x : Int32} (h : gj_check x a o) (h' : gj_check x a o') : o = o' := by
  rcases h with ⟨h1, h2⟩ | ⟨r, h1, h2, h3⟩ <;> rcases h' with ⟨h4, h5⟩ | ⟨r', h4, h5, h6⟩
  · exact h2.trans h5.symm
  · exact absurd (h5 ▸ gj_nr h4) h1
  · exact absurd (h2 ▸ gj_nr h1) h4
  · have := gj_r h1 h4 (h2.symm.trans h5)
    subst this
    exact h3.trans h6.symm
theorem gj_shown_det {z1 z2 : Int32} (h : gj_shown z1 z2 a o) (h' : gj_shown z1 z2 a o') : o = o' := by
  rcases h with ⟨h1, h2⟩ | ⟨r, k, h1, h2, h3, h4, h5⟩ <;> rcases h' with ⟨g1, g2⟩ | ⟨r', k', g1, g2, g3, g4, g5⟩
  · exact h2.trans g2.symm
  · exact absurd ⟨r', k', g1, g2, g3, g4⟩ h1
  · exact absurd ⟨r, k, h1, h2, h3, h4⟩ g1
  · have e1 := gj_r h1 g1 (h3.symm.trans g3)
    have e2 : k = k' := (nI_eq (by omega) (by omega)).mp (h4.symm.trans g4)
    subst e1
    subst e2
    exact h5.trans g5.symm
theorem gj_clear_det (h : gj_clear a o) (h' : gj_clear a o') : o = o' := by
  obtain ⟨T, ch, ln, ⟨Lx, y⟩, m⟩ := a
  exact Eq.trans h (Eq.symm h')
theorem gj_captures_det (h : gj_captures a o) (h' : gj_captures a o') : o = o' := by
  obtain ⟨T, ch, ln, tx, cp, f, v⟩ := a
  exact Eq.trans h (Eq.symm h')
theorem gj_farthest_det (h : gj_farthest a o) (h' : gj_farthest a o') : o = o' := by
  obtain ⟨T, ch, ln, tx, cp, f, v⟩ := a
  exact Eq.trans h (Eq.symm h')
theorem gj_tried_det (h : gj_tried a o) (h' : gj_tried a o') : o = o' := by
  obtain ⟨T, ch, ln, tx, cp, f, v⟩ := a
  exact Eq.trans h (Eq.symm h')
theorem gj_capture_det {z1 z2 : Int32} (hc : a.2.2.2.2.1.length ≤ 40) (h : gj_capture z1 z2 a o) (h' : gj_capture z1 z2 a o') : o = o' := by
  obtain ⟨T, ch, ln, tx, cp, f, v⟩ := a
  have hc : cp.length ≤ 40 := hc
  have hv : ∀ k (s : Nat × Nat), cp[k]? = some s → k < cp.length := fun k s h => (List.getElem?_eq_some_iff.mp h).1
  rcases h with ⟨h1, h2⟩ | ⟨k, s, t, h1, h2, h3, h4, h5⟩ <;> rcases h' with ⟨g1, g2⟩ | ⟨k', s', t', g1, g2, g3, g4, g5⟩
  · exact h2.trans g2.symm
  · have := hv _ _ g2
    exact absurd (g1 ▸ ⟨nI_pos (by omega), nI_lt (by omega) (by omega), g3, g4⟩) h1
  · have := hv _ _ h2
    exact absurd (h1 ▸ ⟨nI_pos (by omega), nI_lt (by omega) (by omega), h3, h4⟩) g1
  · have q1 := hv _ _ g2
    have q2 := hv _ _ h2
    have e : k = k' := (nI_eq (by omega) (by omega)).mp (h1.symm.trans g1)
    subst e
    rw [g2] at h2
    cases h2
    exact h5.trans g5.symm
theorem gj_match_det {z1 z2 : Int32} (hL : a.2.2.2.1.1 ≤ 9) (h : gj_match z1 z2 a o) (h' : gj_match z1 z2 a o') : o = o' := by
  obtain ⟨T, ch, ln, ⟨Lx, y⟩, m⟩ := a
  have hL : Lx ≤ 9 := hL
  have ok : ∀ r p, r < 4 → p ≤ Lx → (¬ nI r < 0 ∧ nI r < 4) ∧ ¬ nI p < 0 ∧ ¬ nI Lx < nI p := fun r p hr hp => ⟨gj_nr hr, nI_pos (by omega), nI_nlt hp (by omega)⟩
  rcases h with ⟨h1, h2⟩ | ⟨r, p, h1, h2, h3, h4, h5⟩ <;> rcases h' with ⟨g1, g2⟩ | ⟨r', p', g1, g2, g3, g4, g5⟩
  · exact h2.trans g2.symm
  · exact absurd (g3 ▸ g4 ▸ ok r' p' g1 g2) h1
  · exact absurd (h3 ▸ h4 ▸ ok r p h1 h2) g1
  · have e1 := gj_r h1 g1 (h3.symm.trans g3)
    have e2 : p = p' := (nI_eq (by omega) (by omega)).mp (h4.symm.trans g4)
    subst e1
    subst e2
    rcases h5 with ⟨h5, h6⟩ | ⟨h5, f, v, h6, h7, h8⟩ <;> rcases g5 with ⟨g5, g6⟩ | ⟨g5, f', v', g6, g7, g8⟩
    · exact h6.trans g6.symm
    · exact absurd g5 h5
    · exact absurd h5 g5
    · rw [h6.eq g6, h7.eq g7] at h8
      exact h8.trans g8.symm
theorem gj_find_det {z1 : Int32} (h : gj_find z1 a o) (h' : gj_find z1 a o') : o = o' := by
  obtain ⟨T, ch, ln, ⟨Lx, y⟩, m⟩ := a
  rcases h with ⟨h1, h2⟩ | ⟨r, h1, h3, h5⟩ <;> rcases h' with ⟨g1, g2⟩ | ⟨r', g1, g3, g5⟩
  · exact h2.trans g2.symm
  · exact absurd (g3 ▸ gj_nr g1) h1
  · exact absurd (h3 ▸ gj_nr h1) g1
  · have e1 := gj_r h1 g1 (h3.symm.trans g3)
    subst e1
    rcases h5 with ⟨h5, h6⟩ | ⟨h5, p, f, v, hp, h6, h7, h8⟩ <;> rcases g5 with ⟨g5, g6⟩ | ⟨g5, p', f', v', gp, g6, g7, g8⟩
    · exact h6.trans g6.symm
    · exact absurd g5 h5
    · exact absurd h5 g5
    · have e : p = p' := by
        rcases hp with hp | ⟨hp, rfl⟩ <;> rcases gp with gp | ⟨gp, rfl⟩
        · rw [hp] at gp; exact Option.some.inj gp
        · rw [hp] at gp; cases gp
        · rw [hp] at gp; cases gp
        · rfl
      subst e
      rw [h6.eq g6, h7.eq g7] at h8
      exact h8.trans g8.symm
end GJD
def gj_a0 : gj_A := (fun _ => none, fun _ _ => 0, (0, fun _ => 0), (0, fun _ => 0), ([], 0, fun _ => false))
theorem gjm_0 : gj_M gj_a0 gm_S0 := by
  have h1 : gm_gr gm_S0 (fun _ => none) := ⟨fun r hr => by
    have aux : ∀ r, r < 4 → gm_S0 3 r = gp_b false := by decide
    exact aux r hr, fun r hr => by
    have aux : ∀ r, r < 4 → gp_n (gm_S0 6 r) ≤ 40 := by decide
    exact aux r hr, fun r t h => (nomatch h)⟩
  have h2 : gm_lt gm_S0 [] 0 (gp_ct (fun k => ((fun _ => false : Nat → Bool) k).toNat) 40) := by
    refine ⟨by decide, by decide, fun i a b h => by simp at h, by decide, by decide, by decide, by decide⟩
  exact ⟨h1, ⟨by decide, by decide, fun i hi => by omega, fun i _ => rfl⟩, ⟨by decide, by decide, fun p hp => by omega⟩, h2, fun r t h => (nomatch h), fun _ _ _ _ _ => rfl, fun _ _ _ _ => Nat.zero_le _⟩
theorem gjc_0 : gj_C gj_a0 gc_S0 (fun _ => none) (fun _ => 0) [] := by
  have h7 : ∀ j, gc_S0 7 j = 0 := fun j => rfl
  refine ⟨⟨fun _ _ _ => rfl, fun r t h => (nomatch h), fun r t h => (nomatch h), fun r j _ _ => ⟨h7 _, Nat.zero_le _⟩, fun r k _ _ => ⟨fun h => (nomatch h), fun ⟨j, _, _, h⟩ => ?_⟩⟩, ⟨by decide, by decide, fun j hj => by omega, fun _ _ => rfl⟩, ⟨by decide, by decide, fun p hp => by omega⟩, .inl ⟨by decide, rfl, rfl, rfl⟩⟩
  have h' : (0 : Nat) = 65 + k := h
  omega
