/-! The class's define. -/
section GDA
variable {d bc bs : Nat} {S : Nat → Nat → Int32} {P : Nat → Option Nat} {R : Nat → Int64} {E : gx_H} {Q : gx_R → Prop} {nn : Nat} {c : Nat → Nat} {T : Nat → Option gt_T} {ch : Nat → Nat → Nat}
theorem gc_define (hg : gc_gr S P E T ch) (hs : S 0 5 = nI nn) (hn : nn ≤ 20) (hc : ∀ j, j < nn → S 1 j = nI (c j) ∧ 32 ≤ c j ∧ c j ≤ 126) (hz : ∀ j, nn ≤ j → c j = 0) (hbc : 1300 ≤ bc) (hbs : 9000 ≤ bs) {o1 o2 o3 : Option Value}
    (hq : match gq_line c nn with
      | none => ∀ S' E', (∀ k j, k ≠ 3 → k ≠ 4 → (k = 0 → j ≠ 5) → S' k j = S k j) → S' 0 5 = 0 → gc_fr E E' → gc_gr S' P E' T ch → Q (.inr "java/lang/IllegalArgumentException", gc_h S' P R E')
      | some (r, t) => ∀ S' P' E', (∀ k j, k ≠ 3 → k ≠ 4 → k ≠ 7 → (k = 0 → j ≠ 5) → S' k j = S k j) → S' 0 5 = 0 → gc_fr E E' → gc_gr S' P' E' (va_up T r (some t)) (va_up ch r c) → Q (.inl (some (.int (nI r))), gc_h S' P' R E')) :
    gx_X gc_P (d + 48) 18 (0, [some (.ref 0), o1, o2, o3], [], gc_h S P R E, bc, bs) Q := by
  have hS : ∀ k j, (k = 0 → j ≠ 5) → gm_u S 0 5 0 k j = S k j := fun k j h => by rw [gm_u_at, if_neg (by omega)]
  refine gd_M_define_0 ?_
  rw [hs]
  refine ⟨1300, 9000, ⟨hbc, hbs⟩, gc_readLine (S := gm_u S 0 5 0) (ch := c) hn (fun j hj => by rw [hS 1 j (by omega)]; exact hc j hj) hz (Nat.le_refl _) (Nat.le_refl _) ?_⟩
  cases hl : gq_line c nn with
  | none =>
    rw [hl] at hq
    intro S' E' h1 fr
    exact hq S' E' (fun k j k3 k4 k5 => by rw [h1 k j k3 k4, hS k j k5]) (by rw [h1 0 5 (by omega) (by omega), gm_u_at, if_pos ⟨rfl, rfl⟩]) fr (fr.gr (gc_gr_S (fun j => by rw [h1 7 j (by omega) (by omega), hS 7 j (by omega)]) hg))
  | some rt =>
    obtain ⟨r, t⟩ := rt
    rw [hl] at hq
    obtain ⟨q1, q2, q3, q4⟩ := gq_line_ok hz hl
    intro S' E' w h1 fr tr
    have e7 : ∀ j, S' 7 j = S 7 j := fun j => by rw [h1 7 j (by omega) (by omega), hS 7 j (by omega)]
    have e1 : ∀ j, S' 1 j = S 1 j := fun j => by rw [h1 1 j (by omega) (by omega), hS 1 j (by omega)]
    have es : S' 1 0 - 65 = nI r := by
      rw [e1 0, (hc 0 (by omega)).1, q2]
      rw [show nI (65 + r) = nI r + 65 by rw [Nat.add_comm]; exact Int32.ofNat_add r 65, Int32.add_sub_cancel]
    have hht : gt_ht t ≤ 100 := by
      unfold gq_line at hl
      split at hl
      · cases hr : gq c 6 2 with
        | none => rw [hr] at hl; cases hl
        | some tq =>
          obtain ⟨t', q⟩ := tq
          rw [hr] at hl
          simp only at hl
          have h3 := (gq_all_ok hz 6 2 t' q hr).1.2.1
          have h4 := gq_all_ht 6 2 t' q hr
          split at hl
          · cases hl
          · cases hl; omega
      · cases hl
    refine gd_M_define_22 ?_
    rw [es]
    refine ⟨0, 0, ⟨Nat.zero_le _, Nat.zero_le _⟩, gc_put (d := d + 45) (t := t) (c := c) (fr.gr (gc_gr_S e7 hg)) q1 hn (fun i hi => by rw [e1 i]; exact ⟨(hc i hi).1, (hc i hi).2.2⟩) hz (gc_tr.le gc_mk_all t tr) hht (fun k hk => ((q4 k).mp hk).1) (fun k hk => ?_) (fun S2 h2 g2 => gd_M_define_47 (hq S2 _ E' (fun k j k3 k4 k7 k5 => ?_) ?_ fr g2))⟩
    · rw [q4 k]
      constructor
      · rintro ⟨_, j, j1, j2, j3⟩
        exact ⟨j, j1, by omega, j3⟩
      · rintro ⟨j, j1, j2, j3⟩
        refine ⟨hk, j, j1, ?_, j3⟩
        rcases Nat.lt_or_ge j nn with h | h
        · exact h
        · rw [hz j h] at j3; omega
    · rw [h2 k j k7, h1 k j k3 k4, hS k j k5]
    · rw [h2 0 5 (by omega), h1 0 5 (by omega) (by omega), gm_u_at, if_pos ⟨rfl, rfl⟩]
end GDA
