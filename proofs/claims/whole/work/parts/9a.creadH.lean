/-! How deep a line's pattern is; a whole choice; readLine; define. -/
section GHT
variable {ch : Nat → Nat}
theorem gq_lk_ht : ∀ (m i : Nat) (t : gt_T), gt_ht (gq_lk ch m i t) = gt_ht t + m
  | 0, _, _ => rfl
  | m + 1, i, t => by
    show gt_ht (gq_lk ch m (i + 1) t) + 1 = _
    rw [gq_lk_ht m (i + 1) t]
    omega
theorem gq_suf_ht {t : gt_T} {q : Nat} : gt_ht (gq_suf ch t q).1 + q ≤ gt_ht t + (gq_suf ch t q).2 ∧ q ≤ (gq_suf ch t q).2 := by
  unfold gq_suf
  split
  · exact ⟨by show gt_ht t + 1 + q ≤ gt_ht t + (q + 1); omega, Nat.le_succ _⟩
  · split
    · exact ⟨by show gt_ht t + 1 + q ≤ gt_ht t + (q + 1); omega, Nat.le_succ _⟩
    · split
      · exact ⟨by show gt_ht t + 1 + q ≤ gt_ht t + (q + 1); omega, Nat.le_succ _⟩
      · exact ⟨Nat.le_refl _, Nat.le_refl _⟩
theorem gq_atom_ht {f : Option (Nat → Option (gt_T × Nat))} (hf : ∀ g, f = some g → ∀ i t q, g i = some (t, q) → gt_ht t + 2 * i ≤ 2 * q + 2) {i : Nat} {t : gt_T} {q : Nat} (h : gq_atom ch f i = some (t, q)) : gt_ht t + 2 * i ≤ 2 * q := by
  unfold gq_atom at h
  split at h
  · cases f with
    | none => cases h
    | some g =>
      simp only at h
      cases hg : g (i + 1) with
      | none => rw [hg] at h; cases h
      | some tq =>
        obtain ⟨t1, q1⟩ := tq
        rw [hg] at h
        simp only at h
        split at h
        · cases h
          have := hf g rfl _ _ _ hg
          omega
        · cases h
  · split at h
    · cases f with
      | none => cases h
      | some g =>
        simp only at h
        split at h
        · cases h
          show 0 + 2 * i ≤ 2 * (i + 2)
          omega
        · cases hg : g (i + 1) with
          | none => rw [hg] at h; cases h
          | some tq =>
            obtain ⟨t1, q1⟩ := tq
            rw [hg] at h
            simp only at h
            split at h
            · cases h
              have := hf g rfl _ _ _ hg
              show gt_ht t1 + 1 + 2 * i ≤ 2 * (q1 + 1)
              omega
            · cases h
    · split at h
      · split at h
        · cases h
          show 0 + 2 * i ≤ 2 * (i + 5)
          omega
        · cases h
      · split at h
        · cases h
          show 0 + 2 * i ≤ 2 * (i + 1)
          omega
        · split at h
          · cases h
            show 0 + 2 * i ≤ 2 * (i + 1)
            omega
          · split at h
            · cases h
              show 0 + 2 * i ≤ 2 * (i + 1)
              omega
            · cases h
theorem gq_item_ht {f : Option (Nat → Option (gt_T × Nat))} (hf : ∀ g, f = some g → ∀ i t q, g i = some (t, q) → gt_ht t + 2 * i ≤ 2 * q + 2) {i : Nat} {t : gt_T} {q : Nat} (h : gq_item ch f i = some (t, q)) : gt_ht t + 2 * i ≤ 2 * q := by
  unfold gq_item at h
  cases ha : gq_atom ch f (gq_pre ch 20 i) with
  | none => rw [ha] at h; cases h
  | some tq =>
    obtain ⟨t1, q1⟩ := tq
    rw [ha] at h
    cases h
    have h1 := gq_atom_ht hf ha
    have h2 := (gq_pre_ok (ch := ch) 20 i).1
    obtain ⟨h3, h4⟩ := gq_suf_ht (ch := ch) (t := t1) (q := q1)
    rw [gq_lk_ht]
    omega
theorem gq_seq_ht {it : Nat → Option (gt_T × Nat)} (hi : ∀ i t q, it i = some (t, q) → gt_ht t + 2 * i ≤ 2 * q) : ∀ (m i : Nat) (t : gt_T) (q : Nat), gq_seq ch it m i = some (t, q) → gt_ht t + 2 * i ≤ 2 * q
  | 0, i, t, q, h => by cases h
  | m + 1, i, t, q, h => by
    unfold gq_seq at h
    cases h1 : it i with
    | none => rw [h1] at h; cases h
    | some tq =>
      obtain ⟨t1, q1⟩ := tq
      rw [h1] at h
      have a1 := hi _ _ _ h1
      simp only at h
      split at h
      · cases h; exact a1
      · cases h2 : gq_seq ch it m q1 with
        | none => rw [h2] at h; cases h
        | some tq =>
          obtain ⟨t2, q2⟩ := tq
          rw [h2] at h
          cases h
          have a2 := gq_seq_ht hi m q1 t2 _ h2
          show max (gt_ht t1) (gt_ht t2) + 2 * i ≤ _
          omega
theorem gq_chs_ht {sq : Nat → Option (gt_T × Nat)} (hs : ∀ i t q, sq i = some (t, q) → gt_ht t + 2 * i ≤ 2 * q) : ∀ (m i : Nat) (t : gt_T) (q : Nat), gq_chs ch sq m i = some (t, q) → gt_ht t + 2 * i ≤ 2 * q + 1 ∧ i ≤ q
  | 0, i, t, q, h => by cases h
  | m + 1, i, t, q, h => by
    unfold gq_chs at h
    cases h1 : sq i with
    | none => rw [h1] at h; cases h
    | some tq =>
      obtain ⟨t1, q1⟩ := tq
      rw [h1] at h
      have a1 := hs _ _ _ h1
      simp only at h
      split at h
      · cases h2 : gq_chs ch sq m (q1 + 1) with
        | none => rw [h2] at h; cases h
        | some tq =>
          obtain ⟨t2, q2⟩ := tq
          rw [h2] at h
          cases h
          have a2 := gq_chs_ht hs m (q1 + 1) t2 _ h2
          refine ⟨?_, by omega⟩
          show max (gt_ht t1 + 1) (gt_ht t2) + 2 * i ≤ _
          omega
      · cases h
        refine ⟨?_, by omega⟩
        show gt_ht t1 + 1 + 2 * i ≤ _
        omega
theorem gq_one_ht {f : Option (Nat → Option (gt_T × Nat))} (hf : ∀ g, f = some g → ∀ i t q, g i = some (t, q) → gt_ht t + 2 * i ≤ 2 * q + 2) {i : Nat} {t : gt_T} {q : Nat} (h : gq_one ch f i = some (t, q)) : gt_ht t + 2 * i ≤ 2 * q + 2 := by
  unfold gq_one at h
  cases h1 : gq_chs ch (gq_seq ch (gq_item ch f) 21) 21 i with
  | none => rw [h1] at h; cases h
  | some tq =>
    obtain ⟨t1, q1⟩ := tq
    rw [h1] at h
    cases h
    have := (gq_chs_ht (fun i t q h => gq_seq_ht (fun i t q h => gq_item_ht hf h) 21 i t q h) 21 i t1 _ h1).1
    show gt_ht t1 + 1 + 2 * i ≤ _
    omega
theorem gq_all_ht : ∀ (k i : Nat) (t : gt_T) (q : Nat), gq ch k i = some (t, q) → gt_ht t + 2 * i ≤ 2 * q + 2
  | 0, i, t, q, h => gq_one_ht (f := none) (fun g h => by cases h) h
  | k + 1, i, t, q, h => gq_one_ht (f := some (gq ch k)) (fun g hg i t q h => by
    cases hg
    exact gq_all_ht k i t q h) h
theorem gq_all_atm (k : Nat) {i : Nat} {t : gt_T} {q : Nat} (h : gq ch k i = some (t, q)) : gt_atm t = true := by
  rw [gq_eq] at h
  unfold gq_one at h
  cases h1 : gq_chs ch (gq_seq ch (gq_item ch (gq_sub ch k)) 21) 21 i with
  | none => rw [h1] at h; cases h
  | some tq => rw [h1] at h; cases h; rfl
end GHT
section GCZ
variable {d bc bs : Nat} {S : Nat → Nat → Int32} {P : Nat → Option Nat} {R : Nat → Int64} {E : gx_H} {Q : gx_R → Prop} {nn : Nat} {ch : Nat → Nat}
theorem gq_sub_atm (kk : Nat) : ∀ g, gq_sub ch kk = some g → ∀ i t q, g i = some (t, q) → gt_atm t = true := fun g hg i t q h => by
  cases kk with
  | zero => cases hg
  | succ kk => cases hg; exact gq_all_atm kk h
/-- a choice, where kk more brackets may be opened -/
theorem gc_choice (hb : gc_lb S nn ch) : ∀ (kk : Nat), kk ≤ 6 → ∀ (i : Nat) (E : gx_H) (Q : gx_R → Prop) (bc bs : Nat), i ≤ nn → gc_bd 60 5 i (gq ch kk i) ≤ bc → gc_bd 400 50 i (gq ch kk i) ≤ bs → gc_rsl S P R E (gq ch kk i) Q →
    gx_X gc_P (d + 6 * kk + 10) 24 (0, [some (.ref 3), some (.int (nI (6 - kk))), none, none, none], [], gc_h (gm_u S 3 2 (nI i)) P R E, bc, bs) Q := by
  intro kk
  induction kk with
  | zero =>
    intro hk i E Q bc bs hi hbc hbs hq
    rw [gq_eq] at hbc hbs hq
    exact gc_choR (d := d) hb (gq_sub_ok hb.2.2.2 0) (gq_sub_atm 0) (show (6 : Nat) - 0 = 6 from rfl) hi (by omega) hbc hbs hq
  | succ kk ih =>
    intro hk i E Q bc bs hi hbc hbs hq
    rw [gq_eq] at hbc hbs hq
    refine gc_choR (d := d + 6 * (kk + 1)) hb (gq_sub_ok hb.2.2.2 (kk + 1)) (gq_sub_atm (kk + 1)) ⟨by omega, fun i E Q bc bs hi hbc hbs hq => ?_⟩ hi (by omega) hbc hbs hq
    have := ih (by omega) i E Q bc bs hi hbc hbs hq
    rw [show 6 - (kk + 1) + 1 = 6 - kk by omega, show d + 6 * (kk + 1) + 4 = d + 6 * kk + 10 by omega]
    exact this
/-- readLine -/
theorem gc_readLine {o3 : Option Value} (hn : nn ≤ 20) (hc : ∀ j, j < nn → S 1 j = nI (ch j) ∧ 32 ≤ ch j ∧ ch j ≤ 126) (hz : ∀ j, nn ≤ j → ch j = 0) (hbc : 1300 ≤ bc) (hbs : 9000 ≤ bs)
    (hq : match gq_line ch nn with
      | none => ∀ S' E', (∀ k j, k ≠ 3 → k ≠ 4 → S' k j = S k j) → gc_fr E E' → Q (.inr "java/lang/IllegalArgumentException", gc_h S' P R E')
      | some (r, t) => ∀ S' E' w, (∀ k j, k ≠ 3 → k ≠ 4 → S' k j = S k j) → gc_fr E E' → gc_tr (gc_mk E.length E') t (.inl none) w → Q (.inl (some (.ref w)), gc_h S' P R E')) :
    gx_X gc_P (d + 47) 19 (0, [some (.ref 3), some (.ref 1), some (.int (nI nn)), o3], [], gc_h S P R E, bc, bs) Q := by
  have c0 : (0 : Int32).toNatClampNeg = 0 := rfl
  refine gd_R_readLine_0 ?_
  rw [nI_clamp (show nn < 2 ^ 31 by omega), c0]
  refine ⟨⟨⟨by decide, by decide, nI_pos (by omega)⟩, by omega, by omega, fun i hi => ?_⟩, 0, 0, ⟨Nat.zero_le _, Nat.zero_le _⟩, ?_⟩
  · rw [Nat.zero_add, (hc i hi).1]
    exact gp_fits _ (by have := (hc i hi).2.2; omega)
  have hb : gc_lb (gm_u (gc_v S 4 (va_cpy (S 1) (S 4) 0 0 nn)) 3 1 (nI nn)) nn ch := by
    refine ⟨by rw [gm_u_at, if_pos ⟨rfl, rfl⟩], hn, fun j hj => ?_, hz⟩
    rw [gm_u_at, if_neg (by omega), gc_v_at, if_pos rfl]
    simp only [va_cpy]
    rw [if_pos ⟨Nat.zero_le _, by omega⟩, Nat.zero_add, Nat.sub_zero]
    exact hc j hj
  generalize hS0 : gm_u (gc_v S 4 (va_cpy (S 1) (S 4) 0 0 nn)) 3 1 (nI nn) = S0 at hb
  have hS : ∀ (j k l : Nat), k ≠ 3 → k ≠ 4 → gm_u S0 3 2 (nI j) k l = S k l := fun j k l h1 h2 => by
    rw [gm_u_at, if_neg (by omega), ← hS0, gm_u_at, if_neg (by omega), gc_v_at, if_neg h2]
  have fail : ∀ j E', gc_fr E E' → gq_line ch nn = none → Q (.inr "java/lang/IllegalArgumentException", gc_h (gm_u S0 3 2 (nI j)) P R E') := fun j E' fr h => by
    rw [h] at hq
    exact hq _ E' (hS j) fr
  refine gc_next (i := 0) hb (Nat.zero_le _) (gd_R_readLine_25 ⟨0, 0, ⟨Nat.zero_le _, Nat.zero_le _⟩, gc_isName (hb.le 0) (gd_R_readLine_28 ⟨fun h => ?_, fun h => ⟨⟨by omega, by omega⟩, fail 0 E gc_fr.rfl ?_⟩⟩)⟩)
  · have hnm := gp_b_1 h
    have hn0 : 0 < nn := hb.lt (fun z => by rw [z] at hnm; cases hnm)
    rw [gc_at2, gc_ad, gc_32]
    refine ⟨1, 6, ⟨by omega, by omega⟩, gc_pass (c := 61) (i := 0 + 1) (d := d + 43) hb (by omega) (by decide) (Nat.le_refl _) (Nat.le_refl _) (fun h61 => gd_R_readLine_55 ?_) (fun h61 => fail _ E gc_fr.rfl ?_)⟩
    · have hn1 : 1 < nn := hb.lt (by rw [show (1 : Nat) = 0 + 1 from rfl, h61]; decide)
      have el : gq_line ch nn = match gq ch 6 2 with
          | none => none
          | some (t, q) => if q < nn then none else some (ch 0 - 65, t) := by
        unfold gq_line
        rw [show (gq_nm (ch 0) && ch 1 == 61) = true by rw [hnm, show ch 1 = 61 from h61]; rfl]
        rfl
      refine ⟨1200, 8000, ⟨by omega, by omega⟩, ?_⟩
      have hgo := gc_choice (d := d) (P := P) (R := R) hb 6 (Nat.le_refl _) 2 E
      refine hgo _ 1200 8000 (by omega) ?_ ?_ ?_
      · cases hr : gq ch 6 2 with
        | none => show 60 * (21 - 2) + 10 ≤ 1200; omega
        | some tq =>
          obtain ⟨t, q⟩ := tq
          have := (gq_all_ok hz 6 2 t q hr).1.2.1
          show 60 * (q - 2) - 5 ≤ 1200
          omega
      · cases hr : gq ch 6 2 with
        | none => show 400 * (21 - 2) + 10 ≤ 8000; omega
        | some tq =>
          obtain ⟨t, q⟩ := tq
          have := (gq_all_ok hz 6 2 t q hr).1.2.1
          show 400 * (q - 2) - 50 ≤ 8000
          omega
      · cases hr : gq ch 6 2 with
        | none =>
          rw [hr] at el
          exact fun j E' fr => fail j E' fr el
        | some tq =>
          obtain ⟨t, q⟩ := tq
          have hqn := (gq_all_ok hz 6 2 t q hr).1.2.1
          rw [hr] at el
          simp only at el
          intro E' w fr tr
          refine gd_R_readLine_60 ?_
          rw [gc_at2, gc_at1, hb.1]
          refine ⟨fun h => ?_, fun h => ⟨⟨by omega, by omega⟩, fail q E' fr ?_⟩⟩
          · have : ¬ q < nn := fun z => h (nI_lt z (by omega))
            rw [if_neg this] at el
            rw [el] at hq
            exact hq _ E' w (hS q) fr tr
          · rw [el, if_pos ((nI_ltI (by omega) (by omega)).mp h)]
    · unfold gq_line
      rw [show (gq_nm (ch 0) && ch 1 == 61) = false by rw [show (ch 1 == 61) = false by simp; exact h61, Bool.and_false]]
      rfl
  · unfold gq_line
    rw [(gp_b_0 _).mp h]
    rfl
end GCZ
