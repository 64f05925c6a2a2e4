/-! Class Reader: brackets, atoms, pieces, items. -/
/-- how a choice in brackets is read: at the class's depth k -/
def gc_cH (S : Nat → Nat → Int32) (P : Nat → Option Nat) (R : Nat → Int64) (nn d k : Nat) (f : Option (Nat → Option (gt_T × Nat))) : Prop := match f with
  | none => k = 6
  | some g => k < 6 ∧ ∀ i E Q (bc bs : Nat), i ≤ nn → gc_bd 60 5 i (g i) ≤ bc → gc_bd 400 50 i (g i) ≤ bs → gc_rsl S P R E (g i) Q → gx_X gc_P d 24 (0, [some (.ref 3), some (.int (nI (k + 1))), none, none, none], [], gc_h (gm_u S 3 2 (nI i)) P R E, bc, bs) Q
section GCT
variable {d bc bs : Nat} {S : Nat → Nat → Int32} {P : Nat → Option Nat} {R : Nat → Int64} {E : gx_H} {Q : gx_R → Prop} {nn i k : Nat} {ch : Nat → Nat} {f : Option (Nat → Option (gt_T × Nat))}
/-- what reading an atom in brackets gives -/
theorem gc_bracket (hb : gc_lb S nn ch) (hok : ∀ g, f = some g → ∀ i t q, g i = some (t, q) → gq_ok ch nn i t q) (hf : gc_cH S P R nn (d + 4) k f) (hi : i < nn) (hc : ch i = 40 ∨ ch i = 123) (hk : k ≤ 6)
    (hbc : gc_bd 60 40 i (gq_atom ch f i) ≤ bc) (hbs : gc_bd 400 300 i (gq_atom ch f i) ≤ bs) {o2 : Option Value} (hq : gc_rsl S P R E (gq_atom ch f i) Q) :
    gx_X gc_P (d + 5) 29 (0, [some (.ref 3), some (.int (nI k)), o2], [], gc_h (gm_u S 3 2 (nI i)) P R E, bc, bs) Q := by
  have h20 := hb.2.1
  cases f with
  | none =>
    have hk6 : k = 6 := hf
    subst hk6
    have e : gq_atom ch none i = none := by
      rcases hc with h | h
      · unfold gq_atom; rw [if_pos h]
      · unfold gq_atom; rw [if_neg (by omega), if_pos h]
    rw [e] at hq hbc hbs
    simp only [gc_bd] at hbc hbs
    exact gd_R_readBracket_0 ⟨fun h => absurd h (by decide), fun _ => ⟨⟨by omega, by omega⟩, hq i E gc_fr.rfl⟩⟩
  | some g =>
    obtain ⟨hk6, hg⟩ := hf
    have hokg := hok g rfl (i + 1)
    refine gd_R_readBracket_0 ⟨fun _ => ⟨0, 0, ⟨Nat.zero_le _, Nat.zero_le _⟩, gc_passes (c := 40) hb (by omega) (by decide) (fun h40 => gd_R_readBracket_20 ⟨fun h => absurd h (by decide), fun _ => ?_⟩) (fun h40 => gd_R_readBracket_20 ⟨fun _ => ?_, fun h => absurd rfl h⟩)⟩, fun h => absurd (nI_lt (b := 6) hk6 (by decide)) h⟩
    · rw [gc_ad]
      have e : gq_atom ch (some g) i = match g (i + 1) with | none => none | some (t, q) => if ch q = 41 then some (t, q + 1) else none := by unfold gq_atom; rw [if_pos h40]; rfl
      rw [e] at hq hbc hbs
      cases hgi : g (i + 1) with
      | none =>
        rw [hgi] at hq hbc hbs
        simp only [gc_bd] at hbc hbs
        refine ⟨60 * (21 - (i + 1)) + 10, 400 * (21 - (i + 1)) + 10, ⟨by omega, by omega⟩, hg (i + 1) E _ _ _ (by omega) (by rw [hgi]; exact Nat.le_refl _) (by rw [hgi]; exact Nat.le_refl _) ?_⟩
        rw [hgi]
        exact fun j E' h => hq j E' h
      | some tq =>
        obtain ⟨t, q⟩ := tq
        have ho := hokg t q hgi
        have o1 := ho.1
        have o2 := ho.2.1
        rw [hgi] at hq hbc hbs
        have hbb : 60 * (q - (i + 1)) - 5 + 1 ≤ bc ∧ 400 * (q - (i + 1)) - 50 + 6 ≤ bs := by
          by_cases h41 : ch q = 41
          · simp only [if_pos h41, gc_bd] at hbc hbs
            omega
          · simp only [if_neg h41, gc_bd] at hbc hbs
            omega
        refine ⟨60 * (q - (i + 1)) - 5, 400 * (q - (i + 1)) - 50, ⟨by omega, by omega⟩, hg (i + 1) E _ _ _ (by omega) (by rw [hgi]; exact Nat.le_refl _) (by rw [hgi]; exact Nat.le_refl _) ?_⟩
        rw [hgi]
        intro E' w fr tr
        refine gd_R_readBracket_30 ⟨1, 6, ⟨by omega, by omega⟩, gc_pass (c := 41) (d := d + 1) hb (by omega) (by decide) (Nat.le_refl _) (Nat.le_refl _) (fun h41 => gd_R_readBracket_37 ?_) (fun h41 => ?_)⟩
        · simp only [if_pos h41] at hq
          exact hq E' w fr tr
        · simp only [if_neg h41] at hq
          exact hq q E' fr
    · have h123 : ch i = 123 := hc.resolve_left h40
      have e : gq_atom ch (some g) i = if ch (i + 1) = 125 then some (gt_pt, i + 2) else match g (i + 1) with | none => none | some (t, q) => if ch q = 125 then some (gt_cap t, q + 1) else none := by unfold gq_atom; rw [if_neg h40, if_pos h123]; rfl
      rw [e] at hq hbc hbs
      have h10 : 15 ≤ bc ∧ 90 ≤ bs := by
        by_cases h125 : ch (i + 1) = 125
        · simp only [if_pos h125, gc_bd] at hbc hbs
          omega
        · rw [if_neg h125] at hbc hbs
          cases hgi : g (i + 1) with
          | none =>
            rw [hgi] at hbc hbs
            simp only [gc_bd] at hbc hbs
            omega
          | some tq =>
            obtain ⟨t, q⟩ := tq
            have ho := hokg t q hgi
            have o1 := ho.1
            have o2 := ho.2.1
            rw [hgi] at hbc hbs
            by_cases hq5 : ch q = 125
            · simp only [if_pos hq5, gc_bd] at hbc hbs
              omega
            · simp only [if_neg hq5, gc_bd] at hbc hbs
              omega
      refine ⟨1, 6, ⟨by omega, by omega⟩, gc_pass (c := 123) (d := d + 1) hb (by omega) (by decide) (Nat.le_refl _) (Nat.le_refl _) (fun _ => gd_R_readBracket_45 ⟨0, 0, ⟨Nat.zero_le _, Nat.zero_le _⟩, gc_passes (c := 125) (d := d + 2) hb (by omega) (by decide) (fun h125 => gd_R_readBracket_51 ⟨fun h => absurd h (by decide), fun _ => ⟨⟨by omega, by omega⟩, 0, 0, ⟨Nat.zero_le _, Nat.zero_le _⟩, gc_newCap0 (d := d + 2) (gd_R_readBracket_62 ?_)⟩⟩) (fun h125 => gd_R_readBracket_51 ⟨fun _ => ?_, fun h => absurd rfl h⟩)⟩) (fun h => absurd h123 h)⟩
      · rw [if_pos h125] at hq
        exact hq _ _ (gc_fr.app _) gc_one
      · rw [if_neg h125] at hq hbc hbs
        rw [gc_ad]
        cases hgi : g (i + 1) with
        | none =>
          rw [hgi] at hq hbc hbs
          simp only [gc_bd] at hbc hbs
          refine ⟨60 * (21 - (i + 1)) + 10, 400 * (21 - (i + 1)) + 10, ⟨by omega, by omega⟩, hg (i + 1) E _ _ _ (by omega) (by rw [hgi]; exact Nat.le_refl _) (by rw [hgi]; exact Nat.le_refl _) ?_⟩
          rw [hgi]
          exact fun j E' h => hq j E' h
        | some tq =>
          obtain ⟨t, q⟩ := tq
          have ho := hokg t q hgi
          have o1 := ho.1
          have o2 := ho.2.1
          rw [hgi] at hq hbc hbs
          have hbb : 60 * (q - (i + 1)) - 5 + 10 ≤ bc - 1 - 0 ∧ 400 * (q - (i + 1)) - 50 + 20 ≤ bs - 6 - 0 := by
            by_cases hq5 : ch q = 125
            · simp only [if_pos hq5, gc_bd] at hbc hbs
              omega
            · simp only [if_neg hq5, gc_bd] at hbc hbs
              omega
          refine ⟨60 * (q - (i + 1)) - 5, 400 * (q - (i + 1)) - 50, ⟨by omega, by omega⟩, hg (i + 1) E _ _ _ (by omega) (by rw [hgi]; exact Nat.le_refl _) (by rw [hgi]; exact Nat.le_refl _) ?_⟩
          rw [hgi]
          intro E' w fr tr
          refine gd_R_readBracket_70 ⟨1, 6, ⟨by omega, by omega⟩, gc_pass (c := 125) (d := d + 1) hb (by omega) (by decide) (Nat.le_refl _) (Nat.le_refl _) (fun hq5 => gd_R_readBracket_77 ⟨⟨by omega, by omega⟩, 0, 0, ⟨Nat.zero_le _, Nat.zero_le _⟩, gc_newCap (d := d + 2) (gd_R_readBracket_85 ?_)⟩) (fun hq5 => ?_)⟩
          · simp only [if_pos hq5] at hq
            refine hq _ _ (fr.trans (gc_fr.app _)) ⟨w, ⟨E'.length, rfl, ?_⟩, gc_tr.keep (Nat.le_refl _) (gc_fr.app _) tr⟩
            rw [gc_mk_at, if_neg (by have := fr.1; omega)]
            exact gc_last _
          · simp only [if_neg hq5] at hq
            exact hq q E' fr
/-- an atom -/
theorem gc_atom (hb : gc_lb S nn ch) (hok : ∀ g, f = some g → ∀ i t q, g i = some (t, q) → gq_ok ch nn i t q) (hf : gc_cH S P R nn (d + 4) k f) (hi : i ≤ nn) (hk : k ≤ 6)
    (hbc : gc_bd 60 40 i (gq_atom ch f i) ≤ bc) (hbs : gc_bd 400 300 i (gq_atom ch f i) ≤ bs) {o2 : Option Value} (hq : gc_rsl S P R E (gq_atom ch f i) Q) :
    gx_X gc_P (d + 6) 28 (0, [some (.ref 3), some (.int (nI k)), o2], [], gc_h (gm_u S 3 2 (nI i)) P R E, bc, bs) Q := by
  have h20 := hb.2.1
  have hle := hb.le i
  have e : ∀ c, c < 2 ^ 31 → (nI (ch i) = nI c ↔ ch i = c) := fun c hc => nI_eq (by omega) hc
  have h10 : 10 ≤ bc ∧ 40 ≤ bs := by
    cases hres : gq_atom ch f i with
    | none => rw [hres] at hbc hbs; simp only [gc_bd] at hbc hbs; omega
    | some tq =>
      obtain ⟨t, q⟩ := tq
      have ho := gq_atom_ok hb.2.2.2 hok hres
      have o1 := ho.1
      rw [hres] at hbc hbs; simp only [gc_bd] at hbc hbs; omega
  have brk : ∀ o2 : Option Value, (ch i = 40 ∨ ch i = 123) → gx_X gc_P (d + 6) 28 (17, [some (.ref 3), some (.int (nI k)), o2], [], gc_h (gm_u S 3 2 (nI i)) P R E, bc, bs) Q := fun o2 hc => by
    refine gd_R_readAtom_17 ⟨bc, bs, ⟨Nat.le_refl _, Nat.le_refl _⟩, gc_bracket hb hok hf (hb.lt (by omega)) hc hk hbc hbs ?_⟩
    cases hres : gq_atom ch f i with
    | none => rw [hres] at hq; exact fun j E' h => hq j E' h
    | some tq => rw [hres] at hq; exact fun E' w fr tr => gd_R_readAtom_22 (hq E' w fr tr)
  refine gd_R_readAtom_0 ⟨0, 0, ⟨Nat.zero_le _, Nat.zero_le _⟩, gc_next hb hi (gd_R_readAtom_4 ⟨fun h => brk _ (.inl ((e 40 (by decide)).mp h)), fun h40 => ⟨fun h123 => ⟨fun h91 => ⟨0, 0, ⟨Nat.zero_le _, Nat.zero_le _⟩, gc_isPlain hle (gd_R_readAtom_38 ?_)⟩, fun h91 => ⟨bc, bs, ⟨Nat.le_refl _, Nat.le_refl _⟩, gc_readRange (d := d + 1) hb (hb.lt (by rw [(e 91 (by decide)).mp h91]; decide)) ((e 91 (by decide)).mp h91) h10.1 h10.2 ?_⟩⟩, fun h => brk _ (.inr ((e 123 (by decide)).mp h))⟩⟩)⟩
  · have n40 : ¬ ch i = 40 := fun z => h40 ((e 40 (by decide)).mpr z)
    have n123 : ¬ ch i = 123 := fun z => h123 ((e 123 (by decide)).mpr z)
    have n91 : ¬ ch i = 91 := fun z => h91 ((e 91 (by decide)).mpr z)
    have ea : gq_atom ch f i = if gq_pl (ch i) then some (gt_one (ch i) (ch i), i + 1) else if ch i = 46 then some (gt_one 0 255, i + 1) else if gq_nm (ch i) then some (gt_name (ch i - 65), i + 1) else none := by
      unfold gq_atom; rw [if_neg n40, if_neg n123, if_neg n91]
    rw [ea] at hq
    have go : (gq_pl (ch i) = true ∨ ch i = 46 ∨ gq_nm (ch i) = true) → gx_X gc_P (d + 6) 28 (62, [some (.ref 3), some (.int (nI k)), some (.int (nI (ch i)))], [], gc_h (gm_u S 3 2 (nI i)) P R E, bc, bs) Q := fun hor => by
      refine gd_R_readAtom_62 ?_
      rw [gc_at2, gc_ad, gc_32]
      refine ⟨fun h46 => ⟨0, 0, ⟨Nat.zero_le _, Nat.zero_le _⟩, gc_isName hle (gd_R_readAtom_94 ⟨fun hn => ⟨⟨by omega, by omega⟩, 0, 0, ⟨Nat.zero_le _, Nat.zero_le _⟩, gc_newSingle (d := d + 3) (by omega) (by omega) (gd_R_readAtom_120 ?_)⟩, fun hn => ⟨⟨by omega, by omega⟩, 0, 0, ⟨Nat.zero_le _, Nat.zero_le _⟩, gc_newName (d := d + 3) (gd_R_readAtom_108 (gd_R_readAtom_120 ?_))⟩⟩)⟩, fun h46 => ⟨⟨by omega, by omega⟩, 0, 0, ⟨Nat.zero_le _, Nat.zero_le _⟩, gc_newSingle (lo := 0) (hi := 255) (d := d + 3) (by omega) (by omega) (gd_R_readAtom_89 ?_)⟩⟩
      · have hn := (gp_b_0 _).mp hn
        have h46 : ¬ ch i = 46 := fun z => h46 ((e 46 (by decide)).mpr z)
        have hp : gq_pl (ch i) = true := by
          rcases hor with h | h | h
          · exact h
          · exact absurd h h46
          · rw [hn] at h; cases h
        rw [if_pos hp] at hq
        exact hq _ _ (gc_fr.app _) ⟨gc_one, Nat.le_trans hle (by decide), Nat.le_trans hle (by decide)⟩
      · have hn := gp_b_1 hn
        have hp : ¬ gq_pl (ch i) = true := by
          simp only [gq_nm, Bool.and_eq_true, decide_eq_true_eq] at hn
          simp [gq_pl]; omega
        have h46 : ¬ ch i = 46 := fun z => h46 ((e 46 (by decide)).mpr z)
        rw [if_neg hp, if_neg h46, if_pos hn] at hq
        have h65 : 65 ≤ ch i ∧ ch i < 69 := by simpa [gq_nm] using hn
        have es : nI (ch i) - 65 = nI (ch i - 65) := by
          have : nI (ch i) = nI (ch i - 65) + 65 := by
            rw [show nI (ch i - 65) + 65 = nI (ch i - 65 + 65) from (Int32.ofNat_add (ch i - 65) 65).symm, Nat.sub_add_cancel h65.1]
          rw [this, Int32.add_sub_cancel]
        rw [es]
        exact hq _ _ (gc_fr.app _) ⟨gc_one, show ch i - 65 < 4 by omega⟩
      · have h46 := (e 46 (by decide)).mp h46
        have hp : ¬ gq_pl (ch i) = true := by rw [h46]; decide
        rw [if_neg hp, if_pos h46] at hq
        exact hq _ _ (gc_fr.app _) ⟨gc_one, show (0 : Nat) ≤ 255 by omega, show (255 : Nat) ≤ 255 by omega⟩
    refine ⟨fun h => go (.inl (gp_b_1 h)), fun h => ⟨0, 0, ⟨Nat.zero_le _, Nat.zero_le _⟩, gc_isName hle (gd_R_readAtom_45 ⟨fun h' => go (.inr (.inr (gp_b_1 h'))), fun h' => ⟨fun h46 => go (.inr (.inl ((e 46 (by decide)).mp h46))), fun h46 => ⟨⟨by omega, by omega⟩, ?_⟩⟩⟩)⟩⟩
    rw [if_neg (by rw [(gp_b_0 _).mp h]; decide), if_neg (fun z => h46 ((e 46 (by decide)).mpr z)), if_neg (by rw [(gp_b_0 _).mp h']; decide)] at hq
    exact hq i E gc_fr.rfl
  · have n91 := (e 91 (by decide)).mp h91
    have ea : gq_atom ch f i = if gq_pl (ch (i + 1)) && (ch (i + 2) == 45 && (gq_pl (ch (i + 3)) && ch (i + 4) == 93)) then some (gt_one (ch (i + 1)) (ch (i + 3)), i + 5) else none := by
      unfold gq_atom; rw [if_neg (by omega), if_neg (by omega), if_pos n91]
    rw [ea] at hq
    by_cases hh : (gq_pl (ch (i + 1)) && (ch (i + 2) == 45 && (gq_pl (ch (i + 3)) && ch (i + 4) == 93))) = true
    · rw [if_pos hh] at hq ⊢
      exact fun E' w fr tr => gd_R_readAtom_33 (hq E' w fr tr)
    · rw [if_neg hh] at hq ⊢
      exact fun j E' h => hq j E' h
end GCT
