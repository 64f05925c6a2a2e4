/-! The model reads a line: atoms. -/
section GBD
variable {S S' S0 : Nat → Nat → Int32} {d bc bs : Nat} {Q : gx_R → Prop} {ch : Nat → Nat} {nn : Nat}
/-- isSmall -/
theorem gm_isSmall {c : Nat} (hc : c < 2 ^ 31) (hq : Q (.inl (some (.int (gp_b (gq_pl c)))), gm_h S)) : gx_X gm_P (d + 1) 8 (0, [some (.int (nI c))], [], gm_h S, bc, bs) Q := by
  have yes : gq_pl c = true → ∀ o, gx_X gm_P (d + 1) 8 (24, [o], [], gm_h S, bc, bs) Q := fun h o => by
    rw [h] at hq
    exact gb_isSmall_24 (gb_isSmall_29 ⟨rfl, hq⟩)
  have no : gq_pl c = false → ∀ o, gx_X gm_P (d + 1) 8 (28, [o], [], gm_h S, bc, bs) Q := fun h o => by
    rw [h] at hq
    exact gb_isSmall_28 (gb_isSmall_29 ⟨rfl, hq⟩)
  have second : ¬ (97 ≤ c ∧ c ≤ 122) → gx_X gm_P (d + 1) 8 (12, [some (.int (nI c))], [], gm_h S, bc, bs) Q := fun h => by
    refine gb_isSmall_12 ⟨fun h1 => no ?_ _, fun h1 => ⟨fun h2 => no ?_ _, fun h2 => yes ?_ _⟩⟩
    · have := (nI_ltI (b := 48) hc (by decide)).mp h1
      simp [gq_pl]
      omega
    · have := (nI_ltI (a := 57) (by decide) hc).mp h2
      simp [gq_pl]
      omega
    · have k1 : 48 ≤ c := Nat.le_of_not_lt (fun z => h1 (nI_lt (b := 48) z (by decide)))
      have k2 : c ≤ 57 := Nat.le_of_not_lt (fun z => h2 (nI_lt (a := 57) z hc))
      simp [gq_pl]
      omega
  refine gb_isSmall_0 ⟨fun h => second (fun hh => ?_), fun h => ⟨fun h1 => yes ?_ _, fun h1 => second (fun hh => ?_)⟩⟩
  · have := (nI_ltI (b := 97) hc (by decide)).mp h
    omega
  · have k1 : 97 ≤ c := Nat.le_of_not_lt (fun z => h (nI_lt (b := 97) z (by decide)))
    have k2 : c ≤ 122 := Nat.le_of_not_lt (fun z => h1 (nI_lt (a := 122) z hc))
    simp [gq_pl]
    omega
  · have := (nI_ltI (a := 122) (by decide) hc).mp h1
    omega
/-- a leaf has been made -/
theorem gm_leaf {i i' c s br e pf pt : Nat} {ss is' : List (gt_T × Nat)} {r : List gm_Lv} {t : gt_T} (hB : gm_B S0 S i c s ss is' br r e nn) (hpot : (e - 160) + gm_pd r + 2 ≤ 2 * pf) (h18 : S 18 r.length = nI pf) (h19 : S 19 r.length = nI pt) (hpf : pf ≤ pt) (hpt : pt < i') (hi' : i' ≤ nn)
    (k1 : gm_eqP S0 S') (k2 : S' 0 17 = nI i') (k3 : S' 0 18 = 0) (k4 : S' 0 19 = nI r.length) (k5 : S' 6 4 = nI (e + 1 - 160)) (k6 : gm_al 160 e S S') (k7 : ∀ j, 15 ≤ j → j ≤ 19 → S' j = S j) (k8 : gm_iv S' t false e (e + 1) e) (k9 : S' 10 e < 0) (k10 : gt_isl 9 t = false) (k11 : gt_isl 10 t = false) :
    gm_M S0 S' i' c s ss is' br r e (e + 1) t e pf pt (pt - pf + 1) nn := by
  obtain ⟨h1, h2, h3, h4, h5, h6, h7, h8, h9, h10, h11, h12, h13, h14⟩ := hB
  have hR := gm_R_le h11
  have hle := gm_lv_le h7
  refine ⟨k1, k2, k3, k4, h5, k5, gm_lv_al h7 (k6.mono (by omega) (Nat.le_refl _)), by rw [k7 15 (by omega) (by omega)]; exact h8, by rw [k7 16 (by omega) (by omega)]; exact h9, by rw [k7 17 (by omega) (by omega)]; exact h10, gm_R_al h11 (k6.mono (Nat.le_refl _) (by omega)) (fun j hj => ?_), by omega, hi', h14, by rw [k7 18 (by omega) (by omega)]; exact h18, by rw [k7 19 (by omega) (by omega)]; exact h19, hpf, by omega, k8, k9, k10, k11⟩
  rw [k7 15 (by omega) (by omega), k7 16 (by omega) (by omega), k7 17 (by omega) (by omega), k7 18 (by omega) (by omega), k7 19 (by omega) (by omega)]
  exact ⟨rfl, rfl, rfl, rfl, rfl⟩
/-- atom -/
theorem gm_atom (hl : gm_ln S0 nn ch) {c s br e pf pt : Nat} {ss is' : List (gt_T × Nat)} {r : List gm_Lv} {f : Option (Nat → Option (gt_T × Nat))} (hB : gm_B S0 S pt c s ss is' br r e nn) (hpot : (e - 160) + gm_pd r + 2 ≤ 2 * pf) (h18 : S 18 r.length = nI pf) (h19 : S 19 r.length = nI pt) (hpf : pf ≤ pt) (hc40 : ch pt ≠ 40) (hc123 : ch pt = 123 → ch (pt + 1) = 125) (hf : f.isSome = true ↔ r.length < 6) {o1 o2 : Option Value}
    (hq0 : gq_atom ch f pt = none → Q (.inl (some (.int (-1))), gm_h S))
    (hq1 : ∀ t q S', gq_atom ch f pt = some (t, q) → gm_M S0 S' q c s ss is' br r e (e + 1) t e pf pt (pt - pf + 1) nn → Q (.inl (some (.int (nI e))), gm_h S')) :
    gx_X gm_P (d + 3) 14 (0, [some (.ref 0), o1, o2], [], gm_h S, bc, bs) Q := by
  obtain ⟨h1, h2, h3, h4, h5, h6, h7, h8, h9, h10, h11, h12, h13, h14⟩ := id hB
  have hlS := gm_ln_eqP h1 hl
  have hR := gm_R_le h11
  have hle := gm_lv_le h7
  have chlt : ∀ j, ch j < 127 := fun j => by
    by_cases h : j < nn
    · have := (hl.2.2.1 j h).2; omega
    · rw [hl.2.2.2 j (by omega)]; decide
  have lt : ∀ j, ch j ≠ 0 → j < nn := fun j h0 => Nat.lt_of_not_le fun hn => h0 (hl.2.2.2 j hn)
  have cc := chlt pt
  have inl : ∀ k : Nat, k < 2 ^ 31 → nI (ch pt) = nI k → ch pt = k := fun k hk h => (nI_eq (by omega) hk).mp h
  -- a leaf behind at := at + 1
  have leaf : ∀ (k w : Int32) (t : gt_T) (q : Nat), pt < q → q ≤ nn → gq_atom ch f pt = some (t, q) → gt_isl 9 t = false → gt_isl 10 t = false → (∀ S' : Nat → Nat → Int32, S' 7 e = k → S' 8 e = w → gm_iv S' t false e (e + 1) e) → Q (.inl (some (.int (nI e))), gm_h (gm_mk (gm_u S 0 17 (nI q)) e k w)) := fun k w t q hq hqn ha i9 i10 hiv => by
    obtain ⟨m1, m2, m3, m4, m5, m6⟩ := gm_mk_at (S := gm_u S 0 17 (nI q)) (e := e) (k := k) (w := w)
    refine hq1 t q _ ha (gm_leaf hB hpot h18 h19 hpf hq hqn (gm_mk_eqP (h1.u (by omega)) (by omega)) ?_ ?_ ?_ m6 ((gm_u_al (by omega)).trans (gm_mk_al (Nat.le_refl _))) (fun j j1 j2 => ?_) (hiv _ m1 m2) (by rw [m4]; decide) i9 i10)
    · rw [gm_mk_row (by omega), gm_u_at, if_pos ⟨rfl, rfl⟩]
    · rw [gm_mk_row (by omega), gm_u_at, if_neg (by omega)]; exact h3
    · rw [gm_mk_row (by omega), gm_u_at, if_neg (by omega)]; exact h4
    · rw [gm_mk_row (by omega), gm_u_row _ _ _ (by omega)]
  -- a character
  have char1 : ∀ (lo : Nat) (hi : Int32) (S1 : Nat → Nat → Int32) (lv : List (Option Value)) (st : List Value) (nx : Nat) (K : gx_S → Prop) (QQ : gx_R → Prop) {d bc bs : Nat}, S1 6 4 = nI (e - 160) → K (nx, lv, .int (nI e) :: st, gm_h (gm_u (gm_mk S1 e 0 (nI lo)) 9 e hi), bc, bs) → gx_X gm_P (d + 2) 13 (0, [some (.ref 0), some (.int (nI lo)), some (.int hi), none], [], gm_h S1, 0, 0) (gx_k lv st nx bc bs K QQ) := fun lo hi S1 lv st nx K QQ d bc bs h64 k => by
    refine gb_character_0 (gm_make h64 (by omega) (by omega) (gb_character_6 ?_))
    rw [nI_clamp (show e < 2 ^ 31 by omega)]
    exact ⟨vp_in_nI (by omega) (by decide), k⟩
  have cleaf : ∀ (lo hi : Nat) (hv : Int32) (q : Nat), pt < q → q ≤ nn → gq_atom ch f pt = some (gt_one lo hi, q) → lo ≤ 255 → hi ≤ 255 → (gp_n hv = hi ∨ (hi = 255 ∧ gp_n hv = 127)) → ∀ S', (S' = gm_u (gm_mk (gm_u S 0 17 (nI q)) e 0 (nI lo)) 9 e hv ∨ S' = gm_u (gm_u (gm_mk S e 0 (nI lo)) 9 e hv) 0 17 (nI q)) → Q (.inl (some (.int (nI e))), gm_h S') := fun lo hi hv q hq hqn ha hlo hhi hh S' hS' => by
    have iv : ∀ S'' : Nat → Nat → Int32, S'' 7 e = 0 → S'' 8 e = nI lo → S'' 9 e = hv → gm_iv S'' (gt_one lo hi) false e (e + 1) e := fun S'' a1 a2 a3 => ⟨rfl, rfl, (fun h => by cases h), by show gp_n (S'' 7 e) = 0; rw [a1]; rfl, by show gp_n (S'' 8 e) = lo; rw [a2, gp_In (by omega)], by show gp_n (S'' 9 e) = hi ∨ (hi = 255 ∧ gp_n (S'' 9 e) = 127); rw [a3]; exact hh, hlo, hhi⟩
    rcases hS' with rfl | rfl
    · obtain ⟨m1, m2, m3, m4, m5, m6⟩ := gm_mk_at (S := gm_u S 0 17 (nI q)) (e := e) (k := 0) (w := nI lo)
      refine hq1 _ q _ ha (gm_leaf hB hpot h18 h19 hpf hq hqn ((gm_mk_eqP (h1.u (by omega)) (by omega)).u (by omega)) ?_ ?_ ?_ ?_ (((gm_u_al (by omega)).trans (gm_mk_al (Nat.le_refl _))).trans (gm_u_al (by omega))) (fun j j1 j2 => ?_) (iv _ ?_ ?_ ?_) ?_ rfl rfl)
      · rw [gm_u_at, if_neg (by omega), gm_mk_row (by omega), gm_u_at, if_pos ⟨rfl, rfl⟩]
      · rw [gm_u_at, if_neg (by omega), gm_mk_row (by omega), gm_u_at, if_neg (by omega)]; exact h3
      · rw [gm_u_at, if_neg (by omega), gm_mk_row (by omega), gm_u_at, if_neg (by omega)]; exact h4
      · rw [gm_u_at, if_neg (by omega)]; exact m6
      · rw [gm_u_row _ _ _ (by omega), gm_mk_row (by omega), gm_u_row _ _ _ (by omega)]
      · rw [gm_u_at, if_neg (by omega)]; exact m1
      · rw [gm_u_at, if_neg (by omega)]; exact m2
      · rw [gm_u_at, if_pos ⟨rfl, rfl⟩]
      · rw [gm_u_at, if_neg (by omega), m4]; decide
    · obtain ⟨m1, m2, m3, m4, m5, m6⟩ := gm_mk_at (S := S) (e := e) (k := 0) (w := nI lo)
      refine hq1 _ q _ ha (gm_leaf hB hpot h18 h19 hpf hq hqn (((gm_mk_eqP h1 (by omega)).u (by omega)).u (by omega)) ?_ ?_ ?_ ?_ (((gm_mk_al (Nat.le_refl _)).trans (gm_u_al (by omega))).trans (gm_u_al (by omega))) (fun j j1 j2 => ?_) (iv _ ?_ ?_ ?_) ?_ rfl rfl)
      · rw [gm_u_at, if_pos ⟨rfl, rfl⟩]
      · rw [gm_u_at, if_neg (by omega), gm_u_at, if_neg (by omega), gm_mk_row (by omega)]; exact h3
      · rw [gm_u_at, if_neg (by omega), gm_u_at, if_neg (by omega), gm_mk_row (by omega)]; exact h4
      · rw [gm_u_at, if_neg (by omega), gm_u_at, if_neg (by omega)]; exact m6
      · rw [gm_u_row _ _ _ (by omega), gm_u_row _ _ _ (by omega), gm_mk_row (by omega)]
      · rw [gm_u_at, if_neg (by omega), gm_u_at, if_neg (by omega)]; exact m1
      · rw [gm_u_at, if_neg (by omega), gm_u_at, if_neg (by omega)]; exact m2
      · rw [gm_u_at, if_neg (by omega), gm_u_at, if_pos ⟨rfl, rfl⟩]
      · rw [gm_u_at, if_neg (by omega), gm_u_at, if_neg (by omega), m4]; decide
  have e64 : ∀ v, gm_u S 0 17 v 6 4 = nI (e - 160) := fun v => by rw [gm_u_at, if_neg (by omega)]; exact h6
  -- nothing fits
  have none1 : gq_atom ch f pt = none → ∀ o1 o2, gx_X gm_P (d + 3) 14 (241, [some (.ref 0), o1, o2], [], gm_h S, bc, bs) Q := fun h o1 o2 => gb_atom_241 (hq0 h)
  refine gb_atom_0 ?_
  rw [h2]
  refine gm_look hlS (by omega) (gb_atom_8 (gm_isSmall (by omega) (gb_atom_13 ⟨fun hs => ?_, fun hs => ?_⟩)))
  · have hs : gq_pl (ch pt) = false := (gp_b_0 _).mp hs
    refine ⟨fun hd => ?_, fun hd => ?_⟩
    · have hd : ch pt ≠ 46 := fun e => hd (by rw [e]; rfl)
      -- neither small nor a dot: not a name
      have rest : gq_nm (ch pt) = false → gx_X gm_P (d + 3) 14 (89, [some (.ref 0), some (.int (nI (ch pt))), o2], [], gm_h S, bc, bs) Q := fun hnm => by
        have range : ch pt ≠ 123 ∨ ¬ r.length < 6 → gx_X gm_P (d + 3) 14 (136, [some (.ref 0), some (.int (nI (ch pt))), o2], [], gm_h S, bc, bs) Q := fun hno => by
          have noatom : ch pt ≠ 91 → gq_atom ch f pt = none := fun h91 => by
            unfold gq_atom
            rw [if_neg hc40]
            by_cases h123 : ch pt = 123
            · rw [if_pos h123]
              cases f with
              | none => rfl
              | some g => exact absurd (hf.mp rfl) (hno.resolve_left (fun h => h h123))
            · rw [if_neg h123, if_neg h91, hs]
              simp [hd, hnm]
          refine gb_atom_136 ⟨fun h => none1 (noatom (fun e => h (by rw [e]; rfl))) _ _, fun h => ?_⟩
          have h91 : ch pt = 91 := inl 91 (by decide) h
          have hat : gq_atom ch f pt = if gq_pl (ch (pt + 1)) && (ch (pt + 2) == 45 && (gq_pl (ch (pt + 3)) && ch (pt + 4) == 93)) then some (gt_one (ch (pt + 1)) (ch (pt + 3)), pt + 5) else none := by
            unfold gq_atom
            rw [if_neg hc40, if_neg (by omega), if_pos h91]
          have c1 := chlt (pt + 1)
          have c2 := chlt (pt + 2)
          have c3 := chlt (pt + 3)
          have c4 := chlt (pt + 4)
          rw [h2, gm_nI1]
          refine gm_look hlS (by omega) (gb_atom_152 (gm_isSmall (by omega) (gb_atom_155 ⟨fun k1 => none1 ?_ _ _, fun k1 => ?_⟩)))
          · rw [hat, (gp_b_0 _).mp k1]; rfl
          · have k1 : gq_pl (ch (pt + 1)) = true := by
              cases h : gq_pl (ch (pt + 1)) with
              | true => rfl
              | false => rw [h] at k1; exact absurd rfl k1
            rw [h2, show nI pt + 2 = nI (pt + 2) from nI_add pt 2]
            refine gm_look hlS (by omega) (gb_atom_168 ⟨fun k2 => none1 ?_ _ _, fun k2 => ?_⟩)
            · have : (ch (pt + 2) == 45) = false := beq_false_of_ne (fun e => k2 (by rw [e]; rfl))
              rw [hat, k1, this]; rfl
            · have k2 : ch (pt + 2) = 45 := (nI_eq (b := 45) (by omega) (by decide)).mp k2
              rw [h2, show nI pt + 3 = nI (pt + 3) from nI_add pt 3]
              refine gm_look hlS (by omega) (gb_atom_183 (gm_isSmall (by omega) (gb_atom_186 ⟨fun k3 => none1 ?_ _ _, fun k3 => ?_⟩)))
              · rw [hat, k1, k2, (gp_b_0 _).mp k3]; rfl
              · have k3 : gq_pl (ch (pt + 3)) = true := by
                  cases h : gq_pl (ch (pt + 3)) with
                  | true => rfl
                  | false => rw [h] at k3; exact absurd rfl k3
                rw [h2, show nI pt + 4 = nI (pt + 4) from nI_add pt 4]
                refine gm_look hlS (by omega) (gb_atom_199 ⟨fun k4 => none1 ?_ _ _, fun k4 => ?_⟩)
                · have : (ch (pt + 4) == 93) = false := beq_false_of_ne (fun e => k4 (by rw [e]; rfl))
                  rw [hat, k1, k2, k3, this]; rfl
                · have k4 : ch (pt + 4) = 93 := (nI_eq (b := 93) (by omega) (by decide)).mp k4
                  have hat2 : gq_atom ch f pt = some (gt_one (ch (pt + 1)) (ch (pt + 3)), pt + 5) := by rw [hat, k1, k2, k3, k4]; rfl
                  have hlt := lt (pt + 4) (by rw [k4]; decide)
                  rw [h2, gm_nI1]
                  refine gm_look hlS (by omega) (gb_atom_215 ?_)
                  rw [h2, show nI pt + 3 = nI (pt + 3) from nI_add pt 3]
                  refine gm_look hlS (by omega) (gb_atom_225 (char1 (ch (pt + 1)) (nI (ch (pt + 3))) S _ _ _ _ _ h6 (gb_atom_228 ?_)))
                  have e17 : gm_u (gm_mk S e 0 (nI (ch (pt + 1)))) 9 e (nI (ch (pt + 3))) 0 17 = nI pt := by rw [gm_u_at, if_neg (by omega), gm_mk_row (by omega)]; exact h2
                  rw [e17, show nI pt + 5 = nI (pt + 5) from nI_add pt 5]
                  exact cleaf (ch (pt + 1)) (ch (pt + 3)) (nI (ch (pt + 3))) (pt + 5) (by omega) (by omega) hat2 (by omega) (by omega) (.inl (gp_In (by omega))) _ (.inr rfl)
        refine gb_atom_89 ⟨fun h => range (.inl (fun e => h (by rw [e]; rfl))), fun h => ?_⟩
        have h123 : ch pt = 123 := inl 123 (by decide) h
        have h125 := hc123 h123
        rw [h2, gm_nI1]
        refine gm_look hlS (by omega) (gb_atom_105 ⟨fun h' => absurd (by rw [h125]; rfl) h', fun _ => ⟨fun hd6 => range (.inr (fun z => hd6 ?_)), fun hd6 => ?_⟩⟩)
        · rw [h4]
          exact nI_lt (b := 6) z (by decide)
        · rw [h4] at hd6
          have hd6 : r.length < 6 := (nI_ltI (b := 6) (by omega) (by decide)).mp hd6
          have hat : gq_atom ch f pt = some (gt_pt, pt + 2) := by
            unfold gq_atom
            rw [if_neg hc40, if_pos h123]
            cases f with
            | none => have := hf.mpr hd6; cases this
            | some g => simp only [h125, if_true]
          have hlt := lt (pt + 1) (by rw [h125]; decide)
          rw [h2, show nI pt + 2 = nI (pt + 2) from nI_add pt 2]
          refine gm_make (e64 _) (by omega) (by omega) (gb_atom_135 (leaf 2 0 gt_pt (pt + 2) (by omega) (by omega) hat rfl rfl (fun S' a1 a2 => ⟨rfl, rfl, (fun h => by cases h), by show gp_n (S' 7 e) = 2; rw [a1]; rfl⟩)))
      refine ⟨fun h => rest ?_, fun h => ⟨fun h' => rest ?_, fun h' => ?_⟩⟩
      · have := (nI_ltI (b := 65) (by omega) (by decide)).mp h
        simp [gq_nm]
        omega
      · have := (nI_ltI (a := 68) (by decide) (by omega)).mp h'
        simp [gq_nm]
        omega
      · have k1 : 65 ≤ ch pt := Nat.le_of_not_lt (fun z => h (nI_lt (b := 65) z (by decide)))
        have k2 : ch pt ≤ 68 := Nat.le_of_not_lt (fun z => h' (nI_lt (a := 68) z (by omega)))
        have hnm : gq_nm (ch pt) = true := by simp [gq_nm]; omega
        have hat : gq_atom ch f pt = some (gt_name (ch pt - 65), pt + 1) := by
          unfold gq_atom
          rw [if_neg hc40, if_neg (by omega), if_neg (by omega), hs]
          simp [hd, hnm]
        have hlt := lt pt (by omega)
        rw [h2, gm_nI1]
        have e65 : nI (ch pt) - 65 = nI (ch pt - 65) := by
          have : ch pt = 65 ∨ ch pt = 66 ∨ ch pt = 67 ∨ ch pt = 68 := by omega
          rcases this with h | h | h | h <;> rw [h] <;> decide +kernel
        rw [e65]
        refine gm_make (e64 _) (by omega) (by omega) (gb_atom_88 (leaf 1 (nI (ch pt - 65)) (gt_name (ch pt - 65)) (pt + 1) (by omega) (by omega) hat rfl rfl (fun S' a1 a2 => ⟨rfl, rfl, (fun h => by cases h), by show gp_n (S' 7 e) = 1; rw [a1]; rfl, by show gp_n (S' 8 e) = ch pt - 65; rw [a2, gp_In (by omega)]⟩)))
    · have hd : ch pt = 46 := inl 46 (by decide) hd
      have hat : gq_atom ch f pt = some (gt_one 0 255, pt + 1) := by
        unfold gq_atom
        rw [if_neg hc40, if_neg (by omega), if_neg (by omega), hs]
        simp [hd]
      have hlt := lt pt (by omega)
      rw [h2, gm_nI1]
      exact char1 0 127 _ _ _ _ _ _ (e64 _) (gb_atom_56 (cleaf 0 255 127 (pt + 1) (by omega) (by omega) hat (by omega) (by omega) (.inr ⟨rfl, rfl⟩) _ (.inl rfl)))
  · have hs : gq_pl (ch pt) = true := by
      cases h : gq_pl (ch pt) with
      | true => rfl
      | false => rw [h] at hs; exact absurd rfl hs
    have hb : (97 ≤ ch pt ∧ ch pt ≤ 122) ∨ (48 ≤ ch pt ∧ ch pt ≤ 57) := by simpa [gq_pl] using hs
    have hat : gq_atom ch f pt = some (gt_one (ch pt) (ch pt), pt + 1) := by
      unfold gq_atom
      rw [if_neg hc40, if_neg (by omega), if_neg (by omega), hs]
      rfl
    have hlt := lt pt (by omega)
    rw [h2, gm_nI1]
    exact char1 (ch pt) (nI (ch pt)) _ _ _ _ _ _ (e64 _) (gb_atom_32 (cleaf (ch pt) (ch pt) (nI (ch pt)) (pt + 1) (by omega) (by omega) hat (by omega) (by omega) (.inl (gp_In (by omega))) _ (.inl rfl)))
end GBD
