/-! The model's read; how many leaves a pattern has; nodes that are copied. -/
section GSZ
variable {ch : Nat → Nat}
theorem gq_lk_sz : ∀ (m i : Nat) (t : gt_T), gt_sz (gq_lk ch m i t) = gt_sz t
  | 0, _, _ => rfl
  | m + 1, i, t => gq_lk_sz m (i + 1) t
theorem gq_suf_sz {t : gt_T} {q : Nat} : gt_sz (gq_suf ch t q).1 = gt_sz t ∧ q ≤ (gq_suf ch t q).2 := by
  unfold gq_suf
  split
  · exact ⟨rfl, Nat.le_succ _⟩
  · split
    · exact ⟨rfl, Nat.le_succ _⟩
    · split
      · exact ⟨rfl, Nat.le_succ _⟩
      · exact ⟨rfl, Nat.le_refl _⟩
theorem gq_atom_sz {f : Option (Nat → Option (gt_T × Nat))} (hf : ∀ g, f = some g → ∀ i t q, g i = some (t, q) → gt_sz t + i ≤ q) {i : Nat} {t : gt_T} {q : Nat} (h : gq_atom ch f i = some (t, q)) : gt_sz t + i ≤ q := by
  unfold gq_atom at h
  split at h
  · cases f with
    | none => cases h
    | some g =>
      simp only at h
      cases hg : g (i + 1) with
      | none => rw [hg] at h; cases h
      | some tq =>
        obtain ⟨t1, q1⟩ := tq
        rw [hg] at h
        simp only at h
        split at h
        · cases h
          have := hf g rfl _ _ _ hg
          omega
        · cases h
  · split at h
    · cases f with
      | none => cases h
      | some g =>
        simp only at h
        split at h
        · cases h
          show 1 + i ≤ i + 2
          omega
        · cases hg : g (i + 1) with
          | none => rw [hg] at h; cases h
          | some tq =>
            obtain ⟨t1, q1⟩ := tq
            rw [hg] at h
            simp only at h
            split at h
            · cases h
              have := hf g rfl _ _ _ hg
              show gt_sz t1 + i ≤ q1 + 1
              omega
            · cases h
    · split at h
      · split at h
        · cases h
          show 1 + i ≤ i + 5
          omega
        · cases h
      · split at h
        · cases h
          show 1 + i ≤ i + 1
          omega
        · split at h
          · cases h
            show 1 + i ≤ i + 1
            omega
          · split at h
            · cases h
              show 1 + i ≤ i + 1
              omega
            · cases h
theorem gq_item_sz {f : Option (Nat → Option (gt_T × Nat))} (hf : ∀ g, f = some g → ∀ i t q, g i = some (t, q) → gt_sz t + i ≤ q) {i : Nat} {t : gt_T} {q : Nat} (h : gq_item ch f i = some (t, q)) : gt_sz t + i ≤ q := by
  unfold gq_item at h
  cases ha : gq_atom ch f (gq_pre ch 20 i) with
  | none => rw [ha] at h; cases h
  | some tq =>
    obtain ⟨t1, q1⟩ := tq
    rw [ha] at h
    cases h
    have h1 := gq_atom_sz hf ha
    have h2 := (gq_pre_ok (ch := ch) 20 i).1
    obtain ⟨h3, h4⟩ := gq_suf_sz (ch := ch) (t := t1) (q := q1)
    rw [gq_lk_sz, h3]
    omega
theorem gq_seq_sz {it : Nat → Option (gt_T × Nat)} (hi : ∀ i t q, it i = some (t, q) → gt_sz t + i ≤ q) : ∀ (m i : Nat) (t : gt_T) (q : Nat), gq_seq ch it m i = some (t, q) → gt_sz t + i ≤ q
  | 0, i, t, q, h => by cases h
  | m + 1, i, t, q, h => by
    unfold gq_seq at h
    cases h1 : it i with
    | none => rw [h1] at h; cases h
    | some tq =>
      obtain ⟨t1, q1⟩ := tq
      rw [h1] at h
      have a1 := hi _ _ _ h1
      simp only at h
      split at h
      · cases h; exact a1
      · cases h2 : gq_seq ch it m q1 with
        | none => rw [h2] at h; cases h
        | some tq =>
          obtain ⟨t2, q2⟩ := tq
          rw [h2] at h
          cases h
          have a2 := gq_seq_sz hi m q1 t2 _ h2
          show gt_sz t1 + gt_sz t2 + i ≤ _
          omega
theorem gq_chs_sz {sq : Nat → Option (gt_T × Nat)} (hs : ∀ i t q, sq i = some (t, q) → gt_sz t + i ≤ q) : ∀ (m i : Nat) (t : gt_T) (q : Nat), gq_chs ch sq m i = some (t, q) → gt_sz t + i ≤ q
  | 0, i, t, q, h => by cases h
  | m + 1, i, t, q, h => by
    unfold gq_chs at h
    cases h1 : sq i with
    | none => rw [h1] at h; cases h
    | some tq =>
      obtain ⟨t1, q1⟩ := tq
      rw [h1] at h
      have a1 := hs _ _ _ h1
      simp only at h
      split at h
      · cases h2 : gq_chs ch sq m (q1 + 1) with
        | none => rw [h2] at h; cases h
        | some tq =>
          obtain ⟨t2, q2⟩ := tq
          rw [h2] at h
          cases h
          have a2 := gq_chs_sz hs m (q1 + 1) t2 _ h2
          show gt_sz t1 + gt_sz t2 + i ≤ _
          omega
      · cases h; exact a1
theorem gq_one_sz {f : Option (Nat → Option (gt_T × Nat))} (hf : ∀ g, f = some g → ∀ i t q, g i = some (t, q) → gt_sz t + i ≤ q) {i : Nat} {t : gt_T} {q : Nat} (h : gq_one ch f i = some (t, q)) : gt_sz t + i ≤ q := by
  unfold gq_one at h
  cases h1 : gq_chs ch (gq_seq ch (gq_item ch f) 21) 21 i with
  | none => rw [h1] at h; cases h
  | some tq =>
    obtain ⟨t1, q1⟩ := tq
    rw [h1] at h
    cases h
    exact gq_chs_sz (fun i t q h => gq_seq_sz (fun i t q h => gq_item_sz hf h) 21 i t q h) 21 i t1 _ h1
theorem gq_all_sz : ∀ (k i : Nat) (t : gt_T) (q : Nat), gq ch k i = some (t, q) → gt_sz t + i ≤ q
  | 0, i, t, q, h => gq_one_sz (f := none) (fun g h => by cases h) h
  | k + 1, i, t, q, h => gq_one_sz (f := some (gq ch k)) (fun g hg i t q h => by
    cases hg
    exact gq_all_sz k i t q h) h
theorem gq_line_sz {nn : Nat} (hz : ∀ k, nn ≤ k → ch k = 0) (hn : nn ≤ 20) {r : Nat} {t : gt_T} (h : gq_line ch nn = some (r, t)) : gt_sz t ≤ 20 := by
  unfold gq_line at h
  split at h
  · cases h2 : gq ch 6 2 with
    | none => rw [h2] at h; cases h
    | some tq =>
      obtain ⟨t1, q1⟩ := tq
      rw [h2] at h
      simp only at h
      split at h
      · cases h
      · cases h
        have h1 := gq_all_sz 6 2 _ _ h2
        have h3 := (gq_all_ok hz 6 2 _ _ h2).1.2.1
        omega
  · cases h
end GSZ
/-- nodes at another place -/
theorem gn_iv_shift {kd wi mo kd' wi' mo' : Nat → Nat} {nx nx' : Nat → Option Nat} {X Y B : Nat} (t : gt_T) : ∀ (bb : Bool) (a b n : Nat), b ≤ B → gn_iv kd wi mo nx t bb (X + a) (X + b) (X + n) → (∀ j, a ≤ j → j < b → kd' (Y + j) = kd (X + j) ∧ mo' (Y + j) = mo (X + j) ∧ (kd (X + j) ≤ 2 → wi' (Y + j) = wi (X + j)) ∧ (2 < kd (X + j) → ∀ m, m < B → wi (X + j) = X + m → wi' (Y + j) = Y + m) ∧ (nx (X + j) = none → nx' (Y + j) = none) ∧ (∀ m, m < B → nx (X + j) = some (X + m) → nx' (Y + j) = some (Y + m))) → gn_iv kd' wi' mo' nx' t bb (Y + a) (Y + b) (Y + n) := by
  induction t with
  | cat l hi =>
    intro bb a b n hB h hh
    have hin := gn_iv_in _ _ _ _ _ h
    obtain ⟨e1, e2, e3, e4, e5, e6⟩ := h
    obtain ⟨q1, q2, q3, q4, q5, q6⟩ := hh n (by omega) (by omega)
    exact ⟨by omega, by omega, fun hb => q5 (e3 hb), by rw [q1]; exact e4, by rw [q3 (by omega)]; exact e5, by rw [q2]; exact e6⟩
  | parser r =>
    intro bb a b n hB h hh
    have hin := gn_iv_in _ _ _ _ _ h
    obtain ⟨e1, e2, e3, e4, e5⟩ := h
    obtain ⟨q1, q2, q3, q4, q5, q6⟩ := hh n (by omega) (by omega)
    exact ⟨by omega, by omega, fun hb => q5 (e3 hb), by rw [q1]; exact e4, by rw [q3 (by omega)]; exact e5⟩
  | const r =>
    intro bb a b n hB h hh
    have hin := gn_iv_in _ _ _ _ _ h
    obtain ⟨e1, e2, e3, e4⟩ := h
    obtain ⟨q1, q2, q3, q4, q5, q6⟩ := hh n (by omega) (by omega)
    exact ⟨by omega, by omega, fun hb => q5 (e3 hb), by rw [q1]; exact e4⟩
  | unary m t ih =>
    intro bb a b n hB h hh
    have hin := gn_iv_in _ _ _ _ _ h
    obtain ⟨e1, e2, e3, e4⟩ := h
    have hin2 := gn_iv_in _ _ _ _ _ e4
    obtain ⟨q1, q2, q3, q4, q5, q6⟩ := hh n (by omega) (by omega)
    obtain ⟨w, hw⟩ : ∃ w, wi (X + n) = X + w := ⟨wi (X + n) - X, by omega⟩
    rw [hw] at e4
    refine ⟨by omega, fun hb => q5 (e2 hb), by rw [q1]; exact e3, ?_⟩
    rw [q4 (by omega) w (by omega) hw]
    exact ih _ _ _ _ (by omega) e4 (fun j j1 j2 => hh j j1 (by omega))
  | node m k t ih =>
    intro bb a b n hB h hh
    have hin := gn_iv_in _ _ _ _ _ h
    obtain ⟨e1, e2, e3, e3', e4⟩ := h
    have hin2 := gn_iv_in _ _ _ _ _ e4
    obtain ⟨q1, q2, q3, q4, q5, q6⟩ := hh n (by omega) (by omega)
    obtain ⟨w, hw⟩ : ∃ w, wi (X + n) = X + w := ⟨wi (X + n) - X, by omega⟩
    rw [hw] at e4
    refine ⟨by omega, fun hb => q5 (e2 hb), e3, by rw [q1]; exact e3', ?_⟩
    rw [q4 (by omega) w (by omega) hw]
    exact ih _ _ _ _ (by omega) e4 (fun j j1 j2 => hh j j1 (by omega))
  | trailingNode m k l t ih =>
    intro bb a b n hB h hh
    have hin := gn_iv_in _ _ _ _ _ h
    obtain ⟨e1, e2, e3, e4⟩ := h
    have hin2 := gn_iv_in _ _ _ _ _ e4
    obtain ⟨q1, q2, q3, q4, q5, q6⟩ := hh n (by omega) (by omega)
    obtain ⟨w, hw⟩ : ∃ w, wi (X + n) = X + w := ⟨wi (X + n) - X, by omega⟩
    rw [hw] at e4
    refine ⟨by omega, fun hb => q5 (e2 hb), by rw [q1]; exact e3, ?_⟩
    rw [q4 (by rw [e3]; split <;> omega) w (by omega) hw]
    exact ih _ _ _ _ (by omega) e4 (fun j j1 j2 => hh j j1 (by omega))
  | nodeWithAntiquot s k t ih =>
    intro bb a b n hB h hh
    have hin := gn_iv_in _ _ _ _ _ h
    obtain ⟨e1, e2, e3, e4, e5⟩ := h
    have hin2 := gn_iv_in _ _ _ _ _ e4
    obtain ⟨q1, q2, q3, q4, q5, q6⟩ := hh n (by omega) (by omega)
    obtain ⟨w, hw⟩ : ∃ w, wi (X + n) = X + w := ⟨wi (X + n) - X, by omega⟩
    rw [hw] at e4
    refine ⟨by omega, fun hb => q5 (e2 hb), by rw [q1]; exact e3, ?_, e5⟩
    rw [q4 (by omega) w (by omega) hw]
    exact ih _ (a + 1) _ _ hB e4 (fun j j1 j2 => hh j (by omega) j2)
  | sepBy x s y b' ihx ihy =>
    intro bb a b n hB h hh
    obtain ⟨e1, c, m, e2, e3, e4, e5⟩ := h
    have hx := gn_iv_in _ _ _ _ _ e2
    have hy := gn_iv_in _ _ _ _ _ e5
    obtain ⟨c', rfl⟩ : ∃ c', c = X + c' := ⟨c - X, by omega⟩
    obtain ⟨m', rfl⟩ : ∃ m', m = X + m' := ⟨m - X, by omega⟩
    obtain ⟨q1, q2, q3, q4, q5, q6⟩ := hh n (by omega) (by omega)
    exact ⟨e1, Y + c', Y + m', ihx _ _ _ _ (by omega) e2 (fun j j1 j2 => hh j j1 (by omega)), e3, q6 m' (by omega) e4, ihy _ _ _ _ hB e5 (fun j j1 j2 => hh j (by omega) j2)⟩
  | sepBy1 x s y b' ihx ihy =>
    intro bb a b n hB h hh
    obtain ⟨e1, c, m, e2, e3, e4, e5⟩ := h
    have hx := gn_iv_in _ _ _ _ _ e2
    have hy := gn_iv_in _ _ _ _ _ e5
    obtain ⟨c', rfl⟩ : ∃ c', c = X + c' := ⟨c - X, by omega⟩
    obtain ⟨m', rfl⟩ : ∃ m', m = X + m' := ⟨m - X, by omega⟩
    obtain ⟨q1, q2, q3, q4, q5, q6⟩ := hh n (by omega) (by omega)
    exact ⟨e1, Y + c', Y + m', ihx _ _ _ _ (by omega) e2 (fun j j1 j2 => hh j j1 (by omega)), e3, q6 m' (by omega) e4, ihy _ _ _ _ hB e5 (fun j j1 j2 => hh j (by omega) j2)⟩
  | _ => exact fun bb a b n hB h => False.elim h
section GRD
variable {S : Nat → Nat → Int32} {d bc bs : Nat} {Q : gx_R → Prop} {ch : Nat → Nat} {nn : Nat}
/-- read -/
theorem gm_read (hl : gm_ln S nn ch) (hq0 : gq_line ch nn = none → ∀ S', gm_eqP S S' → Q (.inl (some (.int 0)), gm_h S'))
    (hq1 : ∀ rr T S' m, gq_line ch nn = some (rr, T) → gm_eqP S S' → S' 6 4 = nI m → m ≤ 38 → gm_iv S' T false 160 (160 + m) 160 → Q (.inl (some (.int 1)), gm_h S')) :
    gx_X gm_P (d + 6) 18 (0, [some (.ref 0)], [], gm_h S, bc, bs) Q := by
  obtain ⟨h1, h2, h3, h4⟩ := id hl
  have eqS : gm_eqP S S := ⟨fun _ _ => rfl, fun _ _ => rfl, fun _ _ => rfl, fun _ _ _ _ => rfl⟩
  have cc : ∀ j, ch j < 127 := fun j => by
    by_cases h : j < nn
    · have := (h3 j h).2; omega
    · rw [h4 j (by omega)]; decide
  have no : gq_line ch nn = none → gx_X gm_P (d + 6) 18 (38, [some (.ref 0)], [], gm_h S, bc, bs) Q := fun h => gb_read_38 (hq0 h S eqS)
  have c0 := cc 0
  have c1 := cc 1
  have look0 : ∀ {QQ : gx_R → Prop} {d bc bs : Nat}, QQ (.inl (some (.int (nI (ch 0)))), gm_h S) → gx_X gm_P (d + 1) 7 (0, [some (.ref 0), some (.int 0)], [], gm_h S, bc, bs) QQ := fun h => gm_look (i := 0) hl (by decide) h
  have look1 : ∀ {QQ : gx_R → Prop} {d bc bs : Nat}, QQ (.inl (some (.int (nI (ch 1)))), gm_h S) → gx_X gm_P (d + 1) 7 (0, [some (.ref 0), some (.int 1)], [], gm_h S, bc, bs) QQ := fun h => gm_look (i := 1) hl (by decide) h
  refine gb_read_0 (look0 (gb_read_5 ⟨fun h => no ?_, fun h => look0 (gb_read_15 ⟨fun h' => no ?_, fun h' => look1 (gb_read_25 ⟨fun h'' => no ?_, fun h'' => ⟨fun h3' => ?_, fun h3' => no ?_⟩⟩)⟩)⟩))
  · have := (nI_ltI (b := 65) (by omega) (by decide)).mp h
    unfold gq_line
    rw [show gq_nm (ch 0) = false by simp [gq_nm]; omega]
    rfl
  · have := (nI_ltI (a := 68) (by decide) (by omega)).mp h'
    unfold gq_line
    rw [show gq_nm (ch 0) = false by simp [gq_nm]; omega]
    rfl
  · have hne : (ch 1 == 61) = false := beq_false_of_ne (fun e => h'' (by rw [e]; rfl))
    unfold gq_line
    rw [hne, Bool.and_false]
    rfl
  · have k1 : 65 ≤ ch 0 := Nat.le_of_not_lt (fun z => h (nI_lt (b := 65) z (by decide)))
    have k2 : ch 0 ≤ 68 := Nat.le_of_not_lt (fun z => h' (nI_lt (a := 68) z (by omega)))
    have k3 : ch 1 = 61 := (nI_eq (b := 61) (by omega) (by decide)).mp h''
    rw [h1] at h3'
    have hn3 : 3 ≤ nn := Nat.le_of_not_lt (fun z => h3' (nI_lt (b := 3) z (by decide)))
    have hline : gq_line ch nn = (match gq ch 6 2 with | none => none | some (t, q) => if q < nn then none else some (ch 0 - 65, t)) := by
      unfold gq_line
      rw [show gq_nm (ch 0) = true by simp [gq_nm]; omega, k3]
      rfl
    have eqP1 : gm_eqP S (gm_u (gm_u (gm_u (gm_u S 0 17 2) 0 18 0) 6 4 0) 0 19 (-1)) := (((eqS.u (by omega)).u (by omega)).u (by omega)).u (by omega)
    refine ⟨⟨rfl, rfl⟩, gm_goesIn (S0 := S) (i := 2) (e := 160) (br := 0) (r := []) eqP1 ?_ ?_ ?_ (Nat.zero_le _) ?_ rfl (by decide) (by omega) h2 (fun S1 hB => ?_)⟩
    · rw [gm_u_at, if_neg (by omega), gm_u_at, if_neg (by omega), gm_u_at, if_neg (by omega), gm_u_at, if_pos ⟨rfl, rfl⟩]; rfl
    · rw [gm_u_at, if_neg (by omega), gm_u_at, if_neg (by omega), gm_u_at, if_pos ⟨rfl, rfl⟩]
    · rw [gm_u_at, if_pos ⟨rfl, rfl⟩]; decide
    · rw [gm_u_at, if_neg (by omega), gm_u_at, if_pos ⟨rfl, rfl⟩]; rfl
    · refine gm_choice hl 6 [] 160 0 rfl (by decide) S1 2 161 162 hB (by decide) (fun hn => hq0 (by rw [hline, hn])) (fun S2 s2 ss2 is2 e2 q hq hB2 hne hfin h47 => ?_)
      refine gm_post_out hl hB2 (by decide) (.inl rfl) (gm_post_next hl hB2 h47 ?_)
      obtain ⟨g1, g2, g3, g4, g5, g6, g7, g8, g9, g10, g11, g12, g13, g14⟩ := id hB2
      have hlS := gm_ln_eqP g1 hl
      have hle := gm_lv_le g7
      by_cases hqn : q < nn
      · -- something is left over
        have hnone : gq_line ch nn = none := by rw [hline, hq]; simp only [hqn, if_true]
        have h0 := (h3 q hqn).2
        have hor : ch q = 41 ∨ ch q = 125 := by
          have : ch q = 0 ∨ ch q = 47 ∨ ch q = 41 ∨ ch q = 125 := by simpa [gq_fin] using hfin
          omega
        have hlk : gq_look (ch q) = false := by rcases hor with h | h <;> rw [h] <;> rfl
        have hp0 : gq_pre ch 20 q = q := by
          show (if gq_look (ch q) then gq_pre ch 19 (q + 1) else q) = q
          rw [hlk]; rfl
        refine gm_item_simple (f := gq_sub ch 6) hl (fun _ => hq0 hnone) hB2 hqn ⟨fun _ => by simp, fun _ => rfl⟩ (by rw [hp0]; omega) (fun h => by rw [hp0] at h; omega) (fun t2 q2 S3 e3 n3 hit _ => ?_)
        exfalso
        unfold gq_item at hit
        rw [hp0] at hit
        have hat : gq_atom ch (gq_sub ch 6) q = none := by
          unfold gq_atom
          rcases hor with h | h <;> rw [h] <;> rfl
        rw [hat] at hit
        cases hit
      · have hsome : gq_line ch nn = some (ch 0 - 65, gt_w 10 (gt_chs (ss2.map Prod.fst ++ [gt_w 9 (gt_seqs (is2.map Prod.fst))]))) := by rw [hline, hq]; simp only [hqn, if_false]
        have hch := gm_lv_ch g7 (by omega) hne
        have g9 : S2 16 0 = nI s2 := g9
        have h8n : ¬ S2 8 s2 < 0 := by
          obtain ⟨p, hp⟩ : ∃ p, is2.head? = some p := by
            cases is2 with
            | nil => exact absurd rfl hne
            | cons p r => exact ⟨p, rfl⟩
          rw [g7.2.2.2.2.2.2.2.2.1 p hp]
          have := (gn_ch_le _ _ _ g7.2.2.2.2.1).2 p (List.mem_of_mem_head? hp)
          exact nI_pos (by omega)
        refine gb_read_67 ⟨fun h => absurd g3 h, fun _ => ⟨fun _ => gb_read_92 ⟨fun h => absurd g3 h, fun _ => ⟨fun h => absurd (by rw [g4]; rfl) h, fun _ => ?_⟩⟩, fun h => ?_⟩⟩
        · rw [g9, nI_clamp (show s2 < 2 ^ 31 by omega)]
          refine ⟨vp_in_nI (by omega) (by decide), fun h => absurd h h8n, fun _ => gb_read_125 ⟨rfl, hq1 _ _ S2 (e2 - 160) hsome g1 g6 (by omega) ?_⟩⟩
          rw [show 160 + (e2 - 160) = e2 by omega]
          exact hch
        · rw [g2, hlS.1] at h
          have := (nI_ltI (by omega) (by omega)).mp h
          omega
  · rw [h1] at h3'
    have hn3 := (nI_ltI (b := 3) (by omega) (by decide)).mp h3'
    cases hln : gq_line ch nn with
    | none => rfl
    | some rt =>
      obtain ⟨r, t⟩ := rt
      have := (gq_line_ok h4 hln).2.2.1
      omega
end GRD
