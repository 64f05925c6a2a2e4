/-! Going round, and what the class's patterns start with. -/
theorem gt_core_grd (E : Nat → Bool) (t : gt_T) : gt_grd E (gt_core t) = gt_grd E t := by
  induction t with
  | trailingNode m b l a ih => exact ih
  | _ => rfl
theorem gt_core_sts (E : Nat → Bool) (t : gt_T) (r : Nat) : gt_sts E (gt_core t) r = gt_sts E t r := by
  induction t with
  | trailingNode m b l a ih => exact ih
  | _ => rfl
theorem gc_drop1 {us : List Nat} {i w : Nat} {ws : List Nat} (h : us.drop i = w :: ws) : us[i]? = some w ∧ us.drop (i + 1) = ws ∧ i < us.length := by
  have hl : i < us.length := by
    rcases Nat.lt_or_ge i us.length with h' | h'
    · exact h'
    · rw [List.drop_eq_nil_of_le h'] at h; cases h
  have e : us.drop i = us[i] :: us.drop (i + 1) := List.drop_eq_getElem_cons hl
  rw [e] at h
  cases h
  exact ⟨List.getElem?_eq_getElem hl, rfl, hl⟩
theorem gc_li_20 {E : gx_H} {lw : Nat} {us : List Nat} (hl : gc_li E lw us) : us.length ≤ 20 := by
  obtain ⟨_, _, _, _, _, _, _, _, _, _, _, h⟩ := hl
  exact h
theorem gp_b_1 {b : Bool} (h : ¬ gp_b b = 0) : b = true := by
  cases hb : b with
  | true => rfl
  | false => rw [hb] at h; exact absurd rfl h
section GCC
variable {d bc bs : Nat} {S : Nat → Nat → Int32} {P : Nat → Option Nat} {R : Nat → Int64} {E : gx_H} {Q : gx_R → Prop}
/-- goesRound -/
theorem gc_goesRound {Em : Nat → Bool} (t : gt_T) :
    (∀ w d, gc_tr E t (.inl none) w → gt_ht t ≤ d → gc_an S P R E gc_sel_goesRound (d + 6) w (gp_m Em) (gp_b (gt_grd Em t))) ∧
    (∀ w d, gc_tr E (gt_core t) (.inl none) w → gt_ht t ≤ d → gc_an S P R E gc_sel_goesRound (d + 6) w (gp_m Em) (gp_b (gt_grd Em t))) ∧
    (∀ us lw ws i n d Q (bc bs : Nat), gc_tr E t (.inr ws) 0 → gt_isl 10 t = false → gt_ht t ≤ d → E[n]? = some (.inr (10, [.ref lw])) → gc_li E lw us → us.drop i = ws → Q (.inl (some (.int (gp_b (gt_grd Em t)))), gc_h S P R E) → gx_X gc_P (d + 7) 77 (2, [some (.ref (n + 17)), some (.int (gp_m Em)), some (.int (nI i))], [], gc_h S P R E, bc, bs) Q) ∧
    (∀ us lw ws i n d Q (bc bs : Nat), gc_tr E t (.inr ws) 0 → gt_isl 9 t = false → gt_ht t ≤ d → E[n]? = some (.inr (11, [.ref lw])) → gc_li E lw us → us.drop i = ws → Q (.inl (some (.int (gp_b (gt_grd Em t)))), gc_h S P R E) → gx_X gc_P (d + 7) 73 (2, [some (.ref (n + 17)), some (.int (gp_m Em)), some (.int (nI i))], [], gc_h S P R E, bc, bs) Q) := by
  have one10 : ∀ (us : List Nat) (lw w i n d : Nat) (b : Bool) (Q : gx_R → Prop) (bc bs : Nat), gc_an S P R E gc_sel_goesRound (d + 6) w (gp_m Em) (gp_b b) → E[n]? = some (.inr (10, [.ref lw])) → gc_li E lw us → us[i]? = some w → (b = true → Q (.inl (some (.int 1)), gc_h S P R E)) → (b = false → gx_X gc_P (d + 7) 77 (2, [some (.ref (n + 17)), some (.int (gp_m Em)), some (.int (nI (i + 1)))], [], gc_h S P R E, bc, bs) Q) → gx_X gc_P (d + 7) 77 (2, [some (.ref (n + 17)), some (.int (gp_m Em)), some (.int (nI i))], [], gc_h S P R E, bc, bs) Q := fun us lw w i n d b Q bc bs ha hn hl hi h0 h1 => by
    have hil := (List.getElem?_eq_some_iff.mp hi).1
    have h20 := gc_li_20 hl
    refine gd_Sequence_goesRound_2 hn (gc_size (d := d + 5) hl (Nat.le_of_ble_eq_true rfl) (gd_Sequence_goesRound_12 hn ⟨fun h => absurd (nI_lt hil (by omega)) h, fun _ => gc_get (d := d + 3) hl hi (by decide) (gd_Sequence_goesRound_25 hn ⟨gc_an_cls ha, gc_an_call ha (by decide) (gd_Sequence_goesRound_32 hn ⟨fun h => ?_, fun h => h0 (gp_b_1 h)⟩)⟩)⟩))
    rw [show nI i + Int32.ofInt 1 = nI (i + 1) from nI_1 i]
    exact h1 ((gp_b_0 _).mp h)
  have end10 : ∀ (us : List Nat) (lw i n d : Nat) (Q : gx_R → Prop) (bc bs : Nat), E[n]? = some (.inr (10, [.ref lw])) → gc_li E lw us → us.length ≤ i → i < 2 ^ 31 → Q (.inl (some (.int 0)), gc_h S P R E) → gx_X gc_P (d + 7) 77 (2, [some (.ref (n + 17)), some (.int (gp_m Em)), some (.int (nI i))], [], gc_h S P R E, bc, bs) Q := fun us lw i n d Q bc bs hn hl hi hi31 hq =>
    gd_Sequence_goesRound_2 hn (gc_size (d := d + 5) hl (Nat.le_of_ble_eq_true rfl) (gd_Sequence_goesRound_12 hn ⟨fun _ => hq, fun h => absurd h (nI_nlt hi hi31)⟩))
  have one11 : ∀ (us : List Nat) (lw w i n d : Nat) (b : Bool) (Q : gx_R → Prop) (bc bs : Nat), gc_an S P R E gc_sel_goesRound (d + 6) w (gp_m Em) (gp_b b) → E[n]? = some (.inr (11, [.ref lw])) → gc_li E lw us → us[i]? = some w → (b = true → Q (.inl (some (.int 1)), gc_h S P R E)) → (b = false → gx_X gc_P (d + 7) 73 (2, [some (.ref (n + 17)), some (.int (gp_m Em)), some (.int (nI (i + 1)))], [], gc_h S P R E, bc, bs) Q) → gx_X gc_P (d + 7) 73 (2, [some (.ref (n + 17)), some (.int (gp_m Em)), some (.int (nI i))], [], gc_h S P R E, bc, bs) Q := fun us lw w i n d b Q bc bs ha hn hl hi h0 h1 => by
    have hil := (List.getElem?_eq_some_iff.mp hi).1
    have h20 := gc_li_20 hl
    refine gd_Choice_goesRound_2 hn (gc_size (d := d + 5) hl (Nat.le_of_ble_eq_true rfl) (gd_Choice_goesRound_12 hn ⟨fun h => absurd (nI_lt hil (by omega)) h, fun _ => gc_get (d := d + 3) hl hi (by decide) (gd_Choice_goesRound_25 hn ⟨gc_an_cls ha, gc_an_call ha (by decide) (gd_Choice_goesRound_32 hn ⟨fun h => ?_, fun h => h0 (gp_b_1 h)⟩)⟩)⟩))
    rw [show nI i + Int32.ofInt 1 = nI (i + 1) from nI_1 i]
    exact h1 ((gp_b_0 _).mp h)
  have end11 : ∀ (us : List Nat) (lw i n d : Nat) (Q : gx_R → Prop) (bc bs : Nat), E[n]? = some (.inr (11, [.ref lw])) → gc_li E lw us → us.length ≤ i → i < 2 ^ 31 → Q (.inl (some (.int 0)), gc_h S P R E) → gx_X gc_P (d + 7) 73 (2, [some (.ref (n + 17)), some (.int (gp_m Em)), some (.int (nI i))], [], gc_h S P R E, bc, bs) Q := fun us lw i n d Q bc bs hn hl hi hi31 hq =>
    gd_Choice_goesRound_2 hn (gc_size (d := d + 5) hl (Nat.le_of_ble_eq_true rfl) (gd_Choice_goesRound_12 hn ⟨fun _ => hq, fun h => absurd h (nI_nlt hi hi31)⟩))
  have lst : ∀ {t : gt_T}, (∀ w d, gc_tr E t (.inl none) w → gt_ht t ≤ d → gc_an S P R E gc_sel_goesRound (d + 6) w (gp_m Em) (gp_b (gt_grd Em t))) → gt_isl 9 t = false → gt_isl 10 t = false →
      (∀ us lw ws i n d Q (bc bs : Nat), gc_tr E t (.inr ws) 0 → gt_isl 10 t = false → gt_ht t ≤ d → E[n]? = some (.inr (10, [.ref lw])) → gc_li E lw us → us.drop i = ws → Q (.inl (some (.int (gp_b (gt_grd Em t)))), gc_h S P R E) → gx_X gc_P (d + 7) 77 (2, [some (.ref (n + 17)), some (.int (gp_m Em)), some (.int (nI i))], [], gc_h S P R E, bc, bs) Q) ∧
      (∀ us lw ws i n d Q (bc bs : Nat), gc_tr E t (.inr ws) 0 → gt_isl 9 t = false → gt_ht t ≤ d → E[n]? = some (.inr (11, [.ref lw])) → gc_li E lw us → us.drop i = ws → Q (.inl (some (.int (gp_b (gt_grd Em t)))), gc_h S P R E) → gx_X gc_P (d + 7) 73 (2, [some (.ref (n + 17)), some (.int (gp_m Em)), some (.int (nI i))], [], gc_h S P R E, bc, bs) Q) := fun {t} hA h9 h10 => by
    refine ⟨fun us lw ws i n d Q bc bs ht _ hd hn hl hdr hq => ?_, fun us lw ws i n d Q bc bs ht _ hd hn hl hdr hq => ?_⟩
    · obtain ⟨w, rfl, htw⟩ := gc_tr_last h9 h10 ht
      obtain ⟨g1, g2, g3⟩ := gc_drop1 hdr
      have h20 := gc_li_20 hl
      have hle : us.length ≤ i + 1 := by
        have := congrArg List.length g2
        simp at this
        omega
      refine one10 us lw w i n d _ Q bc bs (hA w d htw hd) hn hl g1 (fun hb => by rw [hb] at hq; exact hq) (fun hb => end10 us lw (i + 1) n d Q bc bs hn hl hle (by omega) (by rw [hb] at hq; exact hq))
    · obtain ⟨w, rfl, htw⟩ := gc_tr_last h9 h10 ht
      obtain ⟨g1, g2, g3⟩ := gc_drop1 hdr
      have h20 := gc_li_20 hl
      have hle : us.length ≤ i + 1 := by
        have := congrArg List.length g2
        simp at this
        omega
      refine one11 us lw w i n d _ Q bc bs (hA w d htw hd) hn hl g1 (fun hb => by rw [hb] at hq; exact hq) (fun hb => end11 us lw (i + 1) n d Q bc bs hn hl hle (by omega) (by rw [hb] at hq; exact hq))
  induction t with
  | cat l hi =>
    refine ⟨?a1, ?a1, lst ?a1 rfl rfl⟩
    intro w d ⟨⟨n, e, hn⟩, _⟩ _
    subst e
    exact ⟨5, _, 78, 2, gc_n hn, by decide, rfl, fun Q bc bs hq => gd_Single_goesRound_0 hn hq⟩
  | parser r =>
    refine ⟨?a2, ?a2, lst ?a2 rfl rfl⟩
    intro w d ⟨⟨n, e, hn⟩, hr⟩ _
    subst e
    exact ⟨6, _, 75, 2, gc_n hn, by decide, rfl, fun Q bc bs hq => gd_Name_goesRound_0 hn hq⟩
  | const r =>
    refine ⟨?a3, ?a3, lst ?a3 rfl rfl⟩
    intro w d ⟨n, e, hn⟩ _
    subst e
    exact ⟨7, _, 72, 2, gc_n hn, by decide, rfl, fun Q bc bs hq => gd_Capture_goesRoundn_0 hn (gd_Capture_goesRoundn_22 hn (gd_Capture_goesRoundn_23 hn ⟨rfl, hq⟩))⟩
  | unary m a ih =>
    refine ⟨?a4, ?a4, lst ?a4 rfl rfl⟩
    intro w d ⟨w', ⟨n, e, hn⟩, ha⟩ hd
    subst e
    have hd : gt_ht a + 1 ≤ d := hd
    obtain ⟨d, rfl⟩ : ∃ d', d = d' + 1 := ⟨d - 1, by omega⟩
    have hA := ih.1 w' d ha (by omega)
    refine ⟨7, _, 72, 2, gc_n hn, by decide, rfl, fun Q bc bs hq => gd_Capture_goesRoundr_0 hn (gc_an_call hA (by decide) (gd_Capture_goesRoundr_15 hn ⟨fun h => gd_Capture_goesRoundr_22 hn (gd_Capture_goesRoundr_23 hn ⟨rfl, ?_⟩), fun h => gd_Capture_goesRoundr_23 hn ⟨rfl, ?_⟩⟩))⟩
    · have hq : Q (.inl (some (.int (gp_b (gt_grd Em a)))), gc_h S P R E) := hq
      rw [(gp_b_0 _).mp h] at hq
      exact hq
    · have hq : Q (.inl (some (.int (gp_b (gt_grd Em a)))), gc_h S P R E) := hq
      rw [gp_b_1 h] at hq
      exact hq
  | node m k a ih =>
    refine ⟨?a5, ?a5, lst ?a5 rfl rfl⟩
    intro w d ⟨w', hk3, ⟨n, e, hn⟩, ha⟩ hd
    subst e
    have hd : gt_ht a + 1 ≤ d := hd
    obtain ⟨d, rfl⟩ : ∃ d', d = d' + 1 := ⟨d - 1, by omega⟩
    have hA := ih.1 w' d ha (by omega)
    have hM := (gc_emptyable (S := S) (P := P) (R := R) (Em := Em) a).1 w' (d + 1) ha (by omega)
    refine ⟨8, _, 76, 2, gc_n hn, by decide, rfl, fun Q bc bs hq => ?_⟩
    have hq : Q (.inl (some (.int (gp_b ((!(k == 2) && gt_emp Em a) || gt_grd Em a)))), gc_h S P R E) := hq
    have rest : (!(k == 2) && gt_emp Em a) = false → gx_X gc_P (d + 1 + 6) 76 (19, [some (.ref (n + 17)), some (.int (gp_m Em))], [], gc_h S P R E, bc, bs) Q := fun h0 => by
      rw [h0, Bool.false_or] at hq
      refine gd_Repeat_goesRound_19 hn (gc_an_call hA (by decide) (gd_Repeat_goesRound_27 hn ⟨fun h => gd_Repeat_goesRound_35 hn ⟨rfl, ?_⟩, fun h => gd_Repeat_goesRound_30 hn (gd_Repeat_goesRound_35 hn ⟨rfl, ?_⟩)⟩))
      · rw [(gp_b_0 _).mp h] at hq
        exact hq
      · rw [gp_b_1 h] at hq
        exact hq
    by_cases k2 : k = 2
    · subst k2
      exact gd_Repeat_goesRound_0 hn ⟨fun _ => rest rfl, fun h => absurd h (by decide +kernel)⟩
    · have em : gt_most k = 10 := by rw [gt_most, if_neg k2]
      rw [em] at hn
      refine gd_Repeat_goesRound_0 hn ⟨fun h => absurd (by decide +kernel) h, fun _ => gc_an_call hM (by decide) (gd_Repeat_goesRound_16 hn ⟨fun h => gd_Repeat_goesRound_30 hn (gd_Repeat_goesRound_35 hn ⟨rfl, ?_⟩), fun h => ?_⟩)⟩
      · rw [gp_b_1 h] at hq
        simpa [k2, gp_b] using hq
      · skip
        exact rest (by rw [(gp_b_0 _).mp h, Bool.and_false])
  | trailingNode m b l a ih =>
    refine ⟨?a6, fun w d ht hd => ih.2.1 w d ht (by have : gt_ht a + 1 ≤ d := hd; omega), lst ?a6 rfl rfl⟩
    intro w d ht hd
    have hd : gt_ht a + 1 ≤ d := hd
    obtain ⟨d, rfl⟩ : ∃ d', d = d' + 1 := ⟨d - 1, by omega⟩
    obtain ⟨w', ⟨n, e, hn⟩, hw'⟩ := gc_tr_look a _ w ht
    subst e
    have hA := ih.2.1 w' d hw' (by omega)
    exact ⟨9, _, 74, 2, gc_n hn, by decide, rfl, fun Q bc bs hq => gd_Look_goesRound_0 hn (gc_an_call hA (by decide) (gd_Look_goesRound_8 hn ⟨gp_b_nar _, hq⟩))⟩
  | nodeWithAntiquot s k a ih =>
    refine ⟨?a7, ?a7, lst ?a7 rfl rfl⟩
    intro w d ht hd
    have hd : gt_ht a + 1 ≤ d := hd
    have ht : (if gt_isl 9 a || gt_isl 10 a then (gt_nm k = 9 ∧ gt_isl 9 a = true ∨ gt_nm k = 10 ∧ gt_isl 10 a = true) ∧ ∃ lw ws, gc_ob E w (gt_nm k + 1) [.ref lw] ∧ gc_li E lw ws ∧ gc_tr E a (.inr ws) 0 else gc_tr E a (.inl none) w) := ht
    split at ht
    · obtain ⟨hk, lw, ws, ⟨n, e, hn⟩, hl, hta⟩ := ht
      subst e
      obtain ⟨d, rfl⟩ : ∃ d', d = d' + 1 := ⟨d - 1, by omega⟩
      rcases hk with ⟨hk, h9⟩ | ⟨hk, h10⟩
      · rw [hk] at hn
        have h10 : gt_isl 10 a = false := by cases a <;> first | rfl | cases h9
        exact ⟨10, _, 77, 3, gc_n hn, by decide, rfl, fun Q bc bs hq => gd_Sequence_goesRound_0 hn (ih.2.2.1 ws lw ws 0 n d Q bc bs hta h10 (by omega) hn hl rfl hq)⟩
      · rw [hk] at hn
        have h9 : gt_isl 9 a = false := by cases a <;> first | rfl | cases h10
        exact ⟨11, _, 73, 3, gc_n hn, by decide, rfl, fun Q bc bs hq => gd_Choice_goesRound_0 hn (ih.2.2.2 ws lw ws 0 n d Q bc bs hta h9 (by omega) hn hl rfl hq)⟩
    · exact ih.1 w d ht (by omega)
  | sepBy x s y b ihx ihy =>
    refine ⟨fun w d ht => False.elim ht, fun w d ht => False.elim ht, fun us lw ws i n d Q bc bs ht _ hd hn hl hdr hq => ?_, (fun us lw ws i n d Q bc bs _ h => by cases h)⟩
    have hd : max (gt_ht x) (gt_ht y) ≤ d := hd
    cases ws with
    | nil => exact False.elim ht
    | cons w ws =>
      obtain ⟨h1, h2, h3⟩ := ht
      obtain ⟨g1, g2, g3⟩ := gc_drop1 hdr
      have hq : Q (.inl (some (.int (gp_b (gt_grd Em x || gt_grd Em y)))), gc_h S P R E) := hq
      refine one10 us lw w i n d _ Q bc bs (ihx.1 w d h1 (by omega)) hn hl g1 (fun hb => by rw [hb] at hq; exact hq) (fun hb => ihy.2.2.1 us lw ws (i + 1) n d Q bc bs h3 h2 (by omega) hn hl g2 (by rw [hb] at hq; exact hq))
  | sepBy1 x s y b ihx ihy =>
    refine ⟨fun w d ht => False.elim ht, fun w d ht => False.elim ht, (fun us lw ws i n d Q bc bs _ h => by cases h), fun us lw ws i n d Q bc bs ht _ hd hn hl hdr hq => ?_⟩
    have hd : max (gt_ht x) (gt_ht y) ≤ d := hd
    cases ws with
    | nil => exact False.elim ht
    | cons w ws =>
      obtain ⟨h1, h2, h3⟩ := ht
      obtain ⟨g1, g2, g3⟩ := gc_drop1 hdr
      have hq : Q (.inl (some (.int (gp_b (gt_grd Em x || gt_grd Em y)))), gc_h S P R E) := hq
      refine one11 us lw w i n d _ Q bc bs (ihx.1 w d h1 (by omega)) hn hl g1 (fun hb => by rw [hb] at hq; exact hq) (fun hb => ihy.2.2.2 us lw ws (i + 1) n d Q bc bs h3 h2 (by omega) hn hl g2 (by rw [hb] at hq; exact hq))
  | _ => exact ⟨fun w d ht => False.elim ht, fun w d ht => False.elim ht, fun us lw ws i n d Q bc bs ht => False.elim ht, fun us lw ws i n d Q bc bs ht => False.elim ht⟩
end GCC
