/-! What the class's patterns start with. -/
section GCD
variable {d bc bs : Nat} {S : Nat → Nat → Int32} {P : Nat → Option Nat} {R : Nat → Int64} {E : gx_H} {Q : gx_R → Prop}
/-- starts -/
theorem gc_starts {Em : Nat → Bool} (t : gt_T) :
    (∀ w d, gc_tr E t (.inl none) w → gt_ht t ≤ d → gc_an S P R E gc_sel_starts (d + 6) w (gp_m Em) (gp_m (gt_sts Em t))) ∧
    (∀ w d, gc_tr E (gt_core t) (.inl none) w → gt_ht t ≤ d → gc_an S P R E gc_sel_starts (d + 6) w (gp_m Em) (gp_m (gt_sts Em t))) ∧
    (∀ us lw ws i n d acc Q (bc bs : Nat), gc_tr E t (.inr ws) 0 → gt_isl 10 t = false → gt_ht t ≤ d → E[n]? = some (.inr (10, [.ref lw])) → gc_li E lw us → us.drop i = ws → Q (.inl (some (.int (gp_m (fun r => acc r || gt_sts Em t r)))), gc_h S P R E) → gx_X gc_P (d + 7) 69 (4, [some (.ref (n + 17)), some (.int (gp_m Em)), some (.int (gp_m acc)), some (.int (nI i))], [], gc_h S P R E, bc, bs) Q) ∧
    (∀ us lw ws i n d acc Q (bc bs : Nat), gc_tr E t (.inr ws) 0 → gt_isl 9 t = false → gt_ht t ≤ d → E[n]? = some (.inr (11, [.ref lw])) → gc_li E lw us → us.drop i = ws → Q (.inl (some (.int (gp_m (fun r => acc r || gt_sts Em t r)))), gc_h S P R E) → gx_X gc_P (d + 7) 65 (4, [some (.ref (n + 17)), some (.int (gp_m Em)), some (.int (gp_m acc)), some (.int (nI i))], [], gc_h S P R E, bc, bs) Q) := by
  have one10 : ∀ (us : List Nat) (lw w i n d : Nat) (v acc : Nat → Bool) (b : Bool) (Q : gx_R → Prop) (bc bs : Nat), gc_an S P R E gc_sel_starts (d + 6) w (gp_m Em) (gp_m v) → gc_an S P R E gc_sel_emptyable (d + 6) w (gp_m Em) (gp_b b) → E[n]? = some (.inr (10, [.ref lw])) → gc_li E lw us → us[i]? = some w → (b = false → Q (.inl (some (.int (gp_m (fun r => acc r || v r)))), gc_h S P R E)) → (b = true → gx_X gc_P (d + 7) 69 (4, [some (.ref (n + 17)), some (.int (gp_m Em)), some (.int (gp_m (fun r => acc r || v r))), some (.int (nI (i + 1)))], [], gc_h S P R E, bc, bs) Q) → gx_X gc_P (d + 7) 69 (4, [some (.ref (n + 17)), some (.int (gp_m Em)), some (.int (gp_m acc)), some (.int (nI i))], [], gc_h S P R E, bc, bs) Q := fun us lw w i n d v acc b Q bc bs ha he hn hl hi h0 h1 => by
    have hil := (List.getElem?_eq_some_iff.mp hi).1
    have h20 := gc_li_20 hl
    refine gd_Sequence_starts_4 hn (gc_size (d := d + 5) hl (Nat.le_of_ble_eq_true rfl) (gd_Sequence_starts_14 hn ⟨fun h => absurd (nI_lt hil (by omega)) h, fun _ => gc_get (d := d + 3) hl hi (Nat.le_of_ble_eq_true rfl) (gd_Sequence_starts_28 hn ⟨gc_an_cls ha, gc_an_call ha (Nat.le_of_ble_eq_true rfl) (gd_Sequence_starts_35 hn ?_)⟩)⟩))
    rw [gp_m_or]
    refine gc_get (d := d + 3) hl hi (by decide) (gd_Sequence_starts_47 hn ⟨gc_an_cls he, gc_an_call he (by decide) (gd_Sequence_starts_54 hn ⟨fun h => ?_, fun h => h0 ((gp_b_0 _).mp h)⟩)⟩)
    rw [show nI i + Int32.ofInt 1 = nI (i + 1) from nI_1 i]
    exact h1 (gp_b_1 h)
  have end10 : ∀ (us : List Nat) (lw i n d : Nat) (acc : Nat → Bool) (Q : gx_R → Prop) (bc bs : Nat), E[n]? = some (.inr (10, [.ref lw])) → gc_li E lw us → us.length ≤ i → i < 2 ^ 31 → Q (.inl (some (.int (gp_m acc))), gc_h S P R E) → gx_X gc_P (d + 7) 69 (4, [some (.ref (n + 17)), some (.int (gp_m Em)), some (.int (gp_m acc)), some (.int (nI i))], [], gc_h S P R E, bc, bs) Q := fun us lw i n d acc Q bc bs hn hl hi hi31 hq =>
    gd_Sequence_starts_4 hn (gc_size (d := d + 5) hl (Nat.le_of_ble_eq_true rfl) (gd_Sequence_starts_14 hn ⟨fun _ => hq, fun h => absurd h (nI_nlt hi hi31)⟩))
  have one11 : ∀ (us : List Nat) (lw w i n d : Nat) (v acc : Nat → Bool) (Q : gx_R → Prop) (bc bs : Nat), gc_an S P R E gc_sel_starts (d + 6) w (gp_m Em) (gp_m v) → E[n]? = some (.inr (11, [.ref lw])) → gc_li E lw us → us[i]? = some w → gx_X gc_P (d + 7) 65 (4, [some (.ref (n + 17)), some (.int (gp_m Em)), some (.int (gp_m (fun r => acc r || v r))), some (.int (nI (i + 1)))], [], gc_h S P R E, bc, bs) Q → gx_X gc_P (d + 7) 65 (4, [some (.ref (n + 17)), some (.int (gp_m Em)), some (.int (gp_m acc)), some (.int (nI i))], [], gc_h S P R E, bc, bs) Q := fun us lw w i n d v acc Q bc bs ha hn hl hi h1 => by
    have hil := (List.getElem?_eq_some_iff.mp hi).1
    have h20 := gc_li_20 hl
    refine gd_Choice_starts_4 hn (gc_size (d := d + 5) hl (Nat.le_of_ble_eq_true rfl) (gd_Choice_starts_14 hn ⟨fun h => absurd (nI_lt hil (by omega)) h, fun _ => gc_get (d := d + 3) hl hi (Nat.le_of_ble_eq_true rfl) (gd_Choice_starts_28 hn ⟨gc_an_cls ha, gc_an_call ha (Nat.le_of_ble_eq_true rfl) (gd_Choice_starts_35 hn ?_)⟩)⟩))
    rw [gp_m_or, show nI i + Int32.ofInt 1 = nI (i + 1) from nI_1 i]
    exact h1
  have end11 : ∀ (us : List Nat) (lw i n d : Nat) (acc : Nat → Bool) (Q : gx_R → Prop) (bc bs : Nat), E[n]? = some (.inr (11, [.ref lw])) → gc_li E lw us → us.length ≤ i → i < 2 ^ 31 → Q (.inl (some (.int (gp_m acc))), gc_h S P R E) → gx_X gc_P (d + 7) 65 (4, [some (.ref (n + 17)), some (.int (gp_m Em)), some (.int (gp_m acc)), some (.int (nI i))], [], gc_h S P R E, bc, bs) Q := fun us lw i n d acc Q bc bs hn hl hi hi31 hq =>
    gd_Choice_starts_4 hn (gc_size (d := d + 5) hl (Nat.le_of_ble_eq_true rfl) (gd_Choice_starts_14 hn ⟨fun _ => hq, fun h => absurd h (nI_nlt hi hi31)⟩))
  have lst : ∀ {t : gt_T}, (∀ w d, gc_tr E t (.inl none) w → gt_ht t ≤ d → gc_an S P R E gc_sel_starts (d + 6) w (gp_m Em) (gp_m (gt_sts Em t))) → gt_isl 9 t = false → gt_isl 10 t = false →
      (∀ us lw ws i n d acc Q (bc bs : Nat), gc_tr E t (.inr ws) 0 → gt_isl 10 t = false → gt_ht t ≤ d → E[n]? = some (.inr (10, [.ref lw])) → gc_li E lw us → us.drop i = ws → Q (.inl (some (.int (gp_m (fun r => acc r || gt_sts Em t r)))), gc_h S P R E) → gx_X gc_P (d + 7) 69 (4, [some (.ref (n + 17)), some (.int (gp_m Em)), some (.int (gp_m acc)), some (.int (nI i))], [], gc_h S P R E, bc, bs) Q) ∧
      (∀ us lw ws i n d acc Q (bc bs : Nat), gc_tr E t (.inr ws) 0 → gt_isl 9 t = false → gt_ht t ≤ d → E[n]? = some (.inr (11, [.ref lw])) → gc_li E lw us → us.drop i = ws → Q (.inl (some (.int (gp_m (fun r => acc r || gt_sts Em t r)))), gc_h S P R E) → gx_X gc_P (d + 7) 65 (4, [some (.ref (n + 17)), some (.int (gp_m Em)), some (.int (gp_m acc)), some (.int (nI i))], [], gc_h S P R E, bc, bs) Q) := fun {t} hA h9 h10 => by
    refine ⟨fun us lw ws i n d acc Q bc bs ht _ hd hn hl hdr hq => ?_, fun us lw ws i n d acc Q bc bs ht _ hd hn hl hdr hq => ?_⟩
    · obtain ⟨w, rfl, htw⟩ := gc_tr_last h9 h10 ht
      obtain ⟨g1, g2, g3⟩ := gc_drop1 hdr
      have h20 := gc_li_20 hl
      have hle : us.length ≤ i + 1 := by
        have := congrArg List.length g2
        simp at this
        omega
      exact one10 us lw w i n d _ acc _ Q bc bs (hA w d htw hd) ((gc_emptyable (Em := Em) t).1 w (d + 1) htw (by omega)) hn hl g1 (fun _ => hq) (fun _ => end10 us lw (i + 1) n d _ Q bc bs hn hl hle (by omega) hq)
    · obtain ⟨w, rfl, htw⟩ := gc_tr_last h9 h10 ht
      obtain ⟨g1, g2, g3⟩ := gc_drop1 hdr
      have h20 := gc_li_20 hl
      have hle : us.length ≤ i + 1 := by
        have := congrArg List.length g2
        simp at this
        omega
      exact one11 us lw w i n d _ acc Q bc bs (hA w d htw hd) hn hl g1 (end11 us lw (i + 1) n d _ Q bc bs hn hl hle (by omega) hq)
  have z : ∀ (Q : gx_R → Prop), Q (.inl (some (.int (gp_m (fun _ => false)))), gc_h S P R E) → Q (.inl (some (.int 0)), gc_h S P R E) := fun Q h => by rw [gp_m_zero] at h; exact h
  induction t with
  | cat l hi =>
    refine ⟨?a1, ?a1, lst ?a1 rfl rfl⟩
    intro w d ⟨⟨n, e, hn⟩, _⟩ _
    subst e
    exact ⟨5, _, 70, 2, gc_n hn, by decide, rfl, fun Q bc bs hq => gd_Single_starts_0 hn (z Q hq)⟩
  | parser r =>
    refine ⟨?a2, ?a2, lst ?a2 rfl rfl⟩
    intro w d ⟨⟨n, e, hn⟩, hr⟩ _
    subst e
    refine ⟨6, _, 67, 2, gc_n hn, by decide, rfl, fun Q bc bs hq => gd_Name_starts_0 hn ?_⟩
    rw [gp_m_one hr]
    exact hq
  | const r =>
    refine ⟨?a3, ?a3, lst ?a3 rfl rfl⟩
    intro w d ⟨n, e, hn⟩ _
    subst e
    exact ⟨7, _, 64, 2, gc_n hn, by decide, rfl, fun Q bc bs hq => gd_Capture_startsn_0 hn (gd_Capture_startsn_19 hn (z Q hq))⟩
  | unary m a ih =>
    refine ⟨?a4, ?a4, lst ?a4 rfl rfl⟩
    intro w d ⟨w', ⟨n, e, hn⟩, ha⟩ hd
    subst e
    have hd : gt_ht a + 1 ≤ d := hd
    obtain ⟨d, rfl⟩ : ∃ d', d = d' + 1 := ⟨d - 1, by omega⟩
    have hA := ih.1 w' d ha (by omega)
    exact ⟨7, _, 64, 2, gc_n hn, by decide, rfl, fun Q bc bs hq => gd_Capture_startsr_0 hn (gc_an_call hA (by decide) (gd_Capture_startsr_19 hn hq))⟩
  | node m k a ih =>
    refine ⟨?a5, ?a5, lst ?a5 rfl rfl⟩
    intro w d ⟨w', hk3, ⟨n, e, hn⟩, ha⟩ hd
    subst e
    have hd : gt_ht a + 1 ≤ d := hd
    obtain ⟨d, rfl⟩ : ∃ d', d = d' + 1 := ⟨d - 1, by omega⟩
    have hA := ih.1 w' d ha (by omega)
    exact ⟨8, _, 68, 2, gc_n hn, by decide, rfl, fun Q bc bs hq => gd_Repeat_starts_0 hn (gc_an_call hA (by decide) (gd_Repeat_starts_8 hn hq))⟩
  | trailingNode m b l a ih =>
    refine ⟨?a6, fun w d ht hd => ih.2.1 w d ht (by have : gt_ht a + 1 ≤ d := hd; omega), lst ?a6 rfl rfl⟩
    intro w d ht hd
    have hd : gt_ht a + 1 ≤ d := hd
    obtain ⟨d, rfl⟩ : ∃ d', d = d' + 1 := ⟨d - 1, by omega⟩
    obtain ⟨w', ⟨n, e, hn⟩, hw'⟩ := gc_tr_look a _ w ht
    subst e
    have hA := ih.2.1 w' d hw' (by omega)
    exact ⟨9, _, 66, 2, gc_n hn, by decide, rfl, fun Q bc bs hq => gd_Look_starts_0 hn (gc_an_call hA (by decide) (gd_Look_starts_8 hn hq))⟩
  | nodeWithAntiquot s k a ih =>
    refine ⟨?a7, ?a7, lst ?a7 rfl rfl⟩
    intro w d ht hd
    have hd : gt_ht a + 1 ≤ d := hd
    have ht : (if gt_isl 9 a || gt_isl 10 a then (gt_nm k = 9 ∧ gt_isl 9 a = true ∨ gt_nm k = 10 ∧ gt_isl 10 a = true) ∧ ∃ lw ws, gc_ob E w (gt_nm k + 1) [.ref lw] ∧ gc_li E lw ws ∧ gc_tr E a (.inr ws) 0 else gc_tr E a (.inl none) w) := ht
    split at ht
    · obtain ⟨hk, lw, ws, ⟨n, e, hn⟩, hl, hta⟩ := ht
      subst e
      obtain ⟨d, rfl⟩ : ∃ d', d = d' + 1 := ⟨d - 1, by omega⟩
      have e0 : (0 : Int32) = gp_m (fun _ => false) := gp_m_zero.symm
      rcases hk with ⟨hk, h9⟩ | ⟨hk, h10⟩
      · rw [hk] at hn
        have h10 : gt_isl 10 a = false := by cases a <;> first | rfl | cases h9
        refine ⟨10, _, 69, 4, gc_n hn, by decide, rfl, fun Q bc bs hq => gd_Sequence_starts_0 hn ?_⟩
        have := ih.2.2.1 ws lw ws 0 n d (fun _ => false) Q bc bs hta h10 (by omega) hn hl rfl (by simp only [Bool.false_or]; exact hq)
        rw [gp_m_zero] at this
        exact this
      · rw [hk] at hn
        have h9 : gt_isl 9 a = false := by cases a <;> first | rfl | cases h10
        refine ⟨11, _, 65, 4, gc_n hn, by decide, rfl, fun Q bc bs hq => gd_Choice_starts_0 hn ?_⟩
        have := ih.2.2.2 ws lw ws 0 n d (fun _ => false) Q bc bs hta h9 (by omega) hn hl rfl (by simp only [Bool.false_or]; exact hq)
        rw [gp_m_zero] at this
        exact this
    · exact ih.1 w d ht (by omega)
  | sepBy x s y b ihx ihy =>
    refine ⟨fun w d ht => False.elim ht, fun w d ht => False.elim ht, fun us lw ws i n d acc Q bc bs ht _ hd hn hl hdr hq => ?_, (fun us lw ws i n d acc Q bc bs _ h => by cases h)⟩
    have hd : max (gt_ht x) (gt_ht y) ≤ d := hd
    cases ws with
    | nil => exact False.elim ht
    | cons w ws =>
      obtain ⟨h1, h2, h3⟩ := ht
      obtain ⟨g1, g2, g3⟩ := gc_drop1 hdr
      have hq : Q (.inl (some (.int (gp_m (fun r => acc r || (gt_sts Em x r || (gt_emp Em x && gt_sts Em y r)))))), gc_h S P R E) := hq
      refine one10 us lw w i n d _ acc _ Q bc bs (ihx.1 w d h1 (by omega)) ((gc_emptyable (Em := Em) x).1 w (d + 1) h1 (by omega)) hn hl g1 (fun hb => ?_) (fun hb => ihy.2.2.1 us lw ws (i + 1) n d _ Q bc bs h3 h2 (by omega) hn hl g2 ?_)
      · rw [hb] at hq
        simpa using hq
      · rw [hb] at hq
        simpa [Bool.or_assoc] using hq
  | sepBy1 x s y b ihx ihy =>
    refine ⟨fun w d ht => False.elim ht, fun w d ht => False.elim ht, (fun us lw ws i n d acc Q bc bs _ h => by cases h), fun us lw ws i n d acc Q bc bs ht _ hd hn hl hdr hq => ?_⟩
    have hd : max (gt_ht x) (gt_ht y) ≤ d := hd
    cases ws with
    | nil => exact False.elim ht
    | cons w ws =>
      obtain ⟨h1, h2, h3⟩ := ht
      obtain ⟨g1, g2, g3⟩ := gc_drop1 hdr
      have hq : Q (.inl (some (.int (gp_m (fun r => acc r || (gt_sts Em x r || gt_sts Em y r))))), gc_h S P R E) := hq
      refine one11 us lw w i n d _ acc Q bc bs (ihx.1 w d h1 (by omega)) hn hl g1 (ihy.2.2.2 us lw ws (i + 1) n d _ Q bc bs h3 h2 (by omega) hn hl g2 ?_)
      simpa [Bool.or_assoc] using hq
  | _ => exact ⟨fun w d ht => False.elim ht, fun w d ht => False.elim ht, fun us lw ws i n d acc Q bc bs ht => False.elim ht, fun us lw ws i n d acc Q bc bs ht => False.elim ht⟩
end GCD
