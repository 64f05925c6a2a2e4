/-! Lists; what looks ahead; empty-able patterns of the class. -/
/-- behind & and ! -/
def gt_core : gt_T → gt_T
  | .trailingNode _ _ _ a => gt_core a
  | t => t
/-- whether it is wanted -/
def gt_par : gt_T → Bool → Bool
  | .trailingNode _ b _ a, v => gt_par a (v == (b == 1))
  | _, v => v
section GCB
variable {d bc bs : Nat} {S : Nat → Nat → Int32} {P : Nat → Option Nat} {R : Nat → Int64} {E : gx_H} {Q : gx_R → Prop}
theorem gc_tr_look (t : gt_T) : ∀ (v : Bool) (w : Nat), gc_tr E t (.inl (some v)) w → ∃ w', gc_ob E w 9 [.ref w', .int (gp_b (gt_par t v))] ∧ gc_tr E (gt_core t) (.inl none) w' := by
  induction t with
  | trailingNode m b l a ih => exact fun v w h => ih _ w h
  | sepBy x s y b ihx ihy => exact fun v w h => False.elim h
  | sepBy1 x s y b ihx ihy => exact fun v w h => False.elim h
  | cat l hi => exact fun v w ⟨w', h1, h2⟩ => ⟨w', h1, h2⟩
  | parser r => exact fun v w ⟨w', h1, h2⟩ => ⟨w', h1, h2⟩
  | const r => exact fun v w ⟨w', h1, h2⟩ => ⟨w', h1, h2⟩
  | unary m a ih => exact fun v w ⟨w', h1, h2⟩ => ⟨w', h1, h2⟩
  | node m k a ih => exact fun v w ⟨w', h1, h2⟩ => ⟨w', h1, h2⟩
  | nodeWithAntiquot s k a ih => exact fun v w ⟨w', h1, h2⟩ => ⟨w', h1, h2⟩
  | _ => exact fun v w h => False.elim h
theorem gc_tr_last {t : gt_T} {ws : List Nat} (h9 : gt_isl 9 t = false) (h10 : gt_isl 10 t = false) (h : gc_tr E t (.inr ws) 0) : ∃ w, ws = [w] ∧ gc_tr E t (.inl none) w := by
  cases t with
  | sepBy x s y b => cases h9
  | sepBy1 x s y b => cases h10
  | trailingNode m b l a => exact h
  | cat l hi => exact h
  | parser r => exact h
  | const r => exact h
  | unary m a => exact h
  | node m k a => exact h
  | nodeWithAntiquot s k a => exact h
  | _ => exact False.elim h
/-- size of a list -/
theorem gc_size {lw : Nat} {ws : List Nat} (h : gc_li E lw ws) {nx pc : Nat} {lv : List (Option Value)} {st : List Value} {K : gx_S → Prop} (hst : (st.map Value.category).sum ≤ 8) (x : K (nx, lv, .int (nI ws.length) :: st, gc_h S P R E, bc, bs)) :
    gi_vpcall (gx_sel 12 109 1) 0 nx (pc, lv, .ref lw :: st, gc_h S P R E, bc, bs) K Q (fun m9 E9 Q9 => gx_X gc_P (d + 1) m9 E9 Q9) := by
  obtain ⟨D, mc, m, f, n, h1, _⟩ := h
  have ho := gc_ob_at (S := S) (P := P) (R := R) h1
  show (match (gc_h S P R E)[lw]? with
      | some (.inr (c, _)) => match gx_sel 12 109 1 c with
        | some (m', nL) => gi_callK m' (0 + 1) nL (.ref lw :: st) (gc_h S P R E) bc bs (fun kc ks => gx_k1 lv ((.ref lw :: st).drop (0 + 1)) nx (bc - kc) (bs - ks) K) (fun m9 E9 Q9 => gx_X gc_P (d + 1) m9 E9 Q9)
        | none => False
      | _ => False)
  rw [ho]
  have hb : Nat.ble ((st).map Value.category).sum 8 = true := Nat.ble_eq.mpr hst
  show (match Nat.ble ((st).map Value.category).sum 8, true, true with
    | true, true, true => ∃ kc ks, (kc ≤ bc ∧ ks ≤ bs) ∧ _
    | _, _, _ => False)
  rw [hb]
  exact ⟨0, 0, ⟨Nat.zero_le _, Nat.zero_le _⟩, gh_ArrayList_size_0 ho x⟩
/-- one of a list -/
theorem gc_get {lw i a : Nat} {ws : List Nat} (h : gc_li E lw ws) (hi : ws[i]? = some a) {nx pc : Nat} {lv : List (Option Value)} {st : List Value} {K : gx_S → Prop} (hst : (st.map Value.category).sum ≤ 8) (x : K (nx, lv, .ref a :: st, gc_h S P R E, bc, bs)) :
    gi_vpcall (gx_sel 12 110 2) 1 nx (pc, lv, .int (nI i) :: .ref lw :: st, gc_h S P R E, bc, bs) K Q (fun m9 E9 Q9 => gx_X gc_P (d + 3) m9 E9 Q9) := by
  obtain ⟨D, mc, m, f, n, h1, rfl, h3, h4, h4', h5, h6⟩ := h
  have ho := gc_ob_at (S := S) (P := P) (R := R) h1
  have hil : i < ws.length := (List.getElem?_eq_some_iff.mp hi).1
  have hD : (gc_h S P R E)[n + 17]? = some (.inl (5, m, .inr (.inr (.inr (.inr f))))) := gc_n h3
  refine gi_vpcall1 (d := d + 3) ho rfl hst (gh_ArrayList_get_0 ho ⟨0, 0, ⟨Nat.zero_le _, Nat.zero_le _⟩, gh_Objects_checkIndex2_0 ⟨0, 0, ⟨Nat.zero_le _, Nat.zero_le _⟩, gh_Preconditions_checkIndex3_0 ⟨fun h => absurd h (nI_pos (by omega)), fun _ => ⟨fun _ => gh_Objects_checkIndex2_6 (gh_ArrayList_get_8 ho ⟨0, 0, ⟨Nat.zero_le _, Nat.zero_le _⟩, gh_ArrayList_elementData_0 ho hD ?_⟩), fun h => absurd (nI_lt hil (by omega)) h⟩⟩⟩⟩)
  rw [nI_clamp (show i < 2 ^ 31 by omega), h5 i a hi]
  exact ⟨vp_in_nI (by omega) (by omega), (fun h => by cases h), fun p hp => by cases hp; exact gh_ArrayList_get_14 ho x⟩
/-- the answer to a call with one number on the cell at w -/
def gc_an (S : Nat → Nat → Int32) (P : Nat → Option Nat) (R : Nat → Int64) (E : gx_H) (sel : Nat → Option (Nat × Nat)) (d w : Nat) (a b : Int32) : Prop := ∃ c fs m nL, (gc_h S P R E)[w]? = some (.inr (c, fs)) ∧ c ∈ [5, 6, 7, 8, 9, 10, 11] ∧ sel c = some (m, nL) ∧ ∀ (Q : gx_R → Prop) (bc bs : Nat), Q (.inl (some (.int b)), gc_h S P R E) → gx_X gc_P d m (0, [some (.ref w), some (.int a)] ++ List.replicate (nL - 2) none, [], gc_h S P R E, bc, bs) Q
theorem gc_an_call {sel : Nat → Option (Nat × Nat)} {w : Nat} {a b : Int32} (h : gc_an S P R E sel d w a b) {nx pc : Nat} {lv : List (Option Value)} {st : List Value} {K : gx_S → Prop} (hst : (st.map Value.category).sum ≤ 8) (x : K (nx, lv, .int b :: st, gc_h S P R E, bc, bs)) :
    gi_vpcall sel 1 nx (pc, lv, .int a :: .ref w :: st, gc_h S P R E, bc, bs) K Q (fun m9 E9 Q9 => gx_X gc_P d m9 E9 Q9) := by
  obtain ⟨c, fs, m, nL, h1, h2, h3, h4⟩ := h
  exact gi_vpcall1 h1 h3 hst (h4 _ 0 0 x)
theorem gc_an_cls {sel : Nat → Option (Nat × Nat)} {w : Nat} {a b : Int32} (h : gc_an S P R E sel d w a b) : ∃ c fs, (gc_h S P R E)[w]? = some (.inr (c, fs)) ∧ c ∈ [5, 6, 7, 8, 9, 10, 11] := by
  obtain ⟨c, fs, m, nL, h1, h2, h3, h4⟩ := h
  exact ⟨c, fs, h1, h2⟩
/-- has -/
theorem gc_has {v : Nat → Bool} {r : Nat} (hr : r < 4) (hq : Q (.inl (some (.int (gp_b (v r)))), gc_h S P R E)) : gx_X gc_P (d + 1) 52 (0, [some (.int (gp_m v)), some (.int (nI r))], [], gc_h S P R E, bc, bs) Q := by
  have aux : ∀ a b c d : Bool, (nI (a.toNat + 2 * b.toNat + 4 * c.toNat + 8 * d.toNat) >>> (nI 0 &&& 31) &&& 1 = 0 ∨ nI (a.toNat + 2 * b.toNat + 4 * c.toNat + 8 * d.toNat) >>> (nI 0 &&& 31) &&& 1 = 1) ∧ (nI (a.toNat + 2 * b.toNat + 4 * c.toNat + 8 * d.toNat) >>> (nI 1 &&& 31) &&& 1 = 0 ∨ nI (a.toNat + 2 * b.toNat + 4 * c.toNat + 8 * d.toNat) >>> (nI 1 &&& 31) &&& 1 = 1) ∧ (nI (a.toNat + 2 * b.toNat + 4 * c.toNat + 8 * d.toNat) >>> (nI 2 &&& 31) &&& 1 = 0 ∨ nI (a.toNat + 2 * b.toNat + 4 * c.toNat + 8 * d.toNat) >>> (nI 2 &&& 31) &&& 1 = 1) ∧ (nI (a.toNat + 2 * b.toNat + 4 * c.toNat + 8 * d.toNat) >>> (nI 3 &&& 31) &&& 1 = 0 ∨ nI (a.toNat + 2 * b.toNat + 4 * c.toNat + 8 * d.toNat) >>> (nI 3 &&& 31) &&& 1 = 1) := by decide +kernel
  have hor : gp_m v >>> (nI r &&& 31) &&& 1 = 0 ∨ gp_m v >>> (nI r &&& 31) &&& 1 = 1 := by
    have h := aux (v 0) (v 1) (v 2) (v 3)
    have : r = 0 ∨ r = 1 ∨ r = 2 ∨ r = 3 := by omega
    rcases this with rfl | rfl | rfl | rfl
    · exact h.1
    · exact h.2.1
    · exact h.2.2.1
    · exact h.2.2.2
  have hb := gp_m_bit v hr
  refine gd_G_has_0 ⟨fun h => gd_G_has_13 ⟨rfl, ?_⟩, fun h => gd_G_has_13 ⟨rfl, ?_⟩⟩
  · have : v r = false := by
      cases hv : v r with
      | false => rfl
      | true => rw [hb.mpr hv] at h; exact absurd h (by decide)
    rw [this] at hq
    exact hq
  · have : v r = true := hb.mp (hor.resolve_left h)
    rw [this] at hq
    exact hq
/-- empty-able -/
theorem gc_emptyable {Em : Nat → Bool} (t : gt_T) :
    (∀ w d, gc_tr E t (.inl none) w → gt_ht t ≤ d → gc_an S P R E gc_sel_emptyable (d + 5) w (gp_m Em) (gp_b (gt_emp Em t))) ∧
    (∀ us lw ws i n d Q (bc bs : Nat), gc_tr E t (.inr ws) 0 → gt_isl 10 t = false → gt_ht t ≤ d → E[n]? = some (.inr (10, [.ref lw])) → gc_li E lw us → us.drop i = ws → Q (.inl (some (.int (gp_b (gt_emp Em t)))), gc_h S P R E) → gx_X gc_P (d + 6) 61 (2, [some (.ref (n + 17)), some (.int (gp_m Em)), some (.int (nI i))], [], gc_h S P R E, bc, bs) Q) ∧
    (∀ us lw ws i n d Q (bc bs : Nat), gc_tr E t (.inr ws) 0 → gt_isl 9 t = false → gt_ht t ≤ d → E[n]? = some (.inr (11, [.ref lw])) → gc_li E lw us → us.drop i = ws → Q (.inl (some (.int (gp_b (gt_emp Em t)))), gc_h S P R E) → gx_X gc_P (d + 6) 57 (2, [some (.ref (n + 17)), some (.int (gp_m Em)), some (.int (nI i))], [], gc_h S P R E, bc, bs) Q) := by
  have drop1 : ∀ {us : List Nat} {i w : Nat} {ws : List Nat}, us.drop i = w :: ws → us[i]? = some w ∧ us.drop (i + 1) = ws ∧ i < us.length := fun {us i w ws} h => by
    have hl : i < us.length := by
      rcases Nat.lt_or_ge i us.length with h' | h'
      · exact h'
      · rw [List.drop_eq_nil_of_le h'] at h; cases h
    have e : us.drop i = us[i] :: us.drop (i + 1) := List.drop_eq_getElem_cons hl
    rw [e] at h
    cases h
    exact ⟨List.getElem?_eq_getElem hl, rfl, hl⟩
  -- one turn of a sequence, of a choice
  have seq1 : ∀ (us : List Nat) (lw w i n d : Nat) (b : Bool) (Q : gx_R → Prop) (bc bs : Nat), gc_an S P R E gc_sel_emptyable (d + 5) w (gp_m Em) (gp_b b) → E[n]? = some (.inr (10, [.ref lw])) → gc_li E lw us → us[i]? = some w → (b = false → Q (.inl (some (.int 0)), gc_h S P R E)) → (b = true → gx_X gc_P (d + 6) 61 (2, [some (.ref (n + 17)), some (.int (gp_m Em)), some (.int (nI (i + 1)))], [], gc_h S P R E, bc, bs) Q) → gx_X gc_P (d + 6) 61 (2, [some (.ref (n + 17)), some (.int (gp_m Em)), some (.int (nI i))], [], gc_h S P R E, bc, bs) Q := fun us lw w i n d b Q bc bs ha hn hl hi h0 h1 => by
    have hil := (List.getElem?_eq_some_iff.mp hi).1
    have h20 : us.length ≤ 20 := by obtain ⟨_, _, _, _, _, _, _, _, _, _, _, h⟩ := hl; exact h
    refine gd_Sequence_emptyable_2 hn (gc_size (d := d + 4) hl (Nat.le_of_ble_eq_true rfl) (gd_Sequence_emptyable_12 hn ⟨fun h => absurd (nI_lt hil (by omega)) h, fun _ => gc_get (d := d + 2) hl hi (by decide) (gd_Sequence_emptyable_25 hn ⟨gc_an_cls ha, gc_an_call ha (by decide) (gd_Sequence_emptyable_32 hn ⟨fun h => ?_, fun h => h0 ((gp_b_0 _).mp h)⟩)⟩)⟩))
    rw [show nI i + Int32.ofInt 1 = nI (i + 1) from nI_1 i]
    refine h1 ?_
    cases hb : b with
    | true => rfl
    | false => rw [hb] at h; exact absurd rfl h
  have ch1 : ∀ (us : List Nat) (lw w i n d : Nat) (b : Bool) (Q : gx_R → Prop) (bc bs : Nat), gc_an S P R E gc_sel_emptyable (d + 5) w (gp_m Em) (gp_b b) → E[n]? = some (.inr (11, [.ref lw])) → gc_li E lw us → us[i]? = some w → (b = true → Q (.inl (some (.int 1)), gc_h S P R E)) → (b = false → gx_X gc_P (d + 6) 57 (2, [some (.ref (n + 17)), some (.int (gp_m Em)), some (.int (nI (i + 1)))], [], gc_h S P R E, bc, bs) Q) → gx_X gc_P (d + 6) 57 (2, [some (.ref (n + 17)), some (.int (gp_m Em)), some (.int (nI i))], [], gc_h S P R E, bc, bs) Q := fun us lw w i n d b Q bc bs ha hn hl hi h0 h1 => by
    have hil := (List.getElem?_eq_some_iff.mp hi).1
    have h20 : us.length ≤ 20 := by obtain ⟨_, _, _, _, _, _, _, _, _, _, _, h⟩ := hl; exact h
    refine gd_Choice_emptyable_2 hn (gc_size (d := d + 4) hl (Nat.le_of_ble_eq_true rfl) (gd_Choice_emptyable_12 hn ⟨fun h => absurd (nI_lt hil (by omega)) h, fun _ => gc_get (d := d + 2) hl hi (by decide) (gd_Choice_emptyable_25 hn ⟨gc_an_cls ha, gc_an_call ha (by decide) (gd_Choice_emptyable_32 hn ⟨fun h => ?_, fun h => h0 ?_⟩)⟩)⟩))
    · rw [show nI i + Int32.ofInt 1 = nI (i + 1) from nI_1 i]
      exact h1 ((gp_b_0 _).mp h)
    · cases hb : b with
      | true => rfl
      | false => rw [hb] at h; exact absurd rfl h
  have seq0 : ∀ (us : List Nat) (lw i n d : Nat) (Q : gx_R → Prop) (bc bs : Nat), E[n]? = some (.inr (10, [.ref lw])) → gc_li E lw us → us.length ≤ i → i < 2 ^ 31 → Q (.inl (some (.int 1)), gc_h S P R E) → gx_X gc_P (d + 6) 61 (2, [some (.ref (n + 17)), some (.int (gp_m Em)), some (.int (nI i))], [], gc_h S P R E, bc, bs) Q := fun us lw i n d Q bc bs hn hl hi hi31 hq =>
    gd_Sequence_emptyable_2 hn (gc_size (d := d + 4) hl (Nat.le_of_ble_eq_true rfl) (gd_Sequence_emptyable_12 hn ⟨fun _ => hq, fun h => absurd h (nI_nlt hi hi31)⟩))
  have ch0 : ∀ (us : List Nat) (lw i n d : Nat) (Q : gx_R → Prop) (bc bs : Nat), E[n]? = some (.inr (11, [.ref lw])) → gc_li E lw us → us.length ≤ i → i < 2 ^ 31 → Q (.inl (some (.int 0)), gc_h S P R E) → gx_X gc_P (d + 6) 57 (2, [some (.ref (n + 17)), some (.int (gp_m Em)), some (.int (nI i))], [], gc_h S P R E, bc, bs) Q := fun us lw i n d Q bc bs hn hl hi hi31 hq =>
    gd_Choice_emptyable_2 hn (gc_size (d := d + 4) hl (Nat.le_of_ble_eq_true rfl) (gd_Choice_emptyable_12 hn ⟨fun _ => hq, fun h => absurd h (nI_nlt hi hi31)⟩))
  have lst : ∀ {t : gt_T}, (∀ w d, gc_tr E t (.inl none) w → gt_ht t ≤ d → gc_an S P R E gc_sel_emptyable (d + 5) w (gp_m Em) (gp_b (gt_emp Em t))) → gt_isl 9 t = false → gt_isl 10 t = false →
      (∀ us lw ws i n d Q (bc bs : Nat), gc_tr E t (.inr ws) 0 → gt_isl 10 t = false → gt_ht t ≤ d → E[n]? = some (.inr (10, [.ref lw])) → gc_li E lw us → us.drop i = ws → Q (.inl (some (.int (gp_b (gt_emp Em t)))), gc_h S P R E) → gx_X gc_P (d + 6) 61 (2, [some (.ref (n + 17)), some (.int (gp_m Em)), some (.int (nI i))], [], gc_h S P R E, bc, bs) Q) ∧
      (∀ us lw ws i n d Q (bc bs : Nat), gc_tr E t (.inr ws) 0 → gt_isl 9 t = false → gt_ht t ≤ d → E[n]? = some (.inr (11, [.ref lw])) → gc_li E lw us → us.drop i = ws → Q (.inl (some (.int (gp_b (gt_emp Em t)))), gc_h S P R E) → gx_X gc_P (d + 6) 57 (2, [some (.ref (n + 17)), some (.int (gp_m Em)), some (.int (nI i))], [], gc_h S P R E, bc, bs) Q) := fun {t} hA h9 h10 => by
    refine ⟨fun us lw ws i n d Q bc bs ht _ hd hn hl hdr hq => ?_, fun us lw ws i n d Q bc bs ht _ hd hn hl hdr hq => ?_⟩
    · obtain ⟨w, rfl, htw⟩ := gc_tr_last h9 h10 ht
      obtain ⟨g1, g2, g3⟩ := drop1 hdr
      have h20 : us.length ≤ 20 := by obtain ⟨_, _, _, _, _, _, _, _, _, _, _, h⟩ := hl; exact h
      have hle : us.length ≤ i + 1 := by
        have := congrArg List.length g2
        simp at this
        omega
      refine seq1 us lw w i n d _ Q bc bs (hA w d htw hd) hn hl g1 (fun hb => by rw [hb] at hq; exact hq) (fun hb => seq0 us lw (i + 1) n d Q bc bs hn hl hle (by omega) (by rw [hb] at hq; exact hq))
    · obtain ⟨w, rfl, htw⟩ := gc_tr_last h9 h10 ht
      obtain ⟨g1, g2, g3⟩ := drop1 hdr
      have h20 : us.length ≤ 20 := by obtain ⟨_, _, _, _, _, _, _, _, _, _, _, h⟩ := hl; exact h
      have hle : us.length ≤ i + 1 := by
        have := congrArg List.length g2
        simp at this
        omega
      refine ch1 us lw w i n d _ Q bc bs (hA w d htw hd) hn hl g1 (fun hb => by rw [hb] at hq; exact hq) (fun hb => ch0 us lw (i + 1) n d Q bc bs hn hl hle (by omega) (by rw [hb] at hq; exact hq))
  induction t with
  | cat l hi =>
    refine ⟨?a1, lst ?a1 rfl rfl⟩
    intro w d ⟨⟨n, e, hn⟩, _⟩ _
    subst e
    exact ⟨5, _, 62, 2, gc_n hn, by decide, rfl, fun Q bc bs hq => gd_Single_emptyable_0 hn hq⟩
  | parser r =>
    refine ⟨?a2, lst ?a2 rfl rfl⟩
    intro w d ⟨⟨n, e, hn⟩, hr⟩ _
    subst e
    exact ⟨6, _, 59, 2, gc_n hn, by decide, rfl, fun Q bc bs hq => gd_Name_emptyable_0 hn ⟨0, 0, ⟨Nat.zero_le _, Nat.zero_le _⟩, gc_has hr (gd_Name_emptyable_8 hn ⟨gp_b_nar _, hq⟩)⟩⟩
  | const r =>
    refine ⟨?a3, lst ?a3 rfl rfl⟩
    intro w d ⟨n, e, hn⟩ _
    subst e
    exact ⟨7, _, 56, 2, gc_n hn, by decide, rfl, fun Q bc bs hq => gd_Capture_emptyablen_0 hn (gd_Capture_emptyablen_18 hn (gd_Capture_emptyablen_23 hn ⟨rfl, hq⟩))⟩
  | unary m a ih =>
    refine ⟨?a4, lst ?a4 rfl rfl⟩
    intro w d ⟨w', ⟨n, e, hn⟩, ha⟩ hd
    subst e
    have hd : gt_ht a + 1 ≤ d := hd
    obtain ⟨d, rfl⟩ : ∃ d', d = d' + 1 := ⟨d - 1, by omega⟩
    have hA := ih.1 w' d ha (by omega)
    refine ⟨7, _, 56, 2, gc_n hn, by decide, rfl, fun Q bc bs hq => gd_Capture_emptyabler_0 hn (gc_an_call hA (by decide) (gd_Capture_emptyabler_15 hn ⟨fun h => gd_Capture_emptyabler_23 hn ⟨rfl, ?_⟩, fun h => gd_Capture_emptyabler_18 hn (gd_Capture_emptyabler_23 hn ⟨rfl, ?_⟩)⟩))⟩
    · have hq : Q (.inl (some (.int (gp_b (gt_emp Em a)))), gc_h S P R E) := hq
      rw [(gp_b_0 _).mp h] at hq
      exact hq
    · have hq : Q (.inl (some (.int (gp_b (gt_emp Em a)))), gc_h S P R E) := hq
      cases he : gt_emp Em a with
      | true => rw [he] at hq; exact hq
      | false => rw [he] at h; exact absurd rfl h
  | node m k a ih =>
    refine ⟨?a5, lst ?a5 rfl rfl⟩
    intro w d ⟨w', hk3, ⟨n, e, hn⟩, ha⟩ hd
    subst e
    have hd : gt_ht a + 1 ≤ d := hd
    obtain ⟨d, rfl⟩ : ∃ d', d = d' + 1 := ⟨d - 1, by omega⟩
    have hA := ih.1 w' d ha (by omega)
    refine ⟨8, _, 60, 2, gc_n hn, by decide, rfl, fun Q bc bs hq => ?_⟩
    have hq : Q (.inl (some (.int (gp_b (!(k == 1) || gt_emp Em a)))), gc_h S P R E) := hq
    by_cases k1 : k = 1
    · subst k1
      rw [if_pos rfl] at hn
      have hq : Q (.inl (some (.int (gp_b (gt_emp Em a)))), gc_h S P R E) := hq
      refine gd_Repeat_emptyable_0 hn ⟨fun h => absurd h (by decide), fun _ => gc_an_call hA (by decide) (gd_Repeat_emptyable_15 hn ⟨fun h => gd_Repeat_emptyable_23 hn ⟨rfl, ?_⟩, fun h => gd_Repeat_emptyable_18 hn (gd_Repeat_emptyable_23 hn ⟨rfl, ?_⟩)⟩)⟩
      · rw [(gp_b_0 _).mp h] at hq
        exact hq
      · cases he : gt_emp Em a with
        | true => rw [he] at hq; exact hq
        | false => rw [he] at h; exact absurd rfl h
    · rw [if_neg k1] at hn
      have e1 : (!(k == 1) || gt_emp Em a) = true := by simp [k1]
      rw [e1] at hq
      exact gd_Repeat_emptyable_0 hn ⟨fun _ => gd_Repeat_emptyable_18 hn (gd_Repeat_emptyable_23 hn ⟨rfl, hq⟩), fun h => absurd rfl h⟩
  | trailingNode m b l a ih =>
    refine ⟨?a6, lst ?a6 rfl rfl⟩
    intro w d ht _
    obtain ⟨w', ⟨n, e, hn⟩, _⟩ := gc_tr_look a _ w ht
    subst e
    exact ⟨9, _, 58, 2, gc_n hn, by decide, rfl, fun Q bc bs hq => gd_Look_emptyable_0 hn hq⟩
  | nodeWithAntiquot s k a ih =>
    refine ⟨?a7, lst ?a7 rfl rfl⟩
    intro w d ht hd
    have hd : gt_ht a + 1 ≤ d := hd
    have ht : (if gt_isl 9 a || gt_isl 10 a then (gt_nm k = 9 ∧ gt_isl 9 a = true ∨ gt_nm k = 10 ∧ gt_isl 10 a = true) ∧ ∃ lw ws, gc_ob E w (gt_nm k + 1) [.ref lw] ∧ gc_li E lw ws ∧ gc_tr E a (.inr ws) 0 else gc_tr E a (.inl none) w) := ht
    split at ht
    · obtain ⟨hk, lw, ws, ⟨n, e, hn⟩, hl, hta⟩ := ht
      subst e
      obtain ⟨d, rfl⟩ : ∃ d', d = d' + 1 := ⟨d - 1, by omega⟩
      rcases hk with ⟨hk, h9⟩ | ⟨hk, h10⟩
      · rw [hk] at hn
        have h10 : gt_isl 10 a = false := by cases a <;> first | rfl | cases h9
        exact ⟨10, _, 61, 3, gc_n hn, by decide, rfl, fun Q bc bs hq => gd_Sequence_emptyable_0 hn (ih.2.1 ws lw ws 0 n d Q bc bs hta h10 (by omega) hn hl rfl hq)⟩
      · rw [hk] at hn
        have h9 : gt_isl 9 a = false := by cases a <;> first | rfl | cases h10
        exact ⟨11, _, 57, 3, gc_n hn, by decide, rfl, fun Q bc bs hq => gd_Choice_emptyable_0 hn (ih.2.2 ws lw ws 0 n d Q bc bs hta h9 (by omega) hn hl rfl hq)⟩
    · exact ih.1 w d ht (by omega)
  | sepBy x s y b ihx ihy =>
    refine ⟨fun w d ht => False.elim ht, fun us lw ws i n d Q bc bs ht _ hd hn hl hdr hq => ?_, (fun us lw ws i n d Q bc bs _ h => by cases h)⟩
    have hd : max (gt_ht x) (gt_ht y) ≤ d := hd
    cases ws with
    | nil => exact False.elim ht
    | cons w ws =>
      obtain ⟨h1, h2, h3⟩ := ht
      obtain ⟨g1, g2, g3⟩ := drop1 hdr
      have hq : Q (.inl (some (.int (gp_b (gt_emp Em x && gt_emp Em y)))), gc_h S P R E) := hq
      refine seq1 us lw w i n d _ Q bc bs (ihx.1 w d h1 (by omega)) hn hl g1 (fun hb => by rw [hb] at hq; exact hq) (fun hb => ihy.2.1 us lw ws (i + 1) n d Q bc bs h3 h2 (by omega) hn hl g2 (by rw [hb] at hq; exact hq))
  | sepBy1 x s y b ihx ihy =>
    refine ⟨fun w d ht => False.elim ht, (fun us lw ws i n d Q bc bs _ h => by cases h), fun us lw ws i n d Q bc bs ht _ hd hn hl hdr hq => ?_⟩
    have hd : max (gt_ht x) (gt_ht y) ≤ d := hd
    cases ws with
    | nil => exact False.elim ht
    | cons w ws =>
      obtain ⟨h1, h2, h3⟩ := ht
      obtain ⟨g1, g2, g3⟩ := drop1 hdr
      have hq : Q (.inl (some (.int (gp_b (gt_emp Em x || gt_emp Em y)))), gc_h S P R E) := hq
      refine ch1 us lw w i n d _ Q bc bs (ihx.1 w d h1 (by omega)) hn hl g1 (fun hb => by rw [hb] at hq; exact hq) (fun hb => ihy.2.2 us lw ws (i + 1) n d Q bc bs h3 h2 (by omega) hn hl g2 (by rw [hb] at hq; exact hq))
  | _ => exact ⟨fun w d ht => False.elim ht, fun us lw ws i n d Q bc bs ht => False.elim ht, fun us lw ws i n d Q bc bs ht => False.elim ht⟩
end GCB
