/-! Reading a line: ch is its characters, 0 from its end on. -/
def gq_pl (c : Nat) : Bool := (97 ≤ c && c ≤ 122) || (48 ≤ c && c ≤ 57)
def gq_nm (c : Nat) : Bool := 65 ≤ c && c < 69
def gq_fin (c : Nat) : Bool := c == 0 || (c == 47 || (c == 41 || c == 125))
def gq_look (c : Nat) : Bool := c == 38 || c == 33
/-- an atom; f: how a choice in brackets is read, if brackets may be opened here -/
def gq_atom (ch : Nat → Nat) (f : Option (Nat → Option (gt_T × Nat))) (i : Nat) : Option (gt_T × Nat) :=
  if ch i = 40 then
    match f with
    | none => none
    | some g => match g (i + 1) with
      | none => none
      | some (t, q) => if ch q = 41 then some (t, q + 1) else none
  else if ch i = 123 then
    match f with
    | none => none
    | some g => if ch (i + 1) = 125 then some (gt_pt, i + 2) else match g (i + 1) with
      | none => none
      | some (t, q) => if ch q = 125 then some (gt_cap t, q + 1) else none
  else if ch i = 91 then
    if gq_pl (ch (i + 1)) && (ch (i + 2) == 45 && (gq_pl (ch (i + 3)) && ch (i + 4) == 93)) then some (gt_one (ch (i + 1)) (ch (i + 3)), i + 5) else none
  else if gq_pl (ch i) then some (gt_one (ch i) (ch i), i + 1)
  else if ch i = 46 then some (gt_one 0 255, i + 1)
  else if gq_nm (ch i) then some (gt_name (ch i - 65), i + 1)
  else none
/-- behind & and ! -/
def gq_pre (ch : Nat → Nat) : Nat → Nat → Nat
  | 0, i => i
  | n + 1, i => if gq_look (ch i) then gq_pre ch n (i + 1) else i
/-- n of & and ! from i on, in front of t -/
def gq_lk (ch : Nat → Nat) : Nat → Nat → gt_T → gt_T
  | 0, _, t => t
  | n + 1, i, t => gt_look (if ch i = 38 then 1 else 0) (gq_lk ch n (i + 1) t)
/-- * + ? behind t -/
def gq_suf (ch : Nat → Nat) (t : gt_T) (q : Nat) : gt_T × Nat :=
  if ch q = 42 then (gt_rep 0 t, q + 1) else if ch q = 43 then (gt_rep 1 t, q + 1) else if ch q = 63 then (gt_rep 2 t, q + 1) else (t, q)
def gq_item (ch : Nat → Nat) (f : Option (Nat → Option (gt_T × Nat))) (i : Nat) : Option (gt_T × Nat) :=
  match gq_atom ch f (gq_pre ch 20 i) with
  | none => none
  | some (t, q) => some (gq_lk ch (gq_pre ch 20 i - i) i (gq_suf ch t q).1, (gq_suf ch t q).2)
def gq_seq (ch : Nat → Nat) (it : Nat → Option (gt_T × Nat)) : Nat → Nat → Option (gt_T × Nat)
  | 0, _ => none
  | n + 1, i => match it i with
    | none => none
    | some (t, q) => if gq_fin (ch q) then some (t, q) else match gq_seq ch it n q with
      | none => none
      | some (t', q') => some (gt_seq t t', q')
def gq_chs (ch : Nat → Nat) (sq : Nat → Option (gt_T × Nat)) : Nat → Nat → Option (gt_T × Nat)
  | 0, _ => none
  | n + 1, i => match sq i with
    | none => none
    | some (t, q) => if ch q = 47 then match gq_chs ch sq n (q + 1) with
        | none => none
        | some (t', q') => some (gt_ch (gt_w 9 t) t', q')
      else some (gt_w 9 t, q)
def gq_one (ch : Nat → Nat) (f : Option (Nat → Option (gt_T × Nat))) (i : Nat) : Option (gt_T × Nat) :=
  match gq_chs ch (gq_seq ch (gq_item ch f) 21) 21 i with
  | none => none
  | some (t, q) => some (gt_w 10 t, q)
/-- a choice in which brackets may be opened to the depth k -/
def gq (ch : Nat → Nat) : Nat → Nat → Option (gt_T × Nat)
  | 0 => gq_one ch none
  | k + 1 => gq_one ch (some (gq ch k))
/-- a line of n characters: the rule that it defines, and its pattern -/
def gq_line (ch : Nat → Nat) (n : Nat) : Option (Nat × gt_T) :=
  if gq_nm (ch 0) && ch 1 == 61 then match gq ch 6 2 with
    | none => none
    | some (t, q) => if q < n then none else some (ch 0 - 65, t)
  else none
section GQ
variable {ch : Nat → Nat} {n : Nat}
/-- the names that stand from i to q -/
def gq_has (ch : Nat → Nat) (i q r : Nat) : Prop := r < 4 ∧ ∃ k, i ≤ k ∧ k < q ∧ ch k = 65 + r
theorem gq_has_app {i j q r : Nat} (h1 : i ≤ j) (h2 : j ≤ q) : gq_has ch i q r ↔ gq_has ch i j r ∨ gq_has ch j q r := by
  constructor
  · rintro ⟨hr, k, a, b, c⟩
    by_cases hk : k < j
    · exact .inl ⟨hr, k, a, hk, c⟩
    · exact .inr ⟨hr, k, by omega, b, c⟩
  · rintro (⟨hr, k, a, b, c⟩ | ⟨hr, k, a, b, c⟩)
    · exact ⟨hr, k, a, by omega, c⟩
    · exact ⟨hr, k, by omega, b, c⟩
theorem gq_has_not {i q r : Nat} (h : ∀ k, i ≤ k → k < q → gq_nm (ch k) = false) : ¬ gq_has ch i q r := by
  rintro ⟨hr, k, a, b, c⟩
  have h1 := h k a b
  rw [c] at h1
  simp [gq_nm] at h1
  omega
/-- what reading a piece from i to q gives -/
def gq_ok (ch : Nat → Nat) (n i : Nat) (t : gt_T) (q : Nat) : Prop := i < q ∧ q ≤ n ∧ ∀ r, gt_nms t r = true ↔ gq_has ch i q r
theorem gq_atom_ok (hz : ∀ k, n ≤ k → ch k = 0) {f : Option (Nat → Option (gt_T × Nat))} (hf : ∀ g, f = some g → ∀ i t q, g i = some (t, q) → gq_ok ch n i t q) {i : Nat} {t : gt_T} {q : Nat} (h : gq_atom ch f i = some (t, q)) : gq_ok ch n i t q := by
  have hlt : ∀ k, ch k ≠ 0 → k < n := fun k hk => Nat.lt_of_not_le fun hn => hk (hz k hn)
  have hs : ∀ {k : Nat}, gq_nm (ch k) = false → ∀ j, k ≤ j → j < k + 1 → gq_nm (ch j) = false := fun hk j a b => by
    have e : j = _ := Nat.le_antisymm (Nat.le_of_lt_succ b) a
    rw [e]; exact hk
  have hfa : ∀ {r : Nat} {P : Prop}, ¬ P → ((false = true) ↔ P) := fun h => ⟨(fun h' => by cases h'), (fun h' => absurd h' h)⟩
  unfold gq_atom at h
  split at h
  · rename_i hc
    cases f with
    | none => cases h
    | some g =>
      simp only at h
      cases hg : g (i + 1) with
      | none => rw [hg] at h; cases h
      | some tq =>
        obtain ⟨t1, q1⟩ := tq
        rw [hg] at h
        simp only at h
        split at h
        · rename_i h41
          cases h
          obtain ⟨h1, h2, h3⟩ := hf g rfl _ _ _ hg
          have := hlt q1 (by rw [h41]; decide)
          refine ⟨by omega, by omega, fun r => ?_⟩
          rw [h3 r, gq_has_app (i := i) (j := i + 1) (q := q1 + 1) (by omega) (by omega), gq_has_app (i := i + 1) (j := q1) (q := q1 + 1) (by omega) (by omega)]
          exact ⟨fun h => .inr (.inl h), fun h => by
            rcases h with h | h | h
            · exact absurd h (gq_has_not (hs (by rw [hc]; decide)))
            · exact h
            · exact absurd h (gq_has_not (hs (by rw [h41]; decide)))⟩
        · cases h
  · split at h
    · rename_i hc
      cases f with
      | none => cases h
      | some g =>
        simp only at h
        split at h
        · rename_i hp
          cases h
          have := hlt (i + 1) (by rw [hp]; decide)
          refine ⟨by omega, by omega, fun r => hfa (r := r) (gq_has_not fun k a b => ?_)⟩
          by_cases e : k = i
          · subst e; rw [hc]; decide
          · have e : k = i + 1 := by omega
            subst e; rw [hp]; decide
        · cases hg : g (i + 1) with
          | none => rw [hg] at h; cases h
          | some tq =>
            obtain ⟨t1, q1⟩ := tq
            rw [hg] at h
            simp only at h
            split at h
            · rename_i h41
              cases h
              obtain ⟨h1, h2, h3⟩ := hf g rfl _ _ _ hg
              have := hlt q1 (by rw [h41]; decide)
              refine ⟨by omega, by omega, fun r => ?_⟩
              have e : gt_nms (gt_cap t1) r = gt_nms t1 r := rfl
              rw [e, h3 r, gq_has_app (i := i) (j := i + 1) (q := q1 + 1) (by omega) (by omega), gq_has_app (i := i + 1) (j := q1) (q := q1 + 1) (by omega) (by omega)]
              exact ⟨fun h => .inr (.inl h), fun h => by
                rcases h with h | h | h
                · exact absurd h (gq_has_not (hs (by rw [hc]; decide)))
                · exact h
                · exact absurd h (gq_has_not (hs (by rw [h41]; decide)))⟩
            · cases h
    · split at h
      · rename_i hc
        split at h
        · rename_i hb
          cases h
          simp only [Bool.and_eq_true, beq_iff_eq] at hb
          obtain ⟨b1, b2, b3, b4⟩ := hb
          have := hlt (i + 4) (by rw [b4]; decide)
          have pn : ∀ c, gq_pl c = true → gq_nm c = false := fun c hc => by
            simp [gq_pl, gq_nm] at hc ⊢
            omega
          refine ⟨by omega, by omega, fun r => hfa (r := r) (gq_has_not fun k a b => ?_)⟩
          have : k = i ∨ k = i + 1 ∨ k = i + 2 ∨ k = i + 3 ∨ k = i + 4 := by omega
          rcases this with rfl | rfl | rfl | rfl | rfl
          · rw [hc]; decide
          · exact pn _ b1
          · rw [b2]; decide
          · exact pn _ b3
          · rw [b4]; decide
        · cases h
      · split at h
        · rename_i hp
          cases h
          have := hlt i (by intro h0; rw [h0] at hp; revert hp; decide)
          refine ⟨by omega, by omega, fun r => hfa (r := r) (gq_has_not (hs ?_))⟩
          simp [gq_pl, gq_nm] at hp ⊢
          omega
        · split at h
          · rename_i hc
            cases h
            have := hlt i (by rw [hc]; decide)
            exact ⟨by omega, by omega, fun r => hfa (r := r) (gq_has_not (hs (by rw [hc]; decide)))⟩
          · split at h
            · rename_i hm
              cases h
              have := hlt i (by intro h0; rw [h0] at hm; revert hm; decide)
              refine ⟨by omega, by omega, fun r => ?_⟩
              simp [gq_nm] at hm
              have e : gt_nms (gt_name (ch i - 65)) r = (r == ch i - 65) := rfl
              rw [e]
              constructor
              · intro h
                have h : r = ch i - 65 := by simpa using h
                exact ⟨by omega, i, by omega, by omega, by omega⟩
              · rintro ⟨hr, k, a, b, c⟩
                have e : k = i := by omega
                subst e
                simp
                omega
            · cases h
theorem gq_pre_ok : ∀ (m i : Nat), i ≤ gq_pre ch m i ∧ ∀ k, i ≤ k → k < gq_pre ch m i → gq_look (ch k) = true
  | 0, i => ⟨Nat.le_refl _, fun k a b => absurd a (Nat.not_le.mpr b)⟩
  | m + 1, i => by
    unfold gq_pre
    split
    · rename_i h
      obtain ⟨h1, h2⟩ := gq_pre_ok m (i + 1)
      refine ⟨by omega, fun k a b => ?_⟩
      by_cases e : k = i
      · subst e; exact h
      · exact h2 k (by omega) b
    · exact ⟨Nat.le_refl _, fun k a b => absurd a (Nat.not_le.mpr b)⟩
theorem gq_lk_nms : ∀ (m i : Nat) (t : gt_T) (r : Nat), gt_nms (gq_lk ch m i t) r = gt_nms t r
  | 0, _, _, _ => rfl
  | m + 1, i, t, r => gq_lk_nms m (i + 1) t r
theorem gq_suf_ok (hz : ∀ k, n ≤ k → ch k = 0) {i q : Nat} {t : gt_T} (h : gq_ok ch n i t q) : gq_ok ch n i (gq_suf ch t q).1 (gq_suf ch t q).2 := by
  have hlt : ∀ k, ch k ≠ 0 → k < n := fun k hk => Nat.lt_of_not_le fun hn => hk (hz k hn)
  obtain ⟨h1, h2, h3⟩ := h
  have aux : ∀ k, gq_nm (ch q) = false → ch q ≠ 0 → gq_ok ch n i (gt_rep k t) (q + 1) := fun k hm h0 => by
    refine ⟨by omega, hlt q h0, fun r => ?_⟩
    have e : gt_nms (gt_rep k t) r = gt_nms t r := rfl
    rw [e, h3 r, gq_has_app (i := i) (j := q) (q := q + 1) (by omega) (by omega)]
    exact ⟨fun h => .inl h, fun h => by
      rcases h with h | h
      · exact h
      · refine absurd h (gq_has_not fun j a b => ?_)
        have e : j = q := by omega
        subst e; exact hm⟩
  unfold gq_suf
  split
  · rename_i hc; exact aux 0 (by rw [hc]; decide) (by rw [hc]; decide)
  · split
    · rename_i hc; exact aux 1 (by rw [hc]; decide) (by rw [hc]; decide)
    · split
      · rename_i hc; exact aux 2 (by rw [hc]; decide) (by rw [hc]; decide)
      · exact ⟨h1, h2, h3⟩
theorem gq_item_ok (hz : ∀ k, n ≤ k → ch k = 0) {f : Option (Nat → Option (gt_T × Nat))} (hf : ∀ g, f = some g → ∀ i t q, g i = some (t, q) → gq_ok ch n i t q) {i : Nat} {t : gt_T} {q : Nat} (h : gq_item ch f i = some (t, q)) : gq_ok ch n i t q := by
  unfold gq_item at h
  cases ha : gq_atom ch f (gq_pre ch 20 i) with
  | none => rw [ha] at h; cases h
  | some tq =>
    obtain ⟨t1, q1⟩ := tq
    rw [ha] at h
    cases h
    obtain ⟨p1, p2⟩ := gq_pre_ok (ch := ch) 20 i
    obtain ⟨h1, h2, h3⟩ := gq_suf_ok hz (gq_atom_ok hz hf ha)
    refine ⟨by omega, h2, fun r => ?_⟩
    rw [gq_lk_nms, h3 r, gq_has_app (i := i) (j := gq_pre ch 20 i) (by omega) (by omega)]
    exact ⟨fun h => .inr h, fun h => by
      rcases h with h | h
      · refine absurd h (gq_has_not fun j a b => ?_)
        have h5 := p2 j a b
        simp [gq_look, gq_nm] at h5 ⊢
        omega
      · exact h⟩
theorem gq_seq_ok {it : Nat → Option (gt_T × Nat)} (hi : ∀ i t q, it i = some (t, q) → gq_ok ch n i t q) : ∀ (m i : Nat) (t : gt_T) (q : Nat), gq_seq ch it m i = some (t, q) → gq_ok ch n i t q ∧ gq_fin (ch q) = true
  | 0, i, t, q, h => by cases h
  | m + 1, i, t, q, h => by
    unfold gq_seq at h
    cases h1 : it i with
    | none => rw [h1] at h; cases h
    | some tq =>
      obtain ⟨t1, q1⟩ := tq
      rw [h1] at h
      simp only at h
      split at h
      · rename_i hfin
        cases h
        exact ⟨hi _ _ _ h1, hfin⟩
      · cases h2 : gq_seq ch it m q1 with
        | none => rw [h2] at h; cases h
        | some tq =>
          obtain ⟨t2, q2⟩ := tq
          rw [h2] at h
          cases h
          obtain ⟨a1, a2, a3⟩ := hi _ _ _ h1
          obtain ⟨⟨b1, b2, b3⟩, b4⟩ := gq_seq_ok hi m q1 t2 _ h2
          refine ⟨⟨by omega, b2, fun r => ?_⟩, b4⟩
          have e : gt_nms (gt_seq t1 t2) r = (gt_nms t1 r || gt_nms t2 r) := rfl
          rw [e, Bool.or_eq_true_iff, a3 r, b3 r, ← gq_has_app (by omega) (by omega)]
theorem gq_chs_ok (hz : ∀ k, n ≤ k → ch k = 0) {sq : Nat → Option (gt_T × Nat)} (hs : ∀ i t q, sq i = some (t, q) → gq_ok ch n i t q ∧ gq_fin (ch q) = true) : ∀ (m i : Nat) (t : gt_T) (q : Nat), gq_chs ch sq m i = some (t, q) → gq_ok ch n i t q ∧ gq_fin (ch q) = true ∧ ch q ≠ 47
  | 0, i, t, q, h => by cases h
  | m + 1, i, t, q, h => by
    unfold gq_chs at h
    cases h1 : sq i with
    | none => rw [h1] at h; cases h
    | some tq =>
      obtain ⟨t1, q1⟩ := tq
      rw [h1] at h
      simp only at h
      obtain ⟨⟨a1, a2, a3⟩, a4⟩ := hs _ _ _ h1
      split at h
      · rename_i h47
        cases h2 : gq_chs ch sq m (q1 + 1) with
        | none => rw [h2] at h; cases h
        | some tq =>
          obtain ⟨t2, q2⟩ := tq
          rw [h2] at h
          cases h
          obtain ⟨⟨b1, b2, b3⟩, b4⟩ := gq_chs_ok hz hs m (q1 + 1) t2 _ h2
          refine ⟨⟨by omega, b2, fun r => ?_⟩, b4⟩
          have e : gt_nms (gt_ch (gt_w 9 t1) t2) r = (gt_nms t1 r || gt_nms t2 r) := rfl
          rw [e, Bool.or_eq_true_iff, a3 r, b3 r, gq_has_app (i := i) (j := q1) (q := q) (by omega) (by omega), gq_has_app (i := q1) (j := q1 + 1) (q := q) (by omega) (by omega)]
          exact ⟨fun h => by
            rcases h with h | h
            · exact .inl h
            · exact .inr (.inr h), fun h => by
            rcases h with h | h | h
            · exact .inl h
            · refine absurd h (gq_has_not fun j a b => ?_)
              have e : j = q1 := by omega
              subst e; rw [h47]; decide
            · exact .inr h⟩
      · rename_i h47
        cases h
        exact ⟨⟨a1, a2, a3⟩, a4, h47⟩
theorem gq_one_ok (hz : ∀ k, n ≤ k → ch k = 0) {f : Option (Nat → Option (gt_T × Nat))} (hf : ∀ g, f = some g → ∀ i t q, g i = some (t, q) → gq_ok ch n i t q) {i : Nat} {t : gt_T} {q : Nat} (h : gq_one ch f i = some (t, q)) : gq_ok ch n i t q ∧ gq_fin (ch q) = true ∧ ch q ≠ 47 := by
  unfold gq_one at h
  cases h1 : gq_chs ch (gq_seq ch (gq_item ch f) 21) 21 i with
  | none => rw [h1] at h; cases h
  | some tq =>
    obtain ⟨t1, q1⟩ := tq
    rw [h1] at h
    cases h
    exact gq_chs_ok hz (fun i t q h => gq_seq_ok (fun i t q h => gq_item_ok hz hf h) 21 i t q h) 21 i t1 _ h1
theorem gq_all_ok (hz : ∀ k, n ≤ k → ch k = 0) : ∀ (k i : Nat) (t : gt_T) (q : Nat), gq ch k i = some (t, q) → gq_ok ch n i t q ∧ gq_fin (ch q) = true ∧ ch q ≠ 47
  | 0, i, t, q, h => gq_one_ok hz (f := none) (fun g h => by cases h) h
  | k + 1, i, t, q, h => gq_one_ok hz (f := some (gq ch k)) (fun g hg i t q h => by
    cases hg
    exact (gq_all_ok hz k i t q h).1) h
/-- the pattern of a line has the names that stand in the line, behind its first character -/
theorem gq_line_ok (hz : ∀ k, n ≤ k → ch k = 0) {r : Nat} {t : gt_T} (h : gq_line ch n = some (r, t)) : r < 4 ∧ ch 0 = 65 + r ∧ 3 ≤ n ∧ ∀ k, gt_nms t k = true ↔ gq_has ch 1 n k := by
  unfold gq_line at h
  split at h
  · rename_i h0
    simp only [Bool.and_eq_true, beq_iff_eq] at h0
    obtain ⟨hm, h1⟩ := h0
    cases h2 : gq ch 6 2 with
    | none => rw [h2] at h; cases h
    | some tq =>
      obtain ⟨t1, q1⟩ := tq
      rw [h2] at h
      simp only at h
      split at h
      · cases h
      · rename_i hq
        cases h
        obtain ⟨⟨a1, a2, a3⟩, _, _⟩ := gq_all_ok hz 6 2 _ _ h2
        simp [gq_nm] at hm
        have e : q1 = n := by omega
        subst e
        refine ⟨by omega, by omega, by omega, fun k => ?_⟩
        rw [a3 k, gq_has_app (i := 1) (j := 2) (by omega) (by omega)]
        exact ⟨fun h => .inr h, fun h => by
          rcases h with h | h
          · refine absurd h (gq_has_not fun j a b => ?_)
            have e : j = 1 := by omega
            subst e; rw [h1]; decide
          · exact h⟩
  · cases h
end GQ
