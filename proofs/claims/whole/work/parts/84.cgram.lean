/-! Class Grammar: what a rule needs, empty-able rules, arranging, faults. -/
/-- the rules of the class: their trees, their lines -/
def gc_gr (S : Nat → Nat → Int32) (P : Nat → Option Nat) (E : gx_H) (T : Nat → Option gt_T) (ch : Nat → Nat → Nat) : Prop :=
  (∀ r, r < 4 → T r = none → P r = none) ∧ (∀ r t, T r = some t → ∃ w, P r = some w ∧ gc_tr E t (.inl none) w ∧ gt_ht t ≤ 100) ∧ gt_wf T ∧
  (∀ r j, r < 4 → j < 20 → S 7 (20 * r + j) = nI (ch r j) ∧ ch r j ≤ 126) ∧ (∀ r k, r < 4 → k < 4 → (gt_U T r k = true ↔ ∃ j, 1 ≤ j ∧ j < 20 ∧ ch r j = 65 + k))
theorem gc_ix {r j : Nat} : nI r * 20 + nI j = nI (20 * r + j) := by
  rw [show nI r * 20 = nI (r * 20) from (Int32.ofNat_mul r 20).symm, show nI (r * 20) + nI j = nI (r * 20 + j) from (Int32.ofNat_add (r * 20) j).symm, Nat.mul_comm]
section GCG
variable {d bc bs : Nat} {S : Nat → Nat → Int32} {P : Nat → Option Nat} {R : Nat → Int64} {E : gx_H} {Q : gx_R → Prop} {T : Nat → Option gt_T} {ch : Nat → Nat → Nat}
theorem gc_namesL (hg : gc_gr S P E T ch) {r : Nat} (hr : r < 4) : ∀ (n j : Nat) (v : Nat → Bool) (o4 : Option Value), j + n = 20 → 1 ≤ j → (∀ k, k < 4 → (v k = true ↔ ∃ i, 1 ≤ i ∧ i < j ∧ ch r i = 65 + k)) → Q (.inl (some (.int (gp_m (gt_U T r)))), gc_h S P R E) →
    gx_X gc_P (d + 1) 53 (4, [some (.ref 5), some (.int (nI r)), some (.int (gp_m v)), some (.int (nI j)), o4], [], gc_h S P R E, bc, bs) Q := by
  intro n
  induction n with
  | zero =>
    intro j v o4 hj h1 hv hq
    have e : j = 20 := by omega
    subst e
    refine gd_G_namesIn_4 ⟨fun _ => ?_, fun h => absurd h (nI_nlt (a := 20) (b := 20) (Nat.le_refl _) (by decide))⟩
    have : gp_m v = gp_m (gt_U T r) := gp_m_congr (fun k hk => by
      rw [Bool.eq_iff_iff, hv k hk, hg.2.2.2.2 r k hr hk])
    rw [this]
    exact hq
  | succ n ih =>
    intro j v o4 hj h1 hv hq
    obtain ⟨hc, hc'⟩ := hg.2.2.2.1 r j hr (by omega)
    have hcl : (nI (20 * r + j)).toNatClampNeg = 20 * r + j := nI_clamp (by omega)
    have next : ∀ (v' : Nat → Bool) (o4 : Option Value), (∀ k, k < 4 → (v' k = true ↔ v k = true ∨ ch r j = 65 + k)) → gx_X gc_P (d + 1) 53 (47, [some (.ref 5), some (.int (nI r)), some (.int (gp_m v')), some (.int (nI j)), o4], [], gc_h S P R E, bc, bs) Q := fun v' o4 hv' => by
      refine gd_G_namesIn_47 ?_
      rw [show nI j + Int32.ofInt 1 = nI (j + 1) from nI_1 j]
      refine ih (j + 1) v' o4 (by omega) (by omega) (fun k hk => ?_) hq
      rw [hv' k hk, hv k hk]
      constructor
      · rintro (⟨i, i1, i2, i3⟩ | h)
        · exact ⟨i, i1, by omega, i3⟩
        · exact ⟨j, h1, by omega, h⟩
      · rintro ⟨i, i1, i2, i3⟩
        rcases Nat.lt_or_ge i j with h | h
        · exact .inl ⟨i, i1, h, i3⟩
        · have : i = j := by omega
          subst this
          exact .inr i3
    refine gd_G_namesIn_4 ⟨fun h => absurd (nI_lt (b := 20) (by omega) (by decide)) h, fun _ => ?_⟩
    rw [gc_ix, hcl, hc]
    refine ⟨vp_in_nI (by omega) (by decide), fun h => next v _ (fun k hk => ?_), fun h => ⟨fun h' => next v _ (fun k hk => ?_), fun h' => ?_⟩⟩
    · have : ch r j < 65 := (nI_ltI (b := 65) (by omega) (by decide)).mp h
      constructor
      · exact .inl
      · rintro (h | h)
        · exact h
        · omega
    · have : ¬ ch r j < 69 := fun h => h' (nI_lt (b := 69) h (by decide))
      constructor
      · exact .inl
      · rintro (h | h)
        · exact h
        · omega
    · have h5 : ¬ ch r j < 65 := fun h' => h (nI_lt (b := 65) h' (by decide))
      have h9 : ch r j < 69 := (nI_ltI (b := 69) (by omega) (by decide)).mp h'
      have e : nI (ch r j) - 65 = nI (ch r j - 65) := by
        have : nI (ch r j) = nI (ch r j - 65) + 65 := by
          rw [show nI (ch r j - 65) + 65 = nI (ch r j - 65 + 65) from (Int32.ofNat_add (ch r j - 65) 65).symm, Nat.sub_add_cancel (by omega)]
        rw [this, Int32.add_sub_cancel]
      rw [e, gp_m_one (by omega), gp_m_or]
      refine next _ _ (fun k hk => ?_)
      rw [Bool.or_eq_true, beq_iff_eq]
      constructor
      · rintro (h | h)
        · exact .inl h
        · exact .inr (by omega)
      · rintro (h | h)
        · exact .inl h
        · exact .inr (by omega)
theorem gc_namesIn (hg : gc_gr S P E T ch) {r : Nat} (hr : r < 4) {o2 o3 o4 : Option Value} (hq : Q (.inl (some (.int (gp_m (gt_U T r)))), gc_h S P R E)) :
    gx_X gc_P (d + 1) 53 (0, [some (.ref 5), some (.int (nI r)), o2, o3, o4], [], gc_h S P R E, bc, bs) Q := by
  refine gd_G_namesIn_0 ?_
  have := gc_namesL (d := d) (bc := bc) (bs := bs) (R := R) hg hr 19 1 (fun _ => false) o4 rfl (Nat.le_refl _) (fun k _ => ⟨fun h => (by cases h), fun ⟨i, i1, i2, _⟩ => by omega⟩) hq
  rw [gp_m_zero] at this
  exact this
/-- one round of neededBy, from rule k on -/
theorem gc_needed1 (hg : gc_gr S P E T ch) {o1 : Option Value} {a3 : Int32} {k : Nat} (hk : k < 4) {v : Nat → Bool}
    (x : gx_X gc_P (d + 2) 51 (14, [some (.ref 5), o1, some (.int (gp_m (gt_s1 (gt_U T) k v))), some (.int a3), some (.int (nI (k + 1)))], [], gc_h S P R E, bc, bs) Q) :
    gx_X gc_P (d + 2) 51 (14, [some (.ref 5), o1, some (.int (gp_m v)), some (.int a3), some (.int (nI k))], [], gc_h S P R E, bc, bs) Q := by
  have e1 : nI k + Int32.ofInt 1 = nI (k + 1) := nI_1 k
  refine gd_G_neededBy_14 ⟨fun h => absurd (nI_lt (b := 4) hk (by decide)) h, fun _ => ⟨0, 0, ⟨Nat.zero_le _, Nat.zero_le _⟩, gc_has (d := d) hk ?_⟩⟩
  show gx_X gc_P (d + 1 + 1) 51 (26, [some (.ref 5), o1, some (.int (gp_m v)), some (.int a3), some (.int (nI k))], [.int (gp_b (v k))], gc_h S P R E, bc, bs) Q
  refine gd_G_neededBy_26 ⟨fun h => gd_G_neededBy_38 ?_, fun h => ⟨0, 0, ⟨Nat.zero_le _, Nat.zero_le _⟩, gc_namesIn hg hk ?_⟩⟩
  · have hv := (gp_b_0 _).mp h
    rw [e1]
    have : gt_s1 (gt_U T) k v = v := by funext j; simp [gt_s1, hv]
    rw [this] at x
    exact x
  · have hv := gp_b_1 h
    refine gd_G_neededBy_36 ?_
    rw [gp_m_or]
    refine gd_G_neededBy_38 ?_
    rw [e1]
    have : gt_s1 (gt_U T) k v = fun j => v j || gt_U T k j := by funext j; simp [gt_s1, hv]
    rw [this] at x
    exact x
theorem gc_needed4 (hg : gc_gr S P E T ch) {o1 o4 : Option Value} {i : Nat} (hi : i < 4) {v : Nat → Bool}
    (x : ∀ o4 : Option Value, gx_X gc_P (d + 2) 51 (6, [some (.ref 5), o1, some (.int (gp_m (gt_s4 (gt_U T) v))), some (.int (nI (i + 1))), o4], [], gc_h S P R E, bc, bs) Q) :
    gx_X gc_P (d + 2) 51 (6, [some (.ref 5), o1, some (.int (gp_m v)), some (.int (nI i)), o4], [], gc_h S P R E, bc, bs) Q := by
  refine gd_G_neededBy_6 ⟨fun h => absurd (nI_lt (b := 4) hi (by decide)) h, fun _ => gc_needed1 (k := 0) hg (by omega) (gc_needed1 (k := 1) hg (by omega) (gc_needed1 (k := 2) hg (by omega) (gc_needed1 (k := 3) hg (by omega) (gd_G_neededBy_14 ⟨fun _ => ?_, fun h => absurd h (by decide)⟩))))⟩
  rw [show nI i + Int32.ofInt 1 = nI (i + 1) from nI_1 i]
  exact x _
theorem gc_neededBy (hg : gc_gr S P E T ch) {r : Nat} (hr : r < 4) {o2 o3 o4 : Option Value} (hq : Q (.inl (some (.int (gp_m (gt_N T r)))), gc_h S P R E)) :
    gx_X gc_P (d + 2) 51 (0, [some (.ref 5), some (.int (nI r)), o2, o3, o4], [], gc_h S P R E, bc, bs) Q := by
  refine gd_G_neededBy_0 ?_
  rw [gp_m_one hr]
  refine gc_needed4 (i := 0) hg (by omega) (fun _ => gc_needed4 (i := 1) hg (by omega) (fun _ => gc_needed4 (i := 2) hg (by omega) (fun _ => gc_needed4 (i := 3) hg (by omega) (fun _ => gd_G_neededBy_6 ⟨fun _ => hq, fun h => absurd h (by decide)⟩))))
/-- allDefined -/
theorem gc_defd1 (hg : gc_gr S P E T ch) {k : Nat} (hk : k < 4) {v : Nat → Bool} (h0 : v k = true → T k = none → Q (.inl (some (.int 0)), gc_h S P R E))
    (x : (v k && (T k).isNone) = false → gx_X gc_P (d + 2) 54 (2, [some (.ref 5), some (.int (gp_m v)), some (.int (nI (k + 1)))], [], gc_h S P R E, bc, bs) Q) :
    gx_X gc_P (d + 2) 54 (2, [some (.ref 5), some (.int (gp_m v)), some (.int (nI k))], [], gc_h S P R E, bc, bs) Q := by
  have e1 : nI k + Int32.ofInt 1 = nI (k + 1) := nI_1 k
  have hcl : (nI k).toNatClampNeg = k := nI_clamp (by omega)
  refine gd_G_allDefined_2 ⟨fun h => absurd (nI_lt (b := 4) hk (by decide)) h, fun _ => ⟨0, 0, ⟨Nat.zero_le _, Nat.zero_le _⟩, gc_has (d := d) hk ?_⟩⟩
  show gx_X gc_P (d + 1 + 1) 54 (12, [some (.ref 5), some (.int (gp_m v)), some (.int (nI k))], [.int (gp_b (v k))], gc_h S P R E, bc, bs) Q
  refine gd_G_allDefined_12 ⟨fun h => gd_G_allDefined_26 ?_, fun h => ?_⟩
  · rw [e1]
    exact x (by rw [(gp_b_0 _).mp h]; rfl)
  · rw [hcl]
    refine ⟨vp_in_nI hk (by decide), fun hp => ?_, fun p hp => gd_G_allDefined_26 ?_⟩
    · cases ht : T k with
      | none => exact h0 (gp_b_1 h) ht
      | some t =>
        obtain ⟨w, hw, _⟩ := hg.2.1 k t ht
        rw [hw] at hp
        cases hp
    · rw [e1]
      refine x ?_
      cases ht : T k with
      | none => rw [hg.1 k hk ht] at hp; cases hp
      | some t => simp
theorem gc_allDefined (hg : gc_gr S P E T ch) {v : Nat → Bool} {o2 : Option Value} (hq : Q (.inl (some (.int (gp_b (!(gt_any (fun k => v k && (T k).isNone)))))), gc_h S P R E)) :
    gx_X gc_P (d + 2) 54 (0, [some (.ref 5), some (.int (gp_m v)), o2], [], gc_h S P R E, bc, bs) Q := by
  have bad : ∀ k, k < 4 → v k = true → T k = none → Q (.inl (some (.int 0)), gc_h S P R E) := fun k hk hv ht => by
    have : gt_any (fun k => v k && (T k).isNone) = true := gt_any_iff.mpr ⟨k, hk, by simp [hv, ht]⟩
    rw [this] at hq
    exact hq
  refine gd_G_allDefined_0 (gc_defd1 (k := 0) hg (by omega) (bad 0 (by omega)) (fun h0 => gc_defd1 (k := 1) hg (by omega) (bad 1 (by omega)) (fun h1 => gc_defd1 (k := 2) hg (by omega) (bad 2 (by omega)) (fun h2 => gc_defd1 (k := 3) hg (by omega) (bad 3 (by omega)) (fun h3 => gd_G_allDefined_2 ⟨fun _ => ?_, fun h => absurd h (by decide)⟩)))))
  have : gt_any (fun k => v k && (T k).isNone) = false := by simp only [gt_any, h0, h1, h2, h3, Bool.or_self]
  rw [this] at hq
  exact hq
/-- emptyableRules -/
theorem gc_empt1 (hg : gc_gr S P E T ch) {k : Nat} (hk : k < 4) {v : Nat → Bool} {a2 : Int32} {o4 : Option Value}
    (x : ∀ o4 : Option Value, gx_X gc_P (d + 106) 55 (11, [some (.ref 5), some (.int (gp_m (gt_e1 T k v))), some (.int a2), some (.int (nI (k + 1))), o4], [], gc_h S P R E, bc, bs) Q) :
    gx_X gc_P (d + 106) 55 (11, [some (.ref 5), some (.int (gp_m v)), some (.int a2), some (.int (nI k)), o4], [], gc_h S P R E, bc, bs) Q := by
  have e1 : nI k + Int32.ofInt 1 = nI (k + 1) := nI_1 k
  have hcl : (nI k).toNatClampNeg = k := nI_clamp (by omega)
  refine gd_G_emptyableRules_11 ⟨fun h => absurd (nI_lt (b := 4) hk (by decide)) h, fun _ => ?_⟩
  rw [hcl]
  refine ⟨vp_in_nI hk (by decide), fun hp => gd_G_emptyableRules_44 ?_, fun p hp => ?_⟩
  · rw [e1]
    have : gt_e1 T k v = v := by
      cases ht : T k with
      | none => funext j; simp [gt_e1, ht]
      | some t =>
        obtain ⟨w, hw, _⟩ := hg.2.1 k t ht
        rw [hw] at hp
        cases hp
    have x := x (some .null)
    rw [this] at x
    exact x
  · cases ht : T k with
    | none => rw [hg.1 k hk ht] at hp; cases hp
    | some t =>
      obtain ⟨w, hw, htr, hht⟩ := hg.2.1 k t ht
      rw [hw] at hp
      cases hp
      have ha := (gc_emptyable (S := S) (P := P) (R := R) (Em := v) t).1 p (d + 100) htr (by omega)
      refine gc_an_call ha (by decide) (gd_G_emptyableRules_35 ⟨fun h => gd_G_emptyableRules_44 ?_, fun h => ?_⟩)
      · rw [e1]
        have : gt_e1 T k v = v := by funext j; simp [gt_e1, ht, (gp_b_0 _).mp h]
        have x := x (some (.ref p))
        rw [this] at x
        exact x
      · rw [gp_m_one hk, gp_m_or]
        refine gd_G_emptyableRules_44 ?_
        rw [e1]
        have : gt_e1 T k v = fun j => v j || (j == k) := by funext j; simp [gt_e1, ht, gp_b_1 h]
        have x := x (some (.ref p))
        rw [this] at x
        exact x
theorem gc_empt4 (hg : gc_gr S P E T ch) {i : Nat} (hi : i < 4) {v : Nat → Bool} {o3 o4 : Option Value}
    (x : ∀ o3 o4 : Option Value, gx_X gc_P (d + 106) 55 (4, [some (.ref 5), some (.int (gp_m (gt_e4 T v))), some (.int (nI (i + 1))), o3, o4], [], gc_h S P R E, bc, bs) Q) :
    gx_X gc_P (d + 106) 55 (4, [some (.ref 5), some (.int (gp_m v)), some (.int (nI i)), o3, o4], [], gc_h S P R E, bc, bs) Q := by
  refine gd_G_emptyableRules_4 ⟨fun h => absurd (nI_lt (b := 4) hi (by decide)) h, fun _ => gc_empt1 (k := 0) hg (by omega) (fun _ => gc_empt1 (k := 1) hg (by omega) (fun _ => gc_empt1 (k := 2) hg (by omega) (fun _ => gc_empt1 (k := 3) hg (by omega) (fun _ => gd_G_emptyableRules_11 ⟨fun _ => ?_, fun h => absurd h (by decide)⟩))))⟩
  rw [show nI i + Int32.ofInt 1 = nI (i + 1) from nI_1 i]
  exact x _ _
theorem gc_empties (hg : gc_gr S P E T ch) {o1 o2 o3 o4 : Option Value} (hq : Q (.inl (some (.int (gp_m (gt_Em T)))), gc_h S P R E)) :
    gx_X gc_P (d + 106) 55 (0, [some (.ref 5), o1, o2, o3, o4], [], gc_h S P R E, bc, bs) Q := by
  refine gd_G_emptyableRules_0 ?_
  have := gc_empt4 (d := d) (bc := bc) (bs := bs) (Q := Q) (R := R) (i := 0) (v := fun _ => false) (o3 := o3) (o4 := o4) hg (by omega) (fun _ _ => gc_empt4 (i := 1) hg (by omega) (fun _ _ => gc_empt4 (i := 2) hg (by omega) (fun _ _ => gc_empt4 (i := 3) hg (by omega) (fun _ _ => gd_G_emptyableRules_4 ⟨fun _ => hq, fun h => absurd h (by decide)⟩))))
  rw [gp_m_zero] at this
  exact this
end GCG
