/-! Class Reader: characters, atoms, items. -/
/-- the line that the reader has -/
def gc_lb (S : Nat → Nat → Int32) (nn : Nat) (ch : Nat → Nat) : Prop := S 3 1 = nI nn ∧ nn ≤ 20 ∧ (∀ j, j < nn → S 4 j = nI (ch j) ∧ 32 ≤ ch j ∧ ch j ≤ 126) ∧ ∀ j, nn ≤ j → ch j = 0
/-- the room that a piece read from i on takes: C for each character, less a saving; where it fails, all that may be -/
def gc_bd (C sav i : Nat) : Option (gt_T × Nat) → Nat
  | none => C * (21 - i) + 10
  | some (_, q) => C * (q - i) - sav
/-- what reading comes to -/
def gc_rsl (S : Nat → Nat → Int32) (P : Nat → Option Nat) (R : Nat → Int64) (E : gx_H) (res : Option (gt_T × Nat)) (Q : gx_R → Prop) : Prop := match res with
  | none => ∀ j E', gc_fr E E' → Q (.inr "java/lang/IllegalArgumentException", gc_h (gm_u S 3 2 (nI j)) P R E')
  | some (t, q) => ∀ E' w, gc_fr E E' → gc_tr (gc_mk E.length E') t (.inl none) w → Q (.inl (some (.ref w)), gc_h (gm_u S 3 2 (nI q)) P R E')
section GCS
variable {d bc bs : Nat} {S : Nat → Nat → Int32} {P : Nat → Option Nat} {R : Nat → Int64} {E : gx_H} {Q : gx_R → Prop} {nn i : Nat} {ch : Nat → Nat}
theorem gc_32 (i j : Nat) : gm_u (gm_u S 3 2 (nI i)) 3 2 (nI j) = gm_u S 3 2 (nI j) := by
  funext k l
  rw [gm_u_at, gm_u_at, gm_u_at]
  split <;> rfl
theorem gc_lb.le (hb : gc_lb S nn ch) (j : Nat) : ch j ≤ 126 := by
  rcases Nat.lt_or_ge j nn with h | h
  · exact (hb.2.2.1 j h).2.2
  · rw [hb.2.2.2 j h]; omega
theorem gc_lb.lt (hb : gc_lb S nn ch) {j : Nat} (h : ch j ≠ 0) : j < nn := by
  rcases Nat.lt_or_ge j nn with h' | h'
  · exact h'
  · exact absurd (hb.2.2.2 j h') h
theorem gc_at2 (i : Nat) : gm_u S 3 2 (nI i) 3 2 = nI i := by rw [gm_u_at, if_pos ⟨rfl, rfl⟩]
theorem gc_at1 (i : Nat) : gm_u S 3 2 (nI i) 3 1 = S 3 1 := by rw [gm_u_at, if_neg (by omega)]
theorem gc_at4 (i j : Nat) : gm_u S 3 2 (nI i) 4 j = S 4 j := by rw [gm_u_at, if_neg (by omega)]
theorem gc_ad (i : Nat) : nI i + 1 = nI (i + 1) := (Int32.ofNat_add i 1).symm
theorem gc_nar {c : Nat} (h : c ≤ 126) : narrow .char (.int (nI c)) = .int (nI c) := congrArg Value.int (gp_nar16 _ (by omega))
theorem gc_next (hb : gc_lb S nn ch) (hi : i ≤ nn) (q : Q (.inl (some (.int (nI (ch i)))), gc_h (gm_u S 3 2 (nI i)) P R E)) : gx_X gc_P (d + 1) 20 (0, [some (.ref 3)], [], gc_h (gm_u S 3 2 (nI i)) P R E, bc, bs) Q := by
  have h20 := hb.2.1
  refine gd_R_next_0 ?_
  rw [gc_at2, gc_at1, hb.1, nI_clamp (show i < 2 ^ 31 by omega), gc_at4]
  refine ⟨fun h => gd_R_next_24 ⟨rfl, ?_⟩, fun h => ?_⟩
  · have : nn ≤ i := Nat.le_of_not_lt (fun z => h (nI_lt z (by omega)))
    rw [hb.2.2.2 i this] at q
    exact q
  · have hl : i < nn := (nI_ltI (by omega) (by omega)).mp h
    rw [(hb.2.2.1 i hl).1]
    exact ⟨vp_in_nI (by omega) (by decide), gd_R_next_24 ⟨gc_nar (hb.le i), q⟩⟩
theorem gc_passes (hb : gc_lb S nn ch) (hi : i ≤ nn) {c : Nat} (hc : c ≤ 126) (q1 : ch i = c → Q (.inl (some (.int 1)), gc_h (gm_u S 3 2 (nI (i + 1))) P R E)) (q0 : ch i ≠ c → Q (.inl (some (.int 0)), gc_h (gm_u S 3 2 (nI i)) P R E)) :
    gx_X gc_P (d + 2) 23 (0, [some (.ref 3), some (.int (nI c))], [], gc_h (gm_u S 3 2 (nI i)) P R E, bc, bs) Q := by
  have hle := hb.le i
  refine gd_R_passes_0 ⟨0, 0, ⟨Nat.zero_le _, Nat.zero_le _⟩, gc_next hb hi (gd_R_passes_4 ?_)⟩
  rw [gc_at2, gc_ad, gc_32]
  exact ⟨fun h => q1 ((nI_eq (by omega) (by omega)).mp h), fun h => q0 (fun e => h (by rw [e]))⟩
theorem gc_pass (hb : gc_lb S nn ch) (hi : i ≤ nn) {c : Nat} (hc : c ≤ 126) (hbc : 1 ≤ bc) (hbs : 6 ≤ bs) (q1 : ch i = c → Q (.inl none, gc_h (gm_u S 3 2 (nI (i + 1))) P R E)) (q0 : ch i ≠ c → Q (.inr "java/lang/IllegalArgumentException", gc_h (gm_u S 3 2 (nI i)) P R E)) :
    gx_X gc_P (d + 3) 22 (0, [some (.ref 3), some (.int (nI c))], [], gc_h (gm_u S 3 2 (nI i)) P R E, bc, bs) Q :=
  gd_R_pass_0 ⟨0, 0, ⟨Nat.zero_le _, Nat.zero_le _⟩, gc_passes hb hi hc (fun h => gd_R_pass_5 ⟨fun _ => q1 h, fun h' => absurd h' (by decide)⟩) (fun h => gd_R_pass_5 ⟨fun h' => absurd rfl h', fun _ => ⟨⟨hbc, hbs⟩, q0 h⟩⟩)⟩
theorem gc_isName {c : Nat} (hc : c ≤ 126) (q : Q (.inl (some (.int (gp_b (gq_nm c)))), gc_h S P R E)) : gx_X gc_P (d + 1) 21 (0, [some (.int (nI c))], [], gc_h S P R E, bc, bs) Q := by
  refine gd_R_isName_0 ⟨fun h => gd_R_isName_16 (gd_R_isName_17 ⟨rfl, ?_⟩), fun h => ⟨fun h' => gd_R_isName_16 (gd_R_isName_17 ⟨rfl, ?_⟩), fun h' => gd_R_isName_17 ⟨rfl, ?_⟩⟩⟩
  · have : c < 65 := (nI_ltI (b := 65) (by omega) (by decide)).mp h
    rw [show gq_nm c = false by simp [gq_nm]; omega] at q
    exact q
  · have : ¬ c < 69 := fun z => h' (nI_lt (b := 69) z (by decide))
    rw [show gq_nm c = false by simp [gq_nm]; omega] at q
    exact q
  · have h1 : ¬ c < 65 := fun z => h (nI_lt (b := 65) z (by decide))
    have h2 : c < 69 := (nI_ltI (b := 69) (by omega) (by decide)).mp h'
    rw [show gq_nm c = true by simp [gq_nm]; omega] at q
    exact q
theorem gc_isPlain {c : Nat} (hc : c ≤ 126) (q : Q (.inl (some (.int (gp_b (gq_pl c)))), gc_h S P R E)) : gx_X gc_P (d + 1) 34 (0, [some (.int (nI c))], [], gc_h S P R E, bc, bs) Q := by
  have l : ∀ k, k < 2 ^ 31 → (nI c < nI k ↔ c < k) := fun k hk => nI_ltI (by omega) hk
  have g : ∀ k, k < 2 ^ 31 → (nI k < nI c ↔ k < c) := fun k hk => nI_ltI hk (by omega)
  have no : gq_pl c = false → gx_X gc_P (d + 1) 34 (28, [some (.int (nI c))], [], gc_h S P R E, bc, bs) Q := fun h => gd_R_isPlain_28 (gd_R_isPlain_29 ⟨rfl, by rw [h] at q; exact q⟩)
  have yes : gq_pl c = true → gx_X gc_P (d + 1) 34 (24, [some (.int (nI c))], [], gc_h S P R E, bc, bs) Q := fun h => gd_R_isPlain_24 (gd_R_isPlain_29 ⟨rfl, by rw [h] at q; exact q⟩)
  have two : ¬ (97 ≤ c ∧ c ≤ 122) → gx_X gc_P (d + 1) 34 (12, [some (.int (nI c))], [], gc_h S P R E, bc, bs) Q := fun h => gd_R_isPlain_12 ⟨fun h1 => no ?_, fun h1 => ⟨fun h2 => no ?_, fun h2 => yes ?_⟩⟩
  · refine gd_R_isPlain_0 ⟨fun h => two ?_, fun h => ⟨fun h1 => yes ?_, fun h1 => two ?_⟩⟩
    · have := (l 97 (by decide)).mp h; omega
    · have h2 : ¬ c < 97 := fun z => h ((l 97 (by decide)).mpr z)
      have h3 : ¬ 122 < c := fun z => h1 ((g 122 (by decide)).mpr z)
      simp [gq_pl]; omega
    · have := (g 122 (by decide)).mp h1; omega
  · have := (l 48 (by decide)).mp h1
    simp [gq_pl]; omega
  · have := (g 57 (by decide)).mp h2
    simp [gq_pl]; omega
  · have h3 : ¬ c < 48 := fun z => h1 ((l 48 (by decide)).mpr z)
    have h4 : ¬ 57 < c := fun z => h2 ((g 57 (by decide)).mpr z)
    simp [gq_pl]; omega
theorem gc_ends {c : Nat} (hc : c ≤ 126) (q : Q (.inl (some (.int (gp_b (gq_fin c)))), gc_h S P R E)) : gx_X gc_P (d + 1) 39 (0, [some (.int (nI c))], [], gc_h S P R E, bc, bs) Q := by
  have e : ∀ k, k < 2 ^ 31 → (nI c = nI k ↔ c = k) := fun k hk => nI_eq (by omega) hk
  have yes : gq_fin c = true → gx_X gc_P (d + 1) 39 (22, [some (.int (nI c))], [], gc_h S P R E, bc, bs) Q := fun h => gd_R_endsSequence_22 (gd_R_endsSequence_27 ⟨rfl, by rw [h] at q; exact q⟩)
  refine gd_R_endsSequence_0 ⟨fun h => yes ?_, fun h0 => ⟨fun h => yes ?_, fun h1 => ⟨fun h => yes ?_, fun h2 => ⟨fun h3 => gd_R_endsSequence_27 ⟨rfl, ?_⟩, fun h => yes ?_⟩⟩⟩⟩
  · rw [(e 0 (by decide)).mp h]; rfl
  · rw [(e 47 (by decide)).mp h]; rfl
  · rw [(e 41 (by decide)).mp h]; rfl
  · have : gq_fin c = false := by
      simp only [gq_fin, Bool.or_eq_false_iff, beq_eq_false_iff_ne]
      exact ⟨fun z => h0 ((e 0 (by decide)).mpr z), fun z => h1 ((e 47 (by decide)).mpr z), fun z => h2 ((e 41 (by decide)).mpr z), fun z => h3 ((e 125 (by decide)).mpr z)⟩
    rw [this] at q
    exact q
  · rw [(e 125 (by decide)).mp h]; rfl
theorem gc_readPlain (hb : gc_lb S nn ch) (hi : i ≤ nn) (hbc : 1 ≤ bc) (hbs : 6 ≤ bs) {o1 : Option Value} (q1 : gq_pl (ch i) = true → i < nn → Q (.inl (some (.int (nI (ch i)))), gc_h (gm_u S 3 2 (nI (i + 1))) P R E)) (q0 : gq_pl (ch i) = false → Q (.inr "java/lang/IllegalArgumentException", gc_h (gm_u S 3 2 (nI i)) P R E)) :
    gx_X gc_P (d + 2) 33 (0, [some (.ref 3), o1], [], gc_h (gm_u S 3 2 (nI i)) P R E, bc, bs) Q := by
  have hle := hb.le i
  refine gd_R_readPlain_0 ⟨0, 0, ⟨Nat.zero_le _, Nat.zero_le _⟩, gc_next hb hi (gd_R_readPlain_4 ⟨0, 0, ⟨Nat.zero_le _, Nat.zero_le _⟩, gc_isPlain hle (gd_R_readPlain_9 ⟨fun h => ⟨gc_nar hle, ?_⟩, fun h => ⟨⟨hbc, hbs⟩, q0 ((gp_b_0 _).mp h)⟩⟩)⟩)⟩
  rw [gc_at2, gc_ad, gc_32]
  have hp := gp_b_1 h
  exact q1 hp (hb.lt (fun z => by rw [z] at hp; exact absurd hp (by decide)))
/-- a new cell is a tree of its own -/
theorem gc_one {c : Nat} {fs : List Value} : gc_ob (gc_mk E.length (E ++ [.inr (c, fs)])) (gc_h S P R E).length c fs := ⟨E.length, rfl, by rw [gc_mk_at, if_neg (Nat.lt_irrefl _)]; exact gc_last _⟩
theorem gc_readRange (hb : gc_lb S nn ch) (hi : i < nn) (h91 : ch i = 91) (hbc : 10 ≤ bc) (hbs : 40 ≤ bs) {o1 o2 : Option Value}
    (hq : gc_rsl S P R E (if gq_pl (ch (i + 1)) && (ch (i + 2) == 45 && (gq_pl (ch (i + 3)) && ch (i + 4) == 93)) then some (gt_one (ch (i + 1)) (ch (i + 3)), i + 5) else none) Q) :
    gx_X gc_P (d + 4) 32 (0, [some (.ref 3), o1, o2], [], gc_h (gm_u S 3 2 (nI i)) P R E, bc, bs) Q := by
  have fail : ∀ j, (gq_pl (ch (i + 1)) && (ch (i + 2) == 45 && (gq_pl (ch (i + 3)) && ch (i + 4) == 93))) = false → Q (.inr "java/lang/IllegalArgumentException", gc_h (gm_u S 3 2 (nI j)) P R E) := fun j h => by
    rw [h] at hq
    exact hq j E gc_fr.rfl
  refine gd_R_readRange_0 ⟨1, 6, ⟨by omega, by omega⟩, gc_pass (c := 91) (d := d) hb (by omega) (by decide) (Nat.le_refl _) (Nat.le_refl _) (fun _ => gd_R_readRange_6 ⟨1, 6, ⟨by omega, by omega⟩, gc_readPlain (d := d + 1) hb (by omega) (Nat.le_refl _) (Nat.le_refl _) (fun p1 l1 => gd_R_readRange_10 ⟨1, 6, ⟨by omega, by omega⟩, gc_pass (c := 45) (d := d) hb (by omega) (by decide) (Nat.le_refl _) (Nat.le_refl _) (fun p2 => gd_R_readRange_17 ⟨1, 6, ⟨by omega, by omega⟩, ?_⟩) (fun p2 => fail _ (by simp [p2]))⟩) (fun p1 => fail _ (by simp [p1]))⟩) (fun h => absurd h91 h)⟩
  have l2 : i + 2 < nn := hb.lt (by rw [show i + 2 = i + 1 + 1 by omega, p2]; decide)
  refine gc_readPlain (d := d + 1) hb (by omega) (Nat.le_refl _) (Nat.le_refl _) (fun p3 l3 => gd_R_readRange_21 ⟨1, 6, ⟨by omega, by omega⟩, gc_pass (c := 93) (d := d) hb (by omega) (by decide) (Nat.le_refl _) (Nat.le_refl _) (fun p4 => gd_R_readRange_28 ⟨⟨by omega, by omega⟩, 0, 0, ⟨Nat.zero_le _, Nat.zero_le _⟩, ?_⟩) (fun p4 => fail _ (by simp [p4]))⟩) (fun p3 => fail _ (by simp [p3]))
  rw [p1, show ch (i + 2) = 45 from p2, p3, show ch (i + 4) = 93 from p4] at hq
  exact gc_newSingle (d := d + 1) (Nat.le_trans (hb.le _) (by decide)) (Nat.le_trans (hb.le _) (by decide)) (gd_R_readRange_37 (hq _ _ (gc_fr.app _) ⟨gc_one, Nat.le_trans (hb.le (i + 1)) (by decide), Nat.le_trans (hb.le (i + 3)) (by decide)⟩))
end GCS
