/-! Class Reader: pieces, items. -/
/-- a piece: an atom with * + or ? behind it -/
def gq_pc (ch : Nat → Nat) (f : Option (Nat → Option (gt_T × Nat))) (i : Nat) : Option (gt_T × Nat) := match gq_atom ch f i with
  | none => none
  | some (t, q) => some (gq_suf ch t q)
/-- no & or ! in front, no list -/
def gt_atm : gt_T → Bool
  | .cat _ _ => true
  | .parser _ => true
  | .const _ => true
  | .unary _ _ => true
  | .node _ _ _ => true
  | .nodeWithAntiquot _ _ _ => true
  | _ => false
theorem gc_tr_atm {E : gx_H} {t : gt_T} (ht : gt_atm t = true) {v : Bool} {w w' : Nat} (h1 : gc_ob E w 9 [.ref w', .int (gp_b v)]) (h2 : gc_tr E t (.inl none) w') : gc_tr E t (.inl (some v)) w := by
  cases t with
  | cat l hi => exact ⟨w', h1, h2⟩
  | parser r => exact ⟨w', h1, h2⟩
  | const r => exact ⟨w', h1, h2⟩
  | unary m a => exact ⟨w', h1, h2⟩
  | node m k a => exact ⟨w', h1, h2⟩
  | nodeWithAntiquot s k a => exact ⟨w', h1, h2⟩
  | _ => cases ht
theorem gq_atom_atm {ch : Nat → Nat} {f : Option (Nat → Option (gt_T × Nat))} (hf : ∀ g, f = some g → ∀ i t q, g i = some (t, q) → gt_atm t = true) {i : Nat} {t : gt_T} {q : Nat} (h : gq_atom ch f i = some (t, q)) : gt_atm t = true := by
  unfold gq_atom at h
  split at h
  · cases f with
    | none => cases h
    | some g =>
      simp only at h
      cases hg : g (i + 1) with
      | none => rw [hg] at h; cases h
      | some tq =>
        obtain ⟨t', q'⟩ := tq
        rw [hg] at h
        simp only at h
        split at h
        · cases h; exact hf g rfl (i + 1) _ _ hg
        · cases h
  · split at h
    · cases f with
      | none => cases h
      | some g =>
        simp only at h
        split at h
        · cases h; rfl
        · cases hg : g (i + 1) with
          | none => rw [hg] at h; cases h
          | some tq =>
            obtain ⟨t', q'⟩ := tq
            rw [hg] at h
            simp only at h
            split at h
            · cases h; rfl
            · cases h
    · split at h
      · split at h
        · cases h; rfl
        · cases h
      · split at h
        · cases h; rfl
        · split at h
          · cases h; rfl
          · split at h
            · cases h; rfl
            · cases h
theorem gq_suf_atm {ch : Nat → Nat} {t : gt_T} (ht : gt_atm t = true) (q : Nat) : gt_atm (gq_suf ch t q).1 = true := by
  unfold gq_suf
  split
  · rfl
  · split
    · rfl
    · split
      · rfl
      · exact ht
section GCU
variable {d bc bs : Nat} {S : Nat → Nat → Int32} {P : Nat → Option Nat} {R : Nat → Int64} {E : gx_H} {Q : gx_R → Prop} {nn i k : Nat} {ch : Nat → Nat} {f : Option (Nat → Option (gt_T × Nat))}
theorem gq_suf_le (t : gt_T) (q : Nat) : q ≤ (gq_suf ch t q).2 ∧ (gq_suf ch t q).2 ≤ q + 1 := by
  unfold gq_suf
  split
  · exact ⟨by simp, by simp⟩
  · split
    · exact ⟨by simp, by simp⟩
    · split
      · exact ⟨by simp, by simp⟩
      · exact ⟨by simp, by simp⟩
/-- a piece -/
theorem gc_piece (hb : gc_lb S nn ch) (hok : ∀ g, f = some g → ∀ i t q, g i = some (t, q) → gq_ok ch nn i t q) (hf : gc_cH S P R nn (d + 4) k f) (hi : i ≤ nn) (hk : k ≤ 6)
    (hbc : gc_bd 60 30 i (gq_pc ch f i) ≤ bc) (hbs : gc_bd 400 250 i (gq_pc ch f i) ≤ bs) {o2 : Option Value} (hq : gc_rsl S P R E (gq_pc ch f i) Q) :
    gx_X gc_P (d + 7) 27 (0, [some (.ref 3), some (.int (nI k)), o2], [], gc_h (gm_u S 3 2 (nI i)) P R E, bc, bs) Q := by
  have h20 := hb.2.1
  unfold gq_pc at hbc hbs hq
  cases hres : gq_atom ch f i with
  | none =>
    rw [hres] at hbc hbs hq
    refine gd_R_readPiece_0 ⟨bc, bs, ⟨Nat.le_refl _, Nat.le_refl _⟩, gc_atom hb hok hf hi hk (by rw [hres]; exact hbc) (by rw [hres]; exact hbs) ?_⟩
    rw [hres]
    exact fun j E' h => hq j E' h
  | some tq =>
    obtain ⟨t, q⟩ := tq
    have ho := gq_atom_ok hb.2.2.2 hok hres
    have o1 := ho.1
    have o2' := ho.2.1
    have hs2 := gq_suf_le (ch := ch) t q
    rw [hres] at hbc hbs hq
    simp only at hbc hbs hq
    have hbb : 60 * (q - i) - 40 + 10 ≤ bc ∧ 400 * (q - i) - 300 + 50 ≤ bs := by
      generalize gq_suf ch t q = sx at hbc hbs hs2
      obtain ⟨t9, z⟩ := sx
      have b1 : 60 * (z - i) - 30 ≤ bc := hbc
      have b2 : 400 * (z - i) - 250 ≤ bs := hbs
      have b3 : q ≤ z := hs2.1
      omega
    clear hbc hbs hs2
    obtain ⟨hb1, hb2⟩ := hbb
    refine gd_R_readPiece_0 ⟨60 * (q - i) - 40, 400 * (q - i) - 300, ⟨by omega, by omega⟩, gc_atom hb hok hf hi hk (by rw [hres]; exact Nat.le_refl _) (by rw [hres]; exact Nat.le_refl _) ?_⟩
    rw [hres]
    intro E' w fr tr
    have mk : ∀ (c : Nat) (a b : Int32), c < 3 → a = (if c = 1 then 1 else 0) → b = nI (gt_most c) → gq_suf ch t q = (gt_rep c t, q + 1) → Q (.inl (some (.ref (gc_h (gm_u S 3 2 (nI (q + 1))) P R E').length)), gc_h (gm_u S 3 2 (nI (q + 1))) P R (E' ++ [.inr (8, [.ref w, .int a, .int b])])) := fun c a b hc ha hb' he => by
      rw [he] at hq
      subst ha hb'
      refine hq _ _ (fr.trans (gc_fr.app _)) ⟨w, hc, ⟨E'.length, rfl, ?_⟩, gc_tr.keep (Nat.le_refl _) (gc_fr.app _) tr⟩
      rw [gc_mk_at, if_neg (by have := fr.1; omega)]
      exact gc_last _
    refine gd_R_readPiece_5 ⟨0, 0, ⟨Nat.zero_le _, Nat.zero_le _⟩, gc_passes (c := 42) (d := d + 4) hb (by omega) (by decide) (fun h42 => gd_R_readPiece_12 ⟨fun h => absurd h (by decide), fun _ => ⟨⟨by omega, by omega⟩, 0, 0, ⟨Nat.zero_le _, Nat.zero_le _⟩, gc_newRep (d := d + 4) (gd_R_readPiece_26 (mk 0 _ _ (by omega) rfl rfl (by unfold gq_suf; rw [if_pos h42])))⟩⟩) (fun h42 => gd_R_readPiece_12 ⟨fun _ => ⟨0, 0, ⟨Nat.zero_le _, Nat.zero_le _⟩, gc_passes (c := 43) (d := d + 4) hb (by omega) (by decide) (fun h43 => gd_R_readPiece_33 ⟨fun h => absurd h (by decide), fun _ => ⟨⟨by omega, by omega⟩, 0, 0, ⟨Nat.zero_le _, Nat.zero_le _⟩, gc_newRep (d := d + 4) (gd_R_readPiece_47 (mk 1 _ _ (by omega) rfl rfl (by unfold gq_suf; rw [if_neg h42, if_pos h43])))⟩⟩) (fun h43 => gd_R_readPiece_33 ⟨fun _ => ⟨0, 0, ⟨Nat.zero_le _, Nat.zero_le _⟩, gc_passes (c := 63) (d := d + 4) hb (by omega) (by decide) (fun h63 => gd_R_readPiece_54 ⟨fun h => absurd h (by decide), fun _ => ⟨⟨by omega, by omega⟩, 0, 0, ⟨Nat.zero_le _, Nat.zero_le _⟩, gc_newRep (d := d + 4) (gd_R_readPiece_67 (mk 2 _ _ (by omega) rfl rfl (by unfold gq_suf; rw [if_neg h42, if_neg h43, if_pos h63])))⟩⟩) (fun h63 => gd_R_readPiece_54 ⟨fun _ => ?_, fun h => absurd rfl h⟩)⟩, fun h => absurd rfl h⟩)⟩, fun h => absurd rfl h⟩)⟩
    have he : gq_suf ch t q = (t, q) := by unfold gq_suf; rw [if_neg h42, if_neg h43, if_neg h63]
    rw [he] at hq
    exact hq E' w fr tr
/-- an item, from its j-th character on -/
theorem gc_itemL (hb : gc_lb S nn ch) (hok : ∀ g, f = some g → ∀ i t q, g i = some (t, q) → gq_ok ch nn i t q) (hatm : ∀ g, f = some g → ∀ i t q, g i = some (t, q) → gt_atm t = true) (hf : gc_cH S P R nn (d + 4) k f) (hk : k ≤ 6) {o4 : Option Value} :
    ∀ (m j : Nat) (lk v : Bool), j ≤ nn → nn ≤ j + m → (lk = false → v = true) → gc_bd 60 20 j (gq_pc ch f (gq_pre ch m j)) ≤ bc → gc_bd 400 200 j (gq_pc ch f (gq_pre ch m j)) ≤ bs →
    (match gq_pc ch f (gq_pre ch m j) with
      | none => ∀ j E', gc_fr E E' → Q (.inr "java/lang/IllegalArgumentException", gc_h (gm_u S 3 2 (nI j)) P R E')
      | some (t, q) => ∀ E' w, gc_fr E E' → gc_tr (gc_mk E.length E') (gq_lk ch (gq_pre ch m j - j) j t) (.inl (if lk then some v else none)) w → Q (.inl (some (.ref w)), gc_h (gm_u S 3 2 (nI q)) P R E')) →
    gx_X gc_P (d + 8) 26 (4, [some (.ref 3), some (.int (nI k)), some (.int (gp_b lk)), some (.int (gp_b v)), o4], [], gc_h (gm_u S 3 2 (nI j)) P R E, bc, bs) Q := by
  have h20 := hb.2.1
  -- behind them
  have fin : ∀ (j : Nat) (lk v : Bool), j ≤ nn → (lk = false → v = true) → gc_bd 60 20 j (gq_pc ch f j) ≤ bc → gc_bd 400 200 j (gq_pc ch f j) ≤ bs →
      (match gq_pc ch f j with
        | none => ∀ j E', gc_fr E E' → Q (.inr "java/lang/IllegalArgumentException", gc_h (gm_u S 3 2 (nI j)) P R E')
        | some (t, q) => ∀ E' w, gc_fr E E' → gc_tr (gc_mk E.length E') t (.inl (if lk then some v else none)) w → Q (.inl (some (.ref w)), gc_h (gm_u S 3 2 (nI q)) P R E')) →
      gx_X gc_P (d + 8) 26 (87, [some (.ref 3), some (.int (nI k)), some (.int (gp_b lk)), some (.int (gp_b v)), o4], [], gc_h (gm_u S 3 2 (nI j)) P R E, bc, bs) Q := fun j lk v hj hlv hbc hbs hq => by
    cases hres : gq_pc ch f j with
    | none =>
      rw [hres] at hbc hbs hq
      refine gd_R_readItem_87 ⟨bc, bs, ⟨Nat.le_refl _, Nat.le_refl _⟩, gc_piece hb hok hf hj hk (by rw [hres]; exact hbc) (by rw [hres]; exact hbs) ?_⟩
      rw [hres]
      exact fun j E' h => hq j E' h
    | some tq =>
      obtain ⟨t, q⟩ := tq
      obtain ⟨t0, q0, hat0, hs0⟩ : ∃ t0 q0, gq_atom ch f j = some (t0, q0) ∧ gq_suf ch t0 q0 = (t, q) := by
        unfold gq_pc at hres
        cases hat : gq_atom ch f j with
        | none => rw [hat] at hres; cases hres
        | some tq => rw [hat] at hres; exact ⟨tq.1, tq.2, rfl, Option.some.inj hres⟩
      have ho := gq_atom_ok hb.2.2.2 hok hat0
      have o1 := ho.1
      have hs2 := gq_suf_le (ch := ch) t0 q0
      rw [hs0] at hs2
      have hs2 : q0 ≤ q ∧ q ≤ q0 + 1 := hs2
      have hta : gt_atm t = true := by
        have := gq_suf_atm (ch := ch) (gq_atom_atm hatm hat0) q0
        rw [hs0] at this
        exact this
      rw [hres] at hbc hbs hq
      simp only [gc_bd] at hbc hbs
      refine gd_R_readItem_87 ⟨60 * (q - j) - 30, 400 * (q - j) - 250, ⟨by omega, by omega⟩, gc_piece hb hok hf hj hk (by rw [hres]; exact Nat.le_refl _) (by rw [hres]; exact Nat.le_refl _) ?_⟩
      rw [hres]
      intro E' w fr tr
      refine gd_R_readItem_92 ⟨fun h => gd_R_readItem_113 ?_, fun h => ⟨⟨by omega, by omega⟩, 0, 0, ⟨Nat.zero_le _, Nat.zero_le _⟩, gc_newLook (d := d + 5) (gd_R_readItem_108 (gd_R_readItem_113 ?_))⟩⟩
      · rw [(gp_b_0 _).mp h] at hq
        exact hq E' w fr tr
      · rw [gp_b_1 h] at hq
        refine hq _ _ (fr.trans (gc_fr.app _)) (gc_tr_atm hta ⟨E'.length, rfl, ?_⟩ (gc_tr.keep (Nat.le_refl _) (gc_fr.app _) tr))
        rw [gc_mk_at, if_neg (by have := fr.1; omega)]
        exact gc_last _
  intro m
  induction m with
  | zero =>
    intro j lk v hj hm hlv hbc hbs hq
    have e : j = nn := by omega
    refine gd_R_readItem_4 ?_
    rw [gc_at2, gc_at1, hb.1]
    refine ⟨fun _ => fin j lk v hj hlv hbc hbs ?_, fun h => absurd h (by rw [e]; exact nI_nlt (Nat.le_refl _) (by omega))⟩
    have e0 : gq_pre ch 0 j - j = 0 := Nat.sub_self _
    rw [e0] at hq
    exact hq
  | succ m ih =>
    intro j lk v hj hm hlv hbc hbs hq
    cases hl : gq_look (ch j) with
    | false =>
      have ep : gq_pre ch (m + 1) j = j := by show (if gq_look (ch j) = true then gq_pre ch m (j + 1) else j) = j; rw [hl]; rfl
      rw [ep] at hbc hbs hq
      rw [Nat.sub_self] at hq
      have n38 : ¬ ch j = 38 := fun z => by rw [z] at hl; cases hl
      have n33 : ¬ ch j = 33 := fun z => by rw [z] at hl; cases hl
      have hle := hb.le j
      refine gd_R_readItem_4 ?_
      rw [gc_at2, gc_at1, hb.1, nI_clamp (show j < 2 ^ 31 by omega), gc_at4]
      refine ⟨fun _ => fin j lk v hj hlv hbc hbs hq, fun h => ?_⟩
      have hjn : j < nn := (nI_ltI (by omega) (by omega)).mp h
      rw [(hb.2.2.1 j hjn).1]
      exact ⟨vp_in_nI (by omega) (by decide), fun h => absurd ((nI_eq (b := 38) (by omega) (by decide)).mp h) n38, fun _ => ⟨vp_in_nI (by omega) (by decide), fun _ => fin j lk v hj hlv hbc hbs hq, fun h => absurd ((nI_eq (b := 33) (by omega) (by decide)).mp h) n33⟩⟩
    | true =>
      have ep : gq_pre ch (m + 1) j = gq_pre ch m (j + 1) := by show (if gq_look (ch j) = true then gq_pre ch m (j + 1) else j) = _; rw [hl]; rfl
      rw [ep] at hbc hbs hq
      have hjn : j < nn := hb.lt (fun z => by rw [z] at hl; cases hl)
      have hle := hb.le j
      have hge := (gq_pre_ok (ch := ch) m (j + 1)).1
      have hin : vp_in (nI j) 20 := vp_in_nI (by omega) (by decide)
      have hcj : (nI j).toNatClampNeg = j := nI_clamp (by omega)
      have es : gq_pre ch m (j + 1) - j = gq_pre ch m (j + 1) - (j + 1) + 1 := by omega
      have next : ∀ v' : Bool, v' = (v == (ch j == 38)) → gx_X gc_P (d + 8) 26 (73, [some (.ref 3), some (.int (nI k)), some (.int 1), some (.int (gp_b v)), o4], [.int (gp_b v')], gc_h (gm_u S 3 2 (nI j)) P R E, bc, bs) Q := fun v' hv' => by
        refine gd_R_readItem_73 ?_
        rw [gc_at2, gc_ad, gc_32]
        refine ih (j + 1) true v' (by omega) (by omega) (fun h => by cases h) ?_ ?_ ?_
        · cases hres : gq_pc ch f (gq_pre ch m (j + 1)) with
          | none => rw [hres] at hbc; simp only [gc_bd] at hbc ⊢; omega
          | some tq => obtain ⟨t, q⟩ := tq; rw [hres] at hbc; simp only [gc_bd] at hbc ⊢; omega
        · cases hres : gq_pc ch f (gq_pre ch m (j + 1)) with
          | none => rw [hres] at hbs; simp only [gc_bd] at hbs ⊢; omega
          | some tq => obtain ⟨t, q⟩ := tq; rw [hres] at hbs; simp only [gc_bd] at hbs ⊢; omega
        · cases hres : gq_pc ch f (gq_pre ch m (j + 1)) with
          | none => rw [hres] at hq; exact hq
          | some tq =>
            obtain ⟨t, q⟩ := tq
            rw [hres] at hq
            intro E' w fr tr
            refine hq E' w fr ?_
            rw [es]
            have e1 : ((if ch j = 38 then 1 else 0 : Nat) == 1) = (ch j == 38) := by
              by_cases h : ch j = 38
              · rw [if_pos h, h]; rfl
              · rw [if_neg h, show (ch j == 38) = false by simp [h]]; rfl
            rw [hv'] at tr
            cases lk with
            | true =>
              show gc_tr _ (gq_lk ch _ (j + 1) t) (.inl (some (v == ((if ch j = 38 then 1 else 0 : Nat) == 1)))) w
              rw [e1]
              exact tr
            | false =>
              show gc_tr _ (gq_lk ch _ (j + 1) t) (.inl (some ((if ch j = 38 then 1 else 0 : Nat) == 1))) w
              rw [e1]
              rw [hlv rfl] at tr
              have e2 : (true == (ch j == 38)) = (ch j == 38) := by cases (ch j == 38) <;> rfl
              rw [e2] at tr
              exact tr
      have go43 : gx_X gc_P (d + 8) 26 (43, [some (.ref 3), some (.int (nI k)), some (.int (gp_b lk)), some (.int (gp_b v)), o4], [], gc_h (gm_u S 3 2 (nI j)) P R E, bc, bs) Q := by
        refine gd_R_readItem_43 ?_
        rw [gc_at2, hcj, gc_at4, (hb.2.2.1 j hjn).1]
        refine ⟨hin, fun h => gd_R_readItem_65 ⟨fun h' => next false ?_, fun h' => next true ?_⟩, fun h => gd_R_readItem_65 ⟨fun h' => next false ?_, fun h' => next true ?_⟩⟩
        · have n38 : (ch j == 38) = false := by simp; exact fun z => h (by rw [z]; rfl)
          rw [n38]; cases v with
          | true => rfl
          | false => exact absurd rfl h'
        · have n38 : (ch j == 38) = false := by simp; exact fun z => h (by rw [z]; rfl)
          rw [n38]; cases v with
          | true => exact absurd h' (by decide)
          | false => rfl
        · have n38 : (ch j == 38) = true := by simp; exact (nI_eq (b := 38) (by omega) (by decide)).mp h
          rw [n38]; cases v with
          | true => exact absurd rfl h'
          | false => rfl
        · have n38 : (ch j == 38) = true := by simp; exact (nI_eq (b := 38) (by omega) (by decide)).mp h
          rw [n38]; cases v with
          | true => rfl
          | false => exact absurd h' (by decide)
      have hor : ch j = 38 ∨ ch j = 33 := by simpa [gq_look] using hl
      refine gd_R_readItem_4 ?_
      rw [gc_at2, gc_at1, hb.1, hcj, gc_at4, (hb.2.2.1 j hjn).1]
      refine ⟨fun h => absurd (nI_lt hjn (by omega)) h, fun _ => ⟨hin, fun _ => go43, fun h38 => ⟨hin, fun h33 => ?_, fun _ => go43⟩⟩⟩
      rcases hor with h | h
      · exact absurd (by rw [h]; rfl) h38
      · exact absurd (by rw [h]; rfl) h33
/-- an item -/
theorem gc_item (hb : gc_lb S nn ch) (hok : ∀ g, f = some g → ∀ i t q, g i = some (t, q) → gq_ok ch nn i t q) (hatm : ∀ g, f = some g → ∀ i t q, g i = some (t, q) → gt_atm t = true) (hf : gc_cH S P R nn (d + 4) k f) (hi : i ≤ nn) (hk : k ≤ 6)
    (hbc : gc_bd 60 20 i (gq_item ch f i) ≤ bc) (hbs : gc_bd 400 200 i (gq_item ch f i) ≤ bs) {o2 o3 o4 : Option Value} (hq : gc_rsl S P R E (gq_item ch f i) Q) :
    gx_X gc_P (d + 8) 26 (0, [some (.ref 3), some (.int (nI k)), o2, o3, o4], [], gc_h (gm_u S 3 2 (nI i)) P R E, bc, bs) Q := by
  have h20 := hb.2.1
  unfold gq_item at hbc hbs hq
  refine gd_R_readItem_0 (gc_itemL hb hok hatm hf hk 20 i false true hi (by omega) (fun _ => rfl) ?_ ?_ ?_)
  · unfold gq_pc
    cases hat : gq_atom ch f (gq_pre ch 20 i) with
    | none => rw [hat] at hbc; exact hbc
    | some tq => rw [hat] at hbc; exact hbc
  · unfold gq_pc
    cases hat : gq_atom ch f (gq_pre ch 20 i) with
    | none => rw [hat] at hbs; exact hbs
    | some tq => rw [hat] at hbs; exact hbs
  · unfold gq_pc
    cases hat : gq_atom ch f (gq_pre ch 20 i) with
    | none => rw [hat] at hq; exact hq
    | some tq => rw [hat] at hq; exact hq
end GCU
