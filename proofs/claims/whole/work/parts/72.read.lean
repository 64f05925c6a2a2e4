/-! The model reads a line as the document's grammar of lines asks. -/
theorem gt_seqs_foldr (t : gt_T) : ∀ l : List gt_T, gt_seqs (l ++ [t]) = l.foldr (fun a b => gt_seq a b) t
  | [] => rfl
  | [a] => rfl
  | a :: b :: l => by
    have h := gt_seqs_foldr t (b :: l)
    show gt_seq a (gt_seqs ((b :: l) ++ [t])) = _
    rw [h]
    rfl
theorem gt_chs_foldr (t : gt_T) : ∀ l : List gt_T, gt_chs (l ++ [t]) = l.foldr (fun a b => gt_ch a b) t
  | [] => rfl
  | [a] => rfl
  | a :: b :: l => by
    have h := gt_chs_foldr t (b :: l)
    show gt_ch a (gt_chs ((b :: l) ++ [t])) = _
    rw [h]
    rfl
theorem gq_pre_stop {ch : Nat → Nat} {nn : Nat} (hz : ∀ k, nn ≤ k → ch k = 0) : ∀ (m i : Nat), i ≤ nn → nn ≤ i + m → gq_look (ch (gq_pre ch m i)) = false ∧ gq_pre ch m i ≤ nn
  | 0, i, hi, h => by
    have e : gq_pre ch 0 i = i := rfl
    rw [e, hz i (by omega)]
    exact ⟨rfl, hi⟩
  | m + 1, i, hi, h => by
    unfold gq_pre
    split
    · rename_i hlk
      have hlt : i < nn := Nat.lt_of_not_le fun hn => by rw [hz i hn] at hlk; cases hlk
      exact gq_pre_stop hz m (i + 1) hlt (by omega)
    · rename_i hlk
      exact ⟨by simpa using hlk, hi⟩
section GBF
variable {S S' S0 : Nat → Nat → Int32} {d bc bs : Nat} {Q : gx_R → Prop} {ch : Nat → Nat} {nn : Nat}
/-- & and ! are passed -/
theorem gm_skip (hl : gm_ln S0 nn ch) {c s br e pf : Nat} {ss is' : List (gt_T × Nat)} {r : List gm_Lv} {o1 o2 o3 : Option Value} {QQ : gx_R → Prop}
    : ∀ (m i : Nat) (S : Nat → Nat → Int32), nn ≤ i + m → gm_B S0 S i c s ss is' br r e nn → S 18 r.length = nI pf →
    (∀ S2, gm_B S0 S2 (gq_pre ch m i) c s ss is' br r e nn → S2 18 r.length = nI pf → S2 19 r.length = nI (gq_pre ch m i) → gx_X gm_P (d + 2) 17 (73, [some (.ref 0), o1, o2, o3], [.int (nI (ch (gq_pre ch m i)))], gm_h S2, bc, bs) QQ) →
    gx_X gm_P (d + 2) 17 (13, [some (.ref 0), o1, o2, o3], [], gm_h S, bc, bs) QQ := by
  have stop : ∀ (i : Nat) (S : Nat → Nat → Int32), gm_B S0 S i c s ss is' br r e nn → S 18 r.length = nI pf → gq_look (ch i) = false → (∀ S2, gm_B S0 S2 i c s ss is' br r e nn → S2 18 r.length = nI pf → S2 19 r.length = nI i → gx_X gm_P (d + 2) 17 (73, [some (.ref 0), o1, o2, o3], [.int (nI (ch i))], gm_h S2, bc, bs) QQ) → gx_X gm_P (d + 2) 17 (13, [some (.ref 0), o1, o2, o3], [], gm_h S, bc, bs) QQ := fun i S hB h18 hlk K => by
    obtain ⟨g1, g2, g3, g4, g5, g6, g7, g8, g9, g10, g11, g12, g13, g14⟩ := id hB
    have hlS := gm_ln_eqP g1 hl
    have cc : ch i < 127 := by
      by_cases h : i < nn
      · have := (hl.2.2.1 i h).2; omega
      · rw [hl.2.2.2 i (by omega)]; decide
    have hn : ch i ≠ 38 ∧ ch i ≠ 33 := by simpa [gq_look] using hlk
    refine gb_readItem_13 ?_
    rw [g2]
    refine gm_look hlS (by omega) (gb_readItem_21 ⟨fun h => absurd ((nI_eq (b := 38) (by omega) (by decide)).mp h) hn.1, fun _ => ?_⟩)
    rw [g2]
    refine gm_look hlS (by omega) (gb_readItem_34 ⟨fun _ => ?_, fun h => absurd ((nI_eq (b := 33) (by omega) (by decide)).mp h) hn.2⟩)
    rw [g4, nI_clamp (show r.length < 2 ^ 31 by omega), g2]
    refine ⟨vp_in_nI (by omega) (by decide), ?_⟩
    have hB2 : gm_B S0 (gm_u S 19 r.length (nI i)) i c s ss is' br r e nn := hB.u1819 (.inr rfl)
    refine gm_look (gm_ln_eqP hB2.1 hl) (by omega) (K _ hB2 ?_ ?_)
    · rw [gm_u_at, if_neg (by omega)]; exact h18
    · rw [gm_u_at, if_pos ⟨rfl, rfl⟩]
  intro m
  induction m with
  | zero =>
    intro i S hm hB h18 K
    exact stop i S hB h18 (by rw [hl.2.2.2 i (by omega)]; rfl) K
  | succ m ih =>
    intro i S hm hB h18 K
    cases hlk : gq_look (ch i) with
    | false =>
      have e1 : gq_pre ch (m + 1) i = i := by unfold gq_pre; rw [hlk]; rfl
      rw [e1] at K
      exact stop i S hB h18 hlk K
    | true =>
      have e1 : gq_pre ch (m + 1) i = gq_pre ch m (i + 1) := by
        show (if gq_look (ch i) then gq_pre ch m (i + 1) else i) = _
        rw [hlk]; rfl
      rw [e1] at K
      obtain ⟨g1, g2, g3, g4, g5, g6, g7, g8, g9, g10, g11, g12, g13, g14⟩ := id hB
      have hlS := gm_ln_eqP g1 hl
      have hi : i < nn := Nat.lt_of_not_le fun hn => by rw [hl.2.2.2 i hn] at hlk; cases hlk
      have cc := (hl.2.2.1 i hi).2
      have hor : ch i = 38 ∨ ch i = 33 := by simpa [gq_look] using hlk
      have nxt : gx_X gm_P (d + 2) 17 (39, [some (.ref 0), o1, o2, o3], [], gm_h S, bc, bs) QQ := by
        refine gb_readItem_39 ?_
        rw [g2, gm_nI1]
        exact ih (i + 1) _ (by omega) (hB.at (by omega) (by omega)) (by rw [gm_u_at, if_neg (by omega)]; exact h18) K
      refine gb_readItem_13 ?_
      rw [g2]
      refine gm_look hlS (by omega) (gb_readItem_21 ⟨fun _ => nxt, fun h => ?_⟩)
      rw [g2]
      refine gm_look hlS (by omega) (gb_readItem_34 ⟨fun h' => ?_, fun _ => nxt⟩)
      rcases hor with h1 | h1
      · exact absurd (by rw [h1]; rfl) h
      · exact absurd (by rw [h1]; rfl) h'
/-- an item begins -/
theorem gm_item_start (hl : gm_ln S0 nn ch) {i c s br e : Nat} {ss is' : List (gt_T × Nat)} {r : List gm_Lv} (hB : gm_B S0 S i c s ss is' br r e nn) (hi : i < nn)
    (K : ∀ S2, gm_B S0 S2 (gq_pre ch 20 i) c s ss is' br r e nn → S2 18 r.length = nI i → S2 19 r.length = nI (gq_pre ch 20 i) → gx_X gm_P (d + 5) 17 (73, [some (.ref 0), none, none, none], [.int (nI (ch (gq_pre ch 20 i)))], gm_h S2, 0, 0) (gm_QI d bc bs Q)) : gm_Pre d bc bs Q S := by
  obtain ⟨g1, g2, g3, g4, g5, g6, g7, g8, g9, g10, g11, g12, g13, g14⟩ := id hB
  have hlS := gm_ln_eqP g1 hl
  refine gb_read_67 ⟨fun h => absurd g3 h, fun _ => ⟨fun h => absurd ?_ h, fun _ => gb_readItem_0 ?_⟩⟩
  · rw [g2, hlS.1]
    exact nI_lt hi (by omega)
  · rw [g4, nI_clamp (show r.length < 2 ^ 31 by omega), g2]
    exact ⟨vp_in_nI (by omega) (by decide), gm_skip hl 20 i _ (by omega) (hB.u1819 (.inl rfl)) (by rw [gm_u_at, if_pos ⟨rfl, rfl⟩]) K⟩
/-- an item that doesn't open a bracket -/
theorem gm_item_simple (hl : gm_ln S0 nn ch) {i c s br e : Nat} {ss is' : List (gt_T × Nat)} {r : List gm_Lv} {f : Option (Nat → Option (gt_T × Nat))} (hfe : gq_item ch f i = none → ∀ S', gm_eqP S0 S' → Q (.inl (some (.int 0)), gm_h S')) (hB : gm_B S0 S i c s ss is' br r e nn) (hi : i < nn) (hf : f.isSome = true ↔ r.length < 6) (hc40 : ch (gq_pre ch 20 i) ≠ 40) (hc123 : ch (gq_pre ch 20 i) = 123 → ch (gq_pre ch 20 i + 1) = 125)
    (K : ∀ t q S' e' n', gq_item ch f i = some (t, q) → gm_B S0 S' q c s ss (is' ++ [(t, n')]) br r e' nn → gm_Post d bc bs Q S') : gm_Pre d bc bs Q S := by
  have hpre := gq_pre_ok (ch := ch) 20 i
  have hpnn := (gq_pre_stop hl.2.2.2 20 i (by omega) (by have := hl.2.1; omega)).2
  refine gm_item_start hl hB hi (fun S2 hB2 h18 h19 => ?_)
  obtain ⟨g1, g2, g3, g4, g5, g6, g7, g8, g9, g10, g11, g12, g13, g14⟩ := id hB2
  have hlS := gm_ln_eqP g1 hl
  have hpot : (e - 160) + gm_pd r + 2 ≤ 2 * i := hB.2.2.2.2.2.2.2.2.2.2.2.1
  have cc : ∀ j, ch j < 127 := fun j => by
    by_cases h : j < nn
    · have := (hl.2.2.1 j h).2; omega
    · rw [hl.2.2.2 j (by omega)]; decide
  have c0 := cc (gq_pre ch 20 i)
  have go : ∀ (o1 o2 : Option Value), gx_X gm_P (d + 5) 17 (158, [some (.ref 0), o1, o2, none], [], gm_h S2, 0, 0) (gm_QI d bc bs Q) := fun o1 o2 => by
    refine gb_readItem_158 (gm_atom hl hB2 hpot h18 h19 hpre.1 hc40 hc123 hf (fun hn => gb_readItem_162 ⟨fun h => absurd (by decide) h, fun _ => gb_readItem_173 ⟨⟨rfl, rfl⟩, fun h => absurd h (by decide), fun _ => gb_read_89 (gm_end_bad (hfe (by unfold gq_item; rw [hn])) (g1.u (by omega)) ?_)⟩⟩) (fun t q S3 ha hM => gb_readItem_162 ⟨fun _ => gb_readItem_173 ⟨⟨rfl, rfl⟩, fun _ => gm_take hl hM.u18 (fun S4 e' n' hB4 => gb_readItem_189 (K _ _ S4 e' n' ?_ hB4 _ _ _ _)), fun h => absurd rfl h⟩, fun h => absurd h (nI_pos ?_)⟩))
    · rw [gm_u_at, if_pos ⟨rfl, rfl⟩]; decide
    · unfold gq_item
      rw [ha]
    · have := hM.2.2.2.2.2.2.2.2.2.2.2.1
      omega
  refine gb_readItem_73 ⟨fun h => gb_readItem_99 (gb_readItem_100 ⟨fun h' => absurd ((nI_eq (b := 40) (by omega) (by decide)).mp h') hc40, fun _ => ⟨fun _ => go _ _, fun h' => absurd h' h⟩⟩), fun h => ?_⟩
  have h123 : ch (gq_pre ch 20 i) = 123 := (nI_eq (b := 123) (by omega) (by decide)).mp h
  have h125 := hc123 h123
  rw [g2, gm_nI1]
  refine gm_look hlS (by omega) (gb_readItem_90 ⟨fun h' => absurd (by rw [h125]; rfl) h', fun _ => gb_readItem_100 ⟨fun h' => absurd ((nI_eq (b := 40) (by omega) (by decide)).mp h') hc40, fun _ => ⟨fun _ => go _ _, fun _ => gb_readItem_113 ⟨fun _ => go _ _, fun h0 => absurd h0 (by decide)⟩⟩⟩⟩)
/-- an item that opens a bracket -/
theorem gm_item_bracket (hl : gm_ln S0 nn ch) {i c s br e : Nat} {ss is' : List (gt_T × Nat)} {r : List gm_Lv} (hfe : ¬ r.length < 6 → ∀ S', gm_eqP S0 S' → Q (.inl (some (.int 0)), gm_h S')) (hB : gm_B S0 S i c s ss is' br r e nn) (hi : i < nn) (hc : ch (gq_pre ch 20 i) = 40 ∨ ch (gq_pre ch 20 i) = 123 ∧ ch (gq_pre ch 20 i + 1) ≠ 125)
    (K : r.length < 6 → ∀ S', gm_B S0 S' (gq_pre ch 20 i + 1) e (e + 1) [] [] (ch (gq_pre ch 20 i)) ((c, s, ss, is', br, i, gq_pre ch 20 i) :: r) (e + 2) nn → gm_Pre d bc bs Q S') : gm_Pre d bc bs Q S := by
  have hpre := gq_pre_ok (ch := ch) 20 i
  have hpnn := (gq_pre_stop hl.2.2.2 20 i (by omega) (by have := hl.2.1; omega)).2
  have hplt : gq_pre ch 20 i < nn := Nat.lt_of_not_le fun hn => by
    rw [hl.2.2.2 _ hn] at hc
    rcases hc with h | h
    · exact absurd h (by decide)
    · exact absurd h.1 (by decide)
  refine gm_item_start hl hB hi (fun S2 hB2 h18 h19 => ?_)
  obtain ⟨g1, g2, g3, g4, g5, g6, g7, g8, g9, g10, g11, g12, g13, g14⟩ := id hB2
  have hlS := gm_ln_eqP g1 hl
  have hpot : (e - 160) + gm_pd r + 2 ≤ 2 * i := hB.2.2.2.2.2.2.2.2.2.2.2.1
  have hR := gm_R_le g11
  have hle := gm_lv_le g7
  have cc : ∀ j, ch j < 127 := fun j => by
    by_cases h : j < nn
    · have := (hl.2.2.1 j h).2; omega
    · rw [hl.2.2.2 j (by omega)]; decide
  have c0 := cc (gq_pre ch 20 i)
  have c1 := cc (gq_pre ch 20 i + 1)
  have go : ∀ (o2 : Option Value), gx_X gm_P (d + 5) 17 (113, [some (.ref 0), some (.int (nI (ch (gq_pre ch 20 i)))), some (.int 0), none], [], gm_h S2, 0, 0) (gm_QI d bc bs Q) := fun o2 => by
    refine gb_readItem_113 ⟨fun h => absurd rfl h, fun _ => ⟨fun h6 => gb_readItem_132 ⟨⟨rfl, rfl⟩, fun h => absurd rfl h, fun _ => ?_⟩, fun h6 => gb_readItem_132 ⟨⟨rfl, rfl⟩, fun _ => gb_readItem_157 (gb_read_89 (gm_end_bad (hfe (fun z => h6 (by rw [g4]; exact nI_lt (b := 6) z (by decide)))) ((g1.u (by omega)).u (by omega)) ?_)), fun h => absurd h (by decide)⟩⟩⟩
    · rw [g4] at h6
      have hr6 : r.length < 6 := (nI_ltI (b := 6) (by omega) (by decide)).mp h6
      rw [g2, gm_nI1]
      have al : ∀ a b, gm_al a b S2 (gm_u (gm_u S2 0 18 0) 0 17 (nI (gq_pre ch 20 i + 1))) := fun a b => (gm_u_al (by omega)).trans (gm_u_al (by omega))
      have row : ∀ j k, k ≠ 0 → gm_u (gm_u S2 0 18 0) 0 17 (nI (gq_pre ch 20 i + 1)) k j = S2 k j := fun j k hk => by rw [gm_u_at, if_neg (by omega), gm_u_at, if_neg (by omega)]
      refine gm_goesIn (i := gq_pre ch 20 i + 1) (e := e) (r := (c, s, ss, is', br, i, gq_pre ch 20 i) :: r) ((g1.u (by omega)).u (by omega)) ?_ ?_ ?_ (by simp; omega) ?_ ⟨gm_lv_al g7 (al _ _), ?_, ?_, ?_, ?_, ?_, hpre.1, by omega, gm_R_al g11 (al _ _) (fun j hj => ?_)⟩ ?_ (by omega) g14 (fun S3 hB3 => gb_readItem_157 (gb_read_89 (K hr6 S3 hB3)))
      · rw [gm_u_at, if_pos ⟨rfl, rfl⟩]
      · rw [gm_u_at, if_neg (by omega), gm_u_at, if_pos ⟨rfl, rfl⟩]
      · rw [gm_u_at, if_neg (by omega), gm_u_at, if_neg (by omega), g4]
        exact (pk_m1 r.length).symm
      · rw [row _ _ (by omega)]; exact g6
      · rw [row _ _ (by omega)]; exact g8
      · rw [row _ _ (by omega)]; exact g9
      · rw [row _ _ (by omega)]; exact g10
      · rw [row _ _ (by omega)]; exact h18
      · rw [row _ _ (by omega)]; exact h19
      · rw [row _ _ (by omega), row _ _ (by omega), row _ _ (by omega), row _ _ (by omega), row _ _ (by omega)]
        exact ⟨rfl, rfl, rfl, rfl, rfl⟩
      · simp only [gm_pd]
        omega
    · rw [gm_u_at, if_neg (by omega), gm_u_at, if_pos ⟨rfl, rfl⟩]
      decide
  refine gb_readItem_73 ⟨fun h => gb_readItem_99 (gb_readItem_100 ⟨fun _ => go none, fun h' => ?_⟩), fun h => ?_⟩
  · rcases hc with hc | hc
    · exact absurd (by rw [hc]; rfl) h'
    · exact absurd (by rw [hc.1]; rfl) h
  · have h123 : ch (gq_pre ch 20 i) = 123 := (nI_eq (b := 123) (by omega) (by decide)).mp h
    have h125 : ch (gq_pre ch 20 i + 1) ≠ 125 := by
      rcases hc with hc | hc
      · omega
      · exact hc.2
    rw [g2, gm_nI1]
    refine gm_look hlS (by omega) (gb_readItem_90 ⟨fun _ => gb_readItem_99 (gb_readItem_100 ⟨fun _ => go none, fun _ => ⟨fun h' => absurd (by rw [h123]; rfl) h', fun _ => go none⟩⟩), fun h' => absurd ((nI_eq (b := 125) (by omega) (by decide)).mp h') h125⟩)
/-- how brackets are read inside k more -/
def gq_sub (ch : Nat → Nat) : Nat → Option (Nat → Option (gt_T × Nat))
  | 0 => none
  | k + 1 => some (gq ch k)
theorem gq_eq (ch : Nat → Nat) (k : Nat) : gq ch k = gq_one ch (gq_sub ch k) := by cases k <;> rfl
theorem gq_sub_ok (hz : ∀ k, nn ≤ k → ch k = 0) (k : Nat) : ∀ g, gq_sub ch k = some g → ∀ i t q, g i = some (t, q) → gq_ok ch nn i t q := fun g hg i t q h => by
  cases k with
  | zero => cases hg
  | succ k =>
    cases hg
    exact (gq_all_ok hz k i t q h).1
/-- a choice, as the model reads it -/
theorem gm_choice (hl : gm_ln S0 nn ch) : ∀ (k : Nat) (r : List gm_Lv) (c br : Nat), r.length + k = 6 → br ≤ 126 → ∀ (S : Nat → Nat → Int32) (i s e : Nat), gm_B S0 S i c s [] [] br r e nn → 2 ≤ i → (gq ch k i = none → ∀ S', gm_eqP S0 S' → Q (.inl (some (.int 0)), gm_h S')) →
    (∀ S' s' ss' is' e' q, gq ch k i = some (gt_w 10 (gt_chs (ss'.map Prod.fst ++ [gt_w 9 (gt_seqs (is'.map Prod.fst))])), q) → gm_B S0 S' q c s' ss' is' br r e' nn → is' ≠ [] → gq_fin (ch q) = true → ch q ≠ 47 → gm_Post d bc bs Q S') → gm_Pre d bc bs Q S := by
  have hz := hl.2.2.2
  have hnn := hl.2.1
  have cc : ∀ j, ch j < 127 := fun j => by
    by_cases h : j < nn
    · have := (hl.2.2.1 j h).2; omega
    · rw [hl.2.2.2 j (by omega)]; decide
  have pre0 : ∀ j, gq_look (ch j) = false → gq_pre ch 20 j = j := fun j h => by
    show (if gq_look (ch j) then gq_pre ch 19 (j + 1) else j) = j
    rw [h]; rfl
  -- one level, where those within are right
  have body : ∀ (k : Nat) (r : List gm_Lv) (c br : Nat), r.length + k = 6 → br ≤ 126 →
      (∀ k', k = k' + 1 → ∀ (r : List gm_Lv) (c br : Nat), r.length + k' = 6 → br ≤ 126 → ∀ (S : Nat → Nat → Int32) (i s e : Nat), gm_B S0 S i c s [] [] br r e nn → 2 ≤ i → (gq ch k' i = none → ∀ S', gm_eqP S0 S' → Q (.inl (some (.int 0)), gm_h S')) →
        (∀ S' s' ss' is' e' q, gq ch k' i = some (gt_w 10 (gt_chs (ss'.map Prod.fst ++ [gt_w 9 (gt_seqs (is'.map Prod.fst))])), q) → gm_B S0 S' q c s' ss' is' br r e' nn → is' ≠ [] → gq_fin (ch q) = true → ch q ≠ 47 → gm_Post d bc bs Q S') → gm_Pre d bc bs Q S) →
      ∀ (S : Nat → Nat → Int32) (i s e : Nat), gm_B S0 S i c s [] [] br r e nn → 2 ≤ i → (gq ch k i = none → ∀ S', gm_eqP S0 S' → Q (.inl (some (.int 0)), gm_h S')) →
        (∀ S' s' ss' is' e' q, gq ch k i = some (gt_w 10 (gt_chs (ss'.map Prod.fst ++ [gt_w 9 (gt_seqs (is'.map Prod.fst))])), q) → gm_B S0 S' q c s' ss' is' br r e' nn → is' ≠ [] → gq_fin (ch q) = true → ch q ≠ 47 → gm_Post d bc bs Q S') → gm_Pre d bc bs Q S := by
    intro k r c br hrk hbr hsub
    have hf : (gq_sub ch k).isSome = true ↔ r.length < 6 := by
      cases k with
      | zero => exact ⟨(fun h => by cases h), fun h => by omega⟩
      | succ k => exact ⟨fun _ => by omega, fun _ => rfl⟩
    have hiok : ∀ i t q, gq_item ch (gq_sub ch k) i = some (t, q) → gq_ok ch nn i t q := fun i t q h => gq_item_ok hz (gq_sub_ok hz k) h
    -- an item
    have item : ∀ (S : Nat → Nat → Int32) (i s e : Nat) (ss is' : List (gt_T × Nat)), gm_B S0 S i c s ss is' br r e nn → 2 ≤ i → (i < nn ∨ r ≠ [] ∨ is' = []) → (gq_item ch (gq_sub ch k) i = none → ∀ S', gm_eqP S0 S' → Q (.inl (some (.int 0)), gm_h S')) → (∀ t q S' e' n', gq_item ch (gq_sub ch k) i = some (t, q) → gm_B S0 S' q c s ss (is' ++ [(t, n')]) br r e' nn → gm_Post d bc bs Q S') → gm_Pre d bc bs Q S := by
      intro S i s e ss is' hB hi2 ho hF K
      by_cases hi : i < nn
      · by_cases hc : ch (gq_pre ch 20 i) = 40 ∨ ch (gq_pre ch 20 i) = 123 ∧ ch (gq_pre ch 20 i + 1) ≠ 125
        · have hno : gq_atom ch (gq_sub ch k) (gq_pre ch 20 i) = none → ∀ S', gm_eqP S0 S' → Q (.inl (some (.int 0)), gm_h S') := fun h => hF (by unfold gq_item; rw [h])
          refine gm_item_bracket hl (fun hr6 => hno ?_) hB hi hc (fun hr6 S' hB' => ?_)
          · have hk0 : k = 0 := by omega
            subst hk0
            unfold gq_atom
            rcases hc with h40 | ⟨h123, h125⟩
            · rw [if_pos h40]; rfl
            · rw [if_neg (by omega), if_pos h123]; rfl
          obtain ⟨k', rfl⟩ : ∃ k', k = k' + 1 := ⟨k - 1, by omega⟩
          have hpre := (gq_pre_ok (ch := ch) 20 i).1
          refine hsub k' rfl _ _ _ (by simp; omega) (by have := cc (gq_pre ch 20 i); omega) S' _ _ _ hB' (by omega) (fun hqn => hno ?_) (fun S2 s2 ss2 is2 e2 q hq hB2 hne hfin h47 => ?_)
          · unfold gq_atom
            rcases hc with h40 | ⟨h123, h125⟩
            · simp only [h40, if_true, gq_sub, hqn]
            · have h40 : ¬ ch (gq_pre ch 20 i) = 40 := by omega
              simp only [h123, h125, if_true, if_false, gq_sub, hqn, show ¬ (123 : Nat) = 40 by decide]
          by_cases hcl : ch q = (if ch (gq_pre ch 20 i) = 40 then 41 else 125)
          · refine gm_post_close hl hB2 hne (hc.imp_right (fun h => h.1)) hcl (fun S3 e3 n3 hB3 => K _ _ S3 e3 n3 ?_ hB3)
            have hat : gq_atom ch (gq_sub ch (k' + 1)) (gq_pre ch 20 i) = some ((if ch (gq_pre ch 20 i) = 40 then gt_w 10 (gt_chs (ss2.map Prod.fst ++ [gt_w 9 (gt_seqs (is2.map Prod.fst))])) else gt_cap (gt_w 10 (gt_chs (ss2.map Prod.fst ++ [gt_w 9 (gt_seqs (is2.map Prod.fst))])))), q + 1) := by
              unfold gq_atom
              rcases hc with h40 | ⟨h123, h125⟩
              · rw [if_pos h40] at hcl
                simp only [h40, if_true, gq_sub, hq, hcl]
              · have h40 : ¬ ch (gq_pre ch 20 i) = 40 := by omega
                rw [if_neg h40] at hcl
                simp only [h123, h125, if_true, if_false, gq_sub, hq, hcl, show ¬ (123 : Nat) = 40 by decide]
            unfold gq_item
            rw [hat]
          · have hmis : gq_atom ch (gq_sub ch (k' + 1)) (gq_pre ch 20 i) = none := by
              unfold gq_atom
              rcases hc with h40 | ⟨h123, h125⟩
              · rw [if_pos h40] at hcl
                simp only [h40, if_true, gq_sub, hq, hcl, if_false]
              · have h40 : ¬ ch (gq_pre ch 20 i) = 40 := by omega
                rw [if_neg h40] at hcl
                simp only [h123, h125, if_true, if_false, gq_sub, hq, hcl, show ¬ (123 : Nat) = 40 by decide]
            have hfe := hno hmis
            have hbr2 : ch (gq_pre ch 20 i) ≤ 126 := by have := cc (gq_pre ch 20 i); omega
            refine gm_post_out hl hB2 hbr2 (.inr hcl) (gm_post_next hl hB2 h47 ?_)
            by_cases hqn : q < nn
            · have h0 := (hl.2.2.1 q hqn).2
              have hor : ch q = 41 ∨ ch q = 125 := by
                have : ch q = 0 ∨ ch q = 47 ∨ ch q = 41 ∨ ch q = 125 := by simpa [gq_fin] using hfin
                omega
              have hlk : gq_look (ch q) = false := by rcases hor with h | h <;> rw [h] <;> rfl
              have hp0 := pre0 q hlk
              refine gm_item_simple (f := gq_sub ch k') hl (fun _ => hfe) hB2 hqn ?_ (by rw [hp0]; omega) (fun h => by rw [hp0] at h; omega) (fun t2 q2 S3 e3 n3 hit _ => ?_)
              · cases k' with
                | zero => exact ⟨(fun h => by cases h), fun h => by simp at h; omega⟩
                | succ k' => exact ⟨fun _ => by simp; omega, fun _ => rfl⟩
              · exfalso
                unfold gq_item at hit
                rw [hp0] at hit
                have hnone : gq_atom ch (gq_sub ch k') q = none := by
                  unfold gq_atom
                  rcases hor with h | h <;> rw [h] <;> rfl
                rw [hnone] at hit
                cases hit
            · exact gm_end_open hl hfe hB2 (by omega) (.inl (by simp))
        · refine gm_item_simple (f := gq_sub ch k) hl hF hB hi hf (fun h => hc (.inl h)) (fun h => ?_) K
          by_cases h125 : ch (gq_pre ch 20 i + 1) = 125
          · exact h125
          · exact absurd (.inr ⟨h, h125⟩) hc
      · have hlk : gq_look (ch i) = false := by rw [hz i (by omega)]; rfl
        have hp0 := pre0 i hlk
        refine gm_end_open hl (hF ?_) hB (by omega) (ho.resolve_left hi)
        unfold gq_item
        rw [hp0]
        have hnone : gq_atom ch (gq_sub ch k) i = none := by
          unfold gq_atom
          rw [hz i (by omega)]
          rfl
        rw [hnone]
    -- a sequence
    have sq : ∀ (fuel : Nat) (S : Nat → Nat → Int32) (i s e : Nat) (ss is' : List (gt_T × Nat)), nn < i + fuel → gm_B S0 S i c s ss is' br r e nn → 2 ≤ i → (i < nn ∨ r ≠ [] ∨ is' = []) → (gq_seq ch (gq_item ch (gq_sub ch k)) fuel i = none → ∀ S', gm_eqP S0 S' → Q (.inl (some (.int 0)), gm_h S')) → (∀ t q S' is2 e', gq_seq ch (gq_item ch (gq_sub ch k)) fuel i = some (t, q) → gm_B S0 S' q c s ss is2 br r e' nn → is2 ≠ [] → (is'.map Prod.fst).foldr (fun a b => gt_seq a b) t = gt_seqs (is2.map Prod.fst) → gq_fin (ch q) = true → gm_Post d bc bs Q S') → gm_Pre d bc bs Q S := by
      intro fuel
      induction fuel with
      | zero =>
        intro S i s e ss is' hfu hB
        have := hB.2.2.2.2.2.2.2.2.2.2.2.2.1
        omega
      | succ fuel ih =>
        intro S i s e ss is' hfu hB hi2 ho hF K
        refine item S i s e ss is' hB hi2 ho (fun hn => hF (by unfold gq_seq; rw [hn])) (fun t q S' e' n' hit hB' => ?_)
        have hok := hiok i t q hit
        cases hfin : gq_fin (ch q) with
        | true =>
          refine K t q S' _ e' ?_ hB' (by simp) ?_ hfin
          · unfold gq_seq
            rw [hit]
            simp only [hfin, if_true]
          · rw [List.map_append]
            exact (gt_seqs_foldr t _).symm
        | false =>
          have hnf : ch q ≠ 0 ∧ ch q ≠ 47 ∧ ch q ≠ 41 ∧ ch q ≠ 125 := by simpa [gq_fin] using hfin
          refine gm_post_out hl hB' hbr (.inr (by split <;> omega)) (gm_post_next hl hB' hnf.2.1 ?_)
          have hqn : q < nn := Nat.lt_of_not_le fun hn => hnf.1 (hz q hn)
          refine ih S' q s e' ss _ (by have := hok.1; omega) hB' (by have := hok.1; omega) (.inl hqn) (fun hn => hF (by unfold gq_seq; rw [hit]; simp only [hfin, hn]; rfl)) (fun t2 q2 S2 is2 e2 hsq hB2 hne hfold hfin2 => K (gt_seq t t2) q2 S2 is2 e2 ?_ hB2 hne ?_ hfin2)
          · unfold gq_seq
            rw [hit]
            simp only [hfin, hsq]
            rfl
          · rw [← hfold, List.map_append, List.foldr_append]
            rfl
    -- the sequences
    have chs : ∀ (fuel : Nat) (S : Nat → Nat → Int32) (i s e : Nat) (ss : List (gt_T × Nat)), nn < i + fuel → gm_B S0 S i c s ss [] br r e nn → 2 ≤ i → (gq_chs ch (gq_seq ch (gq_item ch (gq_sub ch k)) 21) fuel i = none → ∀ S', gm_eqP S0 S' → Q (.inl (some (.int 0)), gm_h S')) → (∀ t q S' s' ss' is' e', gq_chs ch (gq_seq ch (gq_item ch (gq_sub ch k)) 21) fuel i = some (t, q) → gm_B S0 S' q c s' ss' is' br r e' nn → is' ≠ [] → (ss.map Prod.fst).foldr (fun a b => gt_ch a b) t = gt_chs (ss'.map Prod.fst ++ [gt_w 9 (gt_seqs (is'.map Prod.fst))]) → gq_fin (ch q) = true → ch q ≠ 47 → gm_Post d bc bs Q S') → gm_Pre d bc bs Q S := by
      intro fuel
      induction fuel with
      | zero =>
        intro S i s e ss hfu hB
        have := hB.2.2.2.2.2.2.2.2.2.2.2.2.1
        omega
      | succ fuel ih =>
        intro S i s e ss hfu hB hi2 hF K
        refine sq 21 S i s e ss [] (by omega) hB hi2 (.inr (.inr rfl)) (fun hn => hF (by unfold gq_chs; rw [hn])) (fun t q S' is2 e' hsq hB' hne hfold hfin => ?_)
        have hok := gq_seq_ok (ch := ch) (n := nn) hiok 21 i t q hsq
        have hfold : t = gt_seqs (is2.map Prod.fst) := hfold
        by_cases h47 : ch q = 47
        · refine gm_post_out hl hB' hbr (.inr (by rw [h47]; split <;> decide)) (gm_post_slash hl (fun hge => hF ?_) hB' hne h47 (fun S2 hB2 hqn => ?_))
          · have hq1 : nn ≤ q + 1 := by omega
            have hnone : gq_chs ch (gq_seq ch (gq_item ch (gq_sub ch k)) 21) fuel (q + 1) = none := by
              cases fuel with
              | zero => rfl
              | succ fuel =>
                have hp0 := pre0 (q + 1) (by rw [hz (q + 1) hq1]; rfl)
                have hat : gq_atom ch (gq_sub ch k) (q + 1) = none := by
                  unfold gq_atom
                  rw [hz (q + 1) hq1]
                  rfl
                have hit : gq_item ch (gq_sub ch k) (q + 1) = none := by unfold gq_item; rw [hp0, hat]
                have hs : gq_seq ch (gq_item ch (gq_sub ch k)) (20 + 1) (q + 1) = none := by unfold gq_seq; rw [hit]
                unfold gq_chs
                rw [hs]
            unfold gq_chs
            rw [hsq]
            simp only [h47, if_true, hnone]
          refine ih S2 (q + 1) e' (e' + 1) _ (by have := hok.1.1; omega) hB2 (by have := hok.1.1; omega) (fun hn => hF (by unfold gq_chs; rw [hsq]; simp only [h47, if_true, hn])) (fun t2 q2 S3 s3 ss3 is3 e3 hch hB3 hne3 hfold3 hfin3 h473 => K (gt_ch (gt_w 9 t) t2) q2 S3 s3 ss3 is3 e3 ?_ hB3 hne3 ?_ hfin3 h473)
          · unfold gq_chs
            rw [hsq]
            simp only [h47, if_true, hch]
          · rw [← hfold3, List.map_append, List.foldr_append, hfold]
            rfl
        · refine K (gt_w 9 t) q S' s ss is2 e' ?_ hB' hne ?_ hfin h47
          · unfold gq_chs
            rw [hsq]
            simp only [h47, if_false]
          · rw [gt_chs_foldr, hfold]
    intro S i s e hB hi2 hF K
    refine chs 21 S i s e [] (by omega) hB hi2 (fun hn => hF (by rw [gq_eq]; unfold gq_one; rw [hn])) (fun t q S' s' ss' is' e' hch hB' hne hfold hfin h47 => K S' s' ss' is' e' q ?_ hB' hne hfin h47)
    rw [gq_eq]
    unfold gq_one
    rw [hch]
    have hfold : t = gt_chs (ss'.map Prod.fst ++ [gt_w 9 (gt_seqs (is'.map Prod.fst))]) := hfold
    rw [hfold]
  intro k
  induction k with
  | zero => exact fun r c br hrk hbr => body 0 r c br hrk hbr (fun k' h => by cases h)
  | succ k ihk => exact fun r c br hrk hbr => body (k + 1) r c br hrk hbr (fun k' h => by cases h; exact ihk)
end GBF
