/-! The model reads a line: from the place of an item to behind it. -/
section GBE
variable {S S' S0 : Nat → Nat → Int32} {d bc bs : Nat} {Q : gx_R → Prop} {ch : Nat → Nat} {nn : Nat}
/-- read's loop, before an item -/
abbrev gm_Pre (d bc bs : Nat) (Q : gx_R → Prop) (S : Nat → Nat → Int32) : Prop := gx_X gm_P (d + 6) 18 (67, [some (.ref 0)], [], gm_h S, bc, bs) Q
abbrev gm_QI (d bc bs : Nat) (Q : gx_R → Prop) : gx_R → Prop := gx_k [some (.ref 0)] [] 89 bc bs (fun S9 => gx_X gm_P (d + 6) 18 S9 Q) Q
/-- behind an item: closeAll's loop -/
abbrev gm_Post (d bc bs : Nat) (Q : gx_R → Prop) (S : Nat → Nat → Int32) : Prop := ∀ (o1 o2 o3 o4 : Option Value), gx_X gm_P (d + 4) 16 (0, [some (.ref 0), o4], [], gm_h S, 0, 0) (gx_k [some (.ref 0), o1, o2, o3] [] 193 0 0 (fun S9 => gx_X gm_P (d + 5) 17 S9 (gm_QI d bc bs Q)) (gm_QI d bc bs Q))
theorem gm_B.at {i i' c s br e : Nat} {ss is' : List (gt_T × Nat)} {r : List gm_Lv} (h : gm_B S0 S i c s ss is' br r e nn) (hi : i ≤ i') (hi' : i' ≤ nn) : gm_B S0 (gm_u S 0 17 (nI i')) i' c s ss is' br r e nn := by
  obtain ⟨g1, g2, g3, g4, g5, g6, g7, g8, g9, g10, g11, g12, g13, g14⟩ := h
  refine ⟨g1.u (by omega), ?_, ?_, ?_, g5, ?_, gm_lv_al g7 (gm_u_al (by omega)), ?_, ?_, ?_, gm_R_al g11 (gm_u_al (by omega)) (fun j hj => ?_), by omega, hi', g14⟩
  · rw [gm_u_at, if_pos ⟨rfl, rfl⟩]
  · rw [gm_u_at, if_neg (by omega)]; exact g3
  · rw [gm_u_at, if_neg (by omega)]; exact g4
  · rw [gm_u_at, if_neg (by omega)]; exact g6
  · rw [gm_u_at, if_neg (by omega)]; exact g8
  · rw [gm_u_at, if_neg (by omega)]; exact g9
  · rw [gm_u_at, if_neg (by omega)]; exact g10
  · refine ⟨?_, ?_, ?_, ?_, ?_⟩ <;> rw [gm_u_at, if_neg (by omega)]
theorem gm_B.u1819 {i c s br e k : Nat} {v : Int32} {ss is' : List (gt_T × Nat)} {r : List gm_Lv} (h : gm_B S0 S i c s ss is' br r e nn) (hk : k = 18 ∨ k = 19) : gm_B S0 (gm_u S k r.length v) i c s ss is' br r e nn := by
  obtain ⟨g1, g2, g3, g4, g5, g6, g7, g8, g9, g10, g11, g12, g13, g14⟩ := h
  refine ⟨g1.u (by omega), ?_, ?_, ?_, g5, ?_, gm_lv_al g7 (gm_u_al (by omega)), ?_, ?_, ?_, gm_R_al g11 (gm_u_al (by omega)) (fun j hj => ?_), g12, g13, g14⟩
  · rw [gm_u_at, if_neg (by omega)]; exact g2
  · rw [gm_u_at, if_neg (by omega)]; exact g3
  · rw [gm_u_at, if_neg (by omega)]; exact g4
  · rw [gm_u_at, if_neg (by omega)]; exact g6
  · rw [gm_u_at, if_neg (by omega)]; exact g8
  · rw [gm_u_at, if_neg (by omega)]; exact g9
  · rw [gm_u_at, if_neg (by omega)]; exact g10
  · refine ⟨?_, ?_, ?_, ?_, ?_⟩ <;> rw [gm_u_at, if_neg (by omega)]
theorem gm_B.u18 {i c s br e : Nat} {ss is' : List (gt_T × Nat)} {r : List gm_Lv} (h : gm_B S0 S i c s ss is' br r e nn) : gm_B S0 (gm_u S 0 18 0) i c s ss is' br r e nn := by
  obtain ⟨g1, g2, g3, g4, g5, g6, g7, g8, g9, g10, g11, g12, g13, g14⟩ := h
  refine ⟨g1.u (by omega), ?_, ?_, ?_, g5, ?_, gm_lv_al g7 (gm_u_al (by omega)), ?_, ?_, ?_, gm_R_al g11 (gm_u_al (by omega)) (fun j hj => ?_), g12, g13, g14⟩
  · rw [gm_u_at, if_neg (by omega)]; exact g2
  · rw [gm_u_at, if_pos ⟨rfl, rfl⟩]
  · rw [gm_u_at, if_neg (by omega)]; exact g4
  · rw [gm_u_at, if_neg (by omega)]; exact g6
  · rw [gm_u_at, if_neg (by omega)]; exact g8
  · rw [gm_u_at, if_neg (by omega)]; exact g9
  · rw [gm_u_at, if_neg (by omega)]; exact g10
  · refine ⟨?_, ?_, ?_, ?_, ?_⟩ <;> rw [gm_u_at, if_neg (by omega)]
theorem gm_M.u18 {i c s br e0 e n pf pt pn : Nat} {ss is' : List (gt_T × Nat)} {r : List gm_Lv} {t : gt_T} (h : gm_M S0 S i c s ss is' br r e0 e t n pf pt pn nn) : gm_M S0 (gm_u S 0 18 0) i c s ss is' br r e0 e t n pf pt pn nn := by
  obtain ⟨g1, g2, g3, g4, g5, g6, g7, g8, g9, g10, g11, g12, g13, g14, g15, g16, g17, g18, g19, g20, g21, g22⟩ := h
  refine ⟨g1.u (by omega), ?_, ?_, ?_, g5, ?_, gm_lv_al g7 (gm_u_al (by omega)), ?_, ?_, ?_, gm_R_al g11 (gm_u_al (by omega)) (fun j hj => ?_), g12, g13, g14, ?_, ?_, g17, g18, (gm_u_al (by omega)).iv g19, ?_, g21, g22⟩
  · rw [gm_u_at, if_neg (by omega)]; exact g2
  · rw [gm_u_at, if_pos ⟨rfl, rfl⟩]
  · rw [gm_u_at, if_neg (by omega)]; exact g4
  · rw [gm_u_at, if_neg (by omega)]; exact g6
  · rw [gm_u_at, if_neg (by omega)]; exact g8
  · rw [gm_u_at, if_neg (by omega)]; exact g9
  · rw [gm_u_at, if_neg (by omega)]; exact g10
  · refine ⟨?_, ?_, ?_, ?_, ?_⟩ <;> rw [gm_u_at, if_neg (by omega)]
  · rw [gm_u_at, if_neg (by omega)]; exact g15
  · rw [gm_u_at, if_neg (by omega)]; exact g16
  · rw [gm_u_at, if_neg (by omega)]; exact g20
/-- it ends: the line defines nothing -/
theorem gm_end_bad (hfe : ∀ S', gm_eqP S0 S' → Q (.inl (some (.int 0)), gm_h S')) (h1 : gm_eqP S0 S) (h18 : ¬ S 0 18 = 0) : gm_Pre d bc bs Q S :=
  gb_read_67 ⟨fun _ => gb_read_92 ⟨fun _ => gb_read_124 (gb_read_125 ⟨rfl, hfe S h1⟩), fun h => absurd h h18⟩, fun h => absurd h h18⟩
theorem gm_end_open (hl : gm_ln S0 nn ch) (hfe : ∀ S', gm_eqP S0 S' → Q (.inl (some (.int 0)), gm_h S')) {i c s br e : Nat} {ss is' : List (gt_T × Nat)} {r : List gm_Lv} (h : gm_B S0 S i c s ss is' br r e nn) (hi : nn ≤ i) (ho : r ≠ [] ∨ is' = []) : gm_Pre d bc bs Q S := by
  obtain ⟨g1, g2, g3, g4, g5, g6, g7, g8, g9, g10, g11, g12, g13, g14⟩ := h
  have hlS := gm_ln_eqP g1 hl
  have hle := gm_lv_le g7
  have hR := gm_R_le g11
  refine gb_read_67 ⟨fun h => absurd g3 h, fun _ => ⟨fun _ => gb_read_92 ⟨fun h => absurd g3 h, fun _ => ⟨fun _ => gb_read_124 (gb_read_125 ⟨rfl, hfe S g1⟩), fun h0 => ?_⟩⟩, fun h => ?_⟩⟩
  · rw [g4] at h0
    have hr : r.length = 0 := (nI_eq (b := 0) (by omega) (by decide)).mp h0
    rw [hr] at g9
    have hr' : r = [] := List.length_eq_zero_iff.mp hr
    have hi0 : is' = [] := ho.resolve_left (fun h => h hr')
    have h8 := g7.2.2.2.2.2.2.2.1 hi0
    rw [g9, nI_clamp (show s < 2 ^ 31 by omega)]
    exact ⟨vp_in_nI (by omega) (by decide), fun _ => gb_read_124 (gb_read_125 ⟨rfl, hfe S g1⟩), fun h => absurd h8 h⟩
  · rw [g2, hlS.1] at h
    have := (nI_ltI (by omega) (by omega)).mp h
    omega
/-- behind an item nothing is closed -/
theorem gm_post_out (hl : gm_ln S0 nn ch) {i c s br e : Nat} {ss is' : List (gt_T × Nat)} {r : List gm_Lv} (h : gm_B S0 S i c s ss is' br r e nn) (hbr : br ≤ 126) (hno : r = [] ∨ ch i ≠ (if br = 40 then 41 else 125))
    (K : ∀ o1 o2 o3 : Option Value, gx_X gm_P (d + 5) 17 (193, [some (.ref 0), o1, o2, o3], [], gm_h S, 0, 0) (gm_QI d bc bs Q)) : gm_Post d bc bs Q S := by
  intro o1 o2 o3 o4
  obtain ⟨g1, g2, g3, g4, g5, g6, g7, g8, g9, g10, g11, g12, g13, g14⟩ := h
  have hlS := gm_ln_eqP g1 hl
  have chlt : ∀ j, ch j < 127 := fun j => by
    by_cases h : j < nn
    · have := (hl.2.2.1 j h).2; omega
    · rw [hl.2.2.2 j (by omega)]; decide
  have cc := chlt i
  refine gb_closeAll_0 ⟨fun _ => gb_closeAll_102 (K o1 o2 o3), fun h0 => ?_⟩
  rw [g4] at h0
  have hr : 0 < r.length := (nI_ltI (a := 0) (by decide) (by omega)).mp h0
  have hne : ch i ≠ (if br = 40 then 41 else 125) := hno.resolve_left (fun h => by rw [h] at hr; exact absurd hr (by decide))
  rw [g2]
  refine gm_look hlS (by omega) (gb_closeAll_15 ?_)
  rw [g4, nI_clamp (show r.length < 2 ^ 31 by omega), g10]
  refine ⟨vp_in_nI (by omega) (by decide), fun hb => gb_closeAll_36 ⟨fun _ => gb_closeAll_102 (K o1 o2 o3), fun h => ?_⟩, fun hb => gb_closeAll_36 ⟨fun _ => gb_closeAll_102 (K o1 o2 o3), fun h => ?_⟩⟩
  · have hb : br ≠ 40 := fun e => hb (by rw [e]; rfl)
    rw [if_neg hb] at hne
    exact absurd ((nI_eq (b := 125) (by omega) (by decide)).mp h) hne
  · have hb : br = 40 := (nI_eq (b := 40) (by omega) (by decide)).mp hb
    rw [if_pos hb] at hne
    exact absurd ((nI_eq (b := 41) (by omega) (by decide)).mp h) hne
/-- and there is no / : the next item -/
theorem gm_post_next (hl : gm_ln S0 nn ch) {i c s br e : Nat} {ss is' : List (gt_T × Nat)} {r : List gm_Lv} (h : gm_B S0 S i c s ss is' br r e nn) (h47 : ch i ≠ 47) (K : gm_Pre d bc bs Q S) (o1 o2 o3 : Option Value) :
    gx_X gm_P (d + 5) 17 (193, [some (.ref 0), o1, o2, o3], [], gm_h S, 0, 0) (gm_QI d bc bs Q) := by
  obtain ⟨g1, g2, g3, g4, g5, g6, g7, g8, g9, g10, g11, g12, g13, g14⟩ := h
  have hlS := gm_ln_eqP g1 hl
  have cc : ch i < 127 := by
    by_cases h : i < nn
    · have := (hl.2.2.1 i h).2; omega
    · rw [hl.2.2.2 i (by omega)]; decide
  refine gb_readItem_193 ?_
  rw [g2]
  refine gm_look hlS (by omega) (gb_readItem_201 ⟨fun _ => gb_readItem_240 (gb_read_89 K), fun h => ?_⟩)
  exact absurd ((nI_eq (b := 47) (by omega) (by decide)).mp h) h47
/-- there is / : the next sequence -/
theorem gm_post_slash (hl : gm_ln S0 nn ch) {i c s br e : Nat} {ss is' : List (gt_T × Nat)} {r : List gm_Lv} (hfe : ¬ i + 1 < nn → ∀ S', gm_eqP S0 S' → Q (.inl (some (.int 0)), gm_h S')) (h : gm_B S0 S i c s ss is' br r e nn) (hne : is' ≠ []) (h47 : ch i = 47)
    (K : ∀ S', gm_B S0 S' (i + 1) c e (ss ++ [(gt_w 9 (gt_seqs (is'.map Prod.fst)), s)]) [] br r (e + 1) nn → i + 1 < nn → gm_Pre d bc bs Q S') (o1 o2 o3 : Option Value) :
    gx_X gm_P (d + 5) 17 (193, [some (.ref 0), o1, o2, o3], [], gm_h S, 0, 0) (gm_QI d bc bs Q) := by
  obtain ⟨g1, g2, g3, g4, g5, g6, g7, g8, g9, g10, g11, g12, g13, g14⟩ := id h
  have hlS := gm_ln_eqP g1 hl
  have hi : i < nn := Nat.lt_of_not_le fun hn => by rw [hl.2.2.2 i hn] at h47; exact absurd h47 (by decide)
  refine gb_readItem_193 ?_
  rw [g2]
  refine gm_look hlS (by omega) (gb_readItem_201 ⟨fun h => absurd (by rw [h47]; rfl) h, fun _ => ?_⟩)
  rw [g2, gm_nI1]
  refine gm_newSeq h hne hi (fun S' hB => gb_readItem_220 ?_)
  have hlS' := gm_ln_eqP hB.1 hl
  rw [hB.2.1, hlS'.1]
  refine ⟨fun hlt => gb_readItem_237 ⟨⟨rfl, rfl⟩, gb_readItem_240 (gb_read_89 (K _ hB.u18 ?_))⟩, fun hge => gb_readItem_237 ⟨⟨rfl, rfl⟩, gb_readItem_240 (gb_read_89 (gm_end_bad (hfe (fun z => hge (nI_lt z (by omega)))) (hB.1.u (by omega)) ?_))⟩⟩
  · exact (nI_ltI (by omega) (by omega)).mp hlt
  · rw [gm_u_at, if_pos ⟨rfl, rfl⟩]
    decide
/-- a bracket is closed: its choice is an item of the one around it -/
theorem gm_post_close (hl : gm_ln S0 nn ch) {i c s br e c0 s0 br0 pf pt : Nat} {ss is' ss0 is0 : List (gt_T × Nat)} {r : List gm_Lv} (h : gm_B S0 S i c s ss is' br ((c0, s0, ss0, is0, br0, pf, pt) :: r) e nn) (hne : is' ≠ []) (hbr : br = 40 ∨ br = 123) (hcl : ch i = (if br = 40 then 41 else 125))
    (K : ∀ S' e' n', gm_B S0 S' (gq_suf ch (if br = 40 then gt_w 10 (gt_chs (ss.map Prod.fst ++ [gt_w 9 (gt_seqs (is'.map Prod.fst))])) else gt_cap (gt_w 10 (gt_chs (ss.map Prod.fst ++ [gt_w 9 (gt_seqs (is'.map Prod.fst))])))) (i + 1)).2 c0 s0 ss0 (is0 ++ [(gq_lk ch (pt - pf) pf (gq_suf ch (if br = 40 then gt_w 10 (gt_chs (ss.map Prod.fst ++ [gt_w 9 (gt_seqs (is'.map Prod.fst))])) else gt_cap (gt_w 10 (gt_chs (ss.map Prod.fst ++ [gt_w 9 (gt_seqs (is'.map Prod.fst))])))) (i + 1)).1, n')]) br0 r e' nn → gm_Post d bc bs Q S') : gm_Post d bc bs Q S := by
  intro o1 o2 o3 o4
  obtain ⟨g1, g2, g3, g4, g5, g6, g7, g8, g9, g10, g11, g12, g13, g14⟩ := id h
  obtain ⟨r1, r2, r3, r4, r5, r6, r7, r8, r9⟩ := g11
  have hlS := gm_ln_eqP g1 hl
  have hle := gm_lv_le g7
  have hle0 := gm_lv_le r1
  have hR := gm_R_le r9
  have hi : i < nn := Nat.lt_of_not_le fun hn => by
    rw [hl.2.2.2 i hn] at hcl
    rcases hbr with h | h <;> rw [h] at hcl <;> exact absurd hcl (by decide)
  simp only [List.length_cons] at g4 g5 g8 g9 g10
  simp only [gm_pd] at g12
  have hch := gm_lv_ch g7 (by omega) hne
  have hrl : (nI (r.length + 1)).toNatClampNeg = r.length + 1 := nI_clamp (by omega)
  have hin : vp_in (nI (r.length + 1)) 8 := vp_in_nI (by omega) (by decide)
  -- the item's state, one level up
  have up : ∀ (S1 : Nat → Nat → Int32) (e1 n1 : Nat) (t1 : gt_T), gm_eqP S0 S1 → S1 0 17 = nI i → S1 0 18 = 0 → S1 0 19 = nI (r.length + 1) → S1 6 4 = nI (e1 - 160) → gm_al 160 c S S1 → (∀ j, 15 ≤ j → j ≤ 19 → S1 j = S j) → (e1 = e ∨ e1 = e + 1) → gm_iv S1 t1 false c e1 n1 → S1 10 n1 < 0 → gt_isl 9 t1 = false → gt_isl 10 t1 = false →
      gm_M S0 (gm_u (gm_u S1 0 17 (nI (i + 1))) 0 19 (nI r.length)) (i + 1) c0 s0 ss0 is0 br0 r c e1 t1 n1 pf pt (pt - pf + 1) nn := fun S1 e1 n1 t1 a1 a2 a3 a4 a5 a6 a7 a8 a9 a10 a11 a12 => by
    refine ⟨(a1.u (by omega)).u (by omega), ?_, ?_, ?_, by omega, ?_, gm_lv_al r1 (((a6.mono (by omega) (Nat.le_refl _)).trans (gm_u_al (by omega))).trans (gm_u_al (by omega))), ?_, ?_, ?_, gm_R_al r9 (((a6.mono (Nat.le_refl _) (by omega)).trans (gm_u_al (by omega))).trans (gm_u_al (by omega))) (fun j hj => ?_), by omega, by omega, g14, ?_, ?_, r7, r8, ((gm_u_al (by omega)).trans (gm_u_al (by omega))).iv a9, ?_, a11, a12⟩
    · rw [gm_u_at, if_neg (by omega), gm_u_at, if_pos ⟨rfl, rfl⟩]
    · rw [gm_u_at, if_neg (by omega), gm_u_at, if_neg (by omega)]; exact a3
    · rw [gm_u_at, if_pos ⟨rfl, rfl⟩]
    · rw [gm_u_at, if_neg (by omega), gm_u_at, if_neg (by omega)]; exact a5
    · rw [gm_u_at, if_neg (by omega), gm_u_at, if_neg (by omega), a7 15 (by omega) (by omega)]; exact r2
    · rw [gm_u_at, if_neg (by omega), gm_u_at, if_neg (by omega), a7 16 (by omega) (by omega)]; exact r3
    · rw [gm_u_at, if_neg (by omega), gm_u_at, if_neg (by omega), a7 17 (by omega) (by omega)]; exact r4
    · refine ⟨?_, ?_, ?_, ?_, ?_⟩
      · rw [gm_u_at, if_neg (by omega), gm_u_at, if_neg (by omega), a7 15 (by omega) (by omega)]
      · rw [gm_u_at, if_neg (by omega), gm_u_at, if_neg (by omega), a7 16 (by omega) (by omega)]
      · rw [gm_u_at, if_neg (by omega), gm_u_at, if_neg (by omega), a7 17 (by omega) (by omega)]
      · rw [gm_u_at, if_neg (by omega), gm_u_at, if_neg (by omega), a7 18 (by omega) (by omega)]
      · rw [gm_u_at, if_neg (by omega), gm_u_at, if_neg (by omega), a7 19 (by omega) (by omega)]
    · rw [gm_u_at, if_neg (by omega), gm_u_at, if_neg (by omega), a7 18 (by omega) (by omega)]; exact r5
    · rw [gm_u_at, if_neg (by omega), gm_u_at, if_neg (by omega), a7 19 (by omega) (by omega)]; exact r6
    · rw [gm_u_at, if_neg (by omega), gm_u_at, if_neg (by omega)]; exact a10
  have cc : ch i < 127 := by have := (hl.2.2.1 i hi).2; omega
  refine gb_closeAll_0 ⟨fun h => absurd (by rw [g4]; exact nI_lt (a := 0) (by omega) (by omega)) h, fun _ => ?_⟩
  rw [g2]
  refine gm_look hlS (by omega) (gb_closeAll_15 ?_)
  rw [g4, hrl, g10]
  have e1 : nI i + 1 = nI (i + 1) := gm_nI1
  have e2 : nI (r.length + 1) - 1 = nI r.length := nI_pred _
  rcases hbr with hb | hb
  · subst hb
    rw [if_pos rfl] at hcl
    simp only [if_true] at K
    refine ⟨hin, fun h => absurd rfl h, fun _ => gb_closeAll_36 ⟨fun h => absurd (by rw [hcl]; rfl) h, fun _ => ?_⟩⟩
    rw [g4, hrl, g10, g8]
    refine ⟨hin, hin, fun _ => gb_closeAll_73 ?_, fun h => absurd h (by decide +kernel)⟩
    rw [g2, g4, e1, e2]
    exact gm_take hl (up S e c _ g1 g2 g3 g4 g6 (fun j _ _ => ⟨rfl, rfl, rfl, rfl, rfl⟩) (fun j _ _ => rfl) (.inl rfl) hch g7.2.2.2.2.2.2.2.2.2.2.2.2 rfl rfl) (fun S' e' n' hB => gb_closeAll_99 (K S' e' n' hB o1 o2 o3 _))
  · subst hb
    rw [if_neg (by decide)] at hcl
    simp only [show ¬ (123 : Nat) = 40 by decide, if_false] at K
    refine ⟨hin, fun _ => gb_closeAll_36 ⟨fun h => absurd (by rw [hcl]; rfl) h, fun _ => ?_⟩, fun h => absurd h (by decide +kernel)⟩
    rw [g4, hrl, g10, g8]
    refine ⟨hin, hin, fun h => absurd rfl h, fun _ => gm_make g6 (by omega) (by omega) (gb_closeAll_69 (gb_closeAll_73 ?_))⟩
    obtain ⟨m1, m2, m3, m4, m5, m6⟩ := gm_mk_at (S := S) (e := e) (k := 3) (w := nI c)
    have k17 : gm_mk S e 3 (nI c) 0 17 = nI i := by rw [gm_mk_row (by omega)]; exact g2
    have k19 : gm_mk S e 3 (nI c) 0 19 = nI (r.length + 1) := by rw [gm_mk_row (by omega)]; exact g4
    rw [k17, k19, e1, e2]
    refine gm_take hl (up (gm_mk S e 3 (nI c)) (e + 1) e (gt_cap (gt_w 10 (gt_chs (ss.map Prod.fst ++ [gt_w 9 (gt_seqs (is'.map Prod.fst))])))) (gm_mk_eqP g1 (by omega)) k17 (by rw [gm_mk_row (by omega)]; exact g3) k19 m6 (gm_mk_al (by omega)) (fun j _ _ => gm_mk_row (by omega)) (.inr rfl) ⟨rfl, (fun h => by cases h), by show gp_n (gm_mk S e 3 (nI c) 7 e) = 3; rw [m1]; rfl, ?_⟩ (by rw [m4]; decide) rfl rfl) (fun S' e' n' hB => gb_closeAll_99 (K S' e' n' hB o1 o2 o3 _))
    show gm_iv (gm_mk S e 3 (nI c)) _ false c e (gp_n (gm_mk S e 3 (nI c) 8 e))
    rw [m2, gp_In (by omega)]
    exact (gm_mk_al (Nat.le_refl _)).iv hch
end GBE
