/-! The model reads a line: take, new sequences, brackets. -/
section GBC
variable {S S' S0 : Nat → Nat → Int32} {d bc bs : Nat} {Q : gx_R → Prop} {ch : Nat → Nat} {nn : Nat}
theorem gm_M.le {i c s br e0 e n pf pt pn pn' : Nat} {ss is' : List (gt_T × Nat)} {r : List gm_Lv} {t : gt_T} (h : gm_M S0 S i c s ss is' br r e0 e t n pf pt pn nn) (hp : pn' ≤ pn) : gm_M S0 S i c s ss is' br r e0 e t n pf pt pn' nn := by
  obtain ⟨g1, g2, g3, g4, g5, g6, g7, g8, g9, g10, g11, g12, g13⟩ := h
  exact ⟨g1, g2, g3, g4, g5, g6, g7, g8, g9, g10, g11, by omega, g13⟩
theorem gm_M.at {i i' c s br e0 e n pf pt pn : Nat} {ss is' : List (gt_T × Nat)} {r : List gm_Lv} {t : gt_T} (h : gm_M S0 S i c s ss is' br r e0 e t n pf pt pn nn) (hi : i ≤ i') (hi' : i' ≤ nn) : gm_M S0 (gm_u S 0 17 (nI i')) i' c s ss is' br r e0 e t n pf pt pn nn := by
  obtain ⟨g1, g2, g3, g4, g5, g6, g7, g8, g9, g10, g11, g12, g13, g14, g15, g16, g17, g18, g19, g20, g21, g22⟩ := h
  have al : ∀ a b, gm_al a b S (gm_u S 0 17 (nI i')) := fun a b j _ _ => by
    refine ⟨?_, ?_, ?_, ?_, ?_⟩ <;> rw [gm_u_at, if_neg (by omega)]
  refine ⟨g1.u (by omega), ?_, ?_, ?_, g5, ?_, gm_lv_al g7 (al _ _), ?_, ?_, ?_, gm_R_al g11 (al _ _) (fun j hj => ?_), by omega, hi', g14, ?_, ?_, g17, by omega, (al _ _).iv g19, ?_, g21, g22⟩
  · rw [gm_u_at, if_pos ⟨rfl, rfl⟩]
  · rw [gm_u_at, if_neg (by omega)]; exact g3
  · rw [gm_u_at, if_neg (by omega)]; exact g4
  · rw [gm_u_at, if_neg (by omega)]; exact g6
  · rw [gm_u_at, if_neg (by omega)]; exact g8
  · rw [gm_u_at, if_neg (by omega)]; exact g9
  · rw [gm_u_at, if_neg (by omega)]; exact g10
  · simp only [gm_u_at]
    simp
  · rw [gm_u_at, if_neg (by omega)]; exact g15
  · rw [gm_u_at, if_neg (by omega)]; exact g16
  · rw [gm_u_at, if_neg (by omega)]; exact g20
theorem gm_nI1 {n : Nat} : nI n + 1 = nI (n + 1) := nI_1 n
/-- & and ! are put before an item -/
theorem gm_pref (hl : gm_ln S0 nn ch) {i c s br e0 pf pt : Nat} {ss is' : List (gt_T × Nat)} {r : List gm_Lv} {o1 o3 : Option Value} {t0 : gt_T}
    (hq : ∀ S' e' n', gm_B S0 S' i c s ss (is' ++ [(gq_lk ch (pt - pf) pf t0, n')]) br r e' nn → Q (.inl none, gm_h S')) :
    ∀ (j : Nat) (S : Nat → Nat → Int32) (e n : Nat), pf + j ≤ pt → gm_M S0 S i c s ss is' br r e0 e (gq_lk ch (pt - pf - j) (pf + j) t0) n pf pt j nn →
    gx_X gm_P (d + 2) 15 (80, [some (.ref 0), o1, some (.int (nI n)), o3, some (.int (nI (pf + j) + -1))], [], gm_h S, bc, bs) Q := by
  intro j
  induction j with
  | zero =>
    intro S e n hj hM
    obtain ⟨g1, g2, g3, g4, g5, g6, g7, g8, g9, g10, g11, g12, g13, g14, g15, g16, g17, g18, g19, g20, g21, g22⟩ := id hM
    have hc : (nI r.length).toNatClampNeg = r.length := nI_clamp (by omega)
    have hin : vp_in (nI r.length) 8 := vp_in_nI (by omega) (by decide)
    refine gb_take_80 ?_
    rw [g4, hc, g15, g9, Nat.add_zero]
    refine ⟨hin, fun _ => ⟨hin, gm_M_app hM (fun S' hB => gb_take_139 (hq S' e n ?_))⟩, fun h => absurd ?_ h⟩
    · simpa using hB
    · cases pf with
      | zero => decide +kernel
      | succ pf =>
        rw [show nI (pf + 1) + -1 = nI pf from pk_m1 pf]
        exact nI_lt (by omega) (by omega)
  | succ j ih =>
    intro S e n hj hM
    obtain ⟨g1, g2, g3, g4, g5, g6, g7, g8, g9, g10, g11, g12, g13, g14, g15, g16, g17, g18, g19, g20, g21, g22⟩ := id hM
    have hc : (nI r.length).toNatClampNeg = r.length := nI_clamp (by omega)
    have hin : vp_in (nI r.length) 8 := vp_in_nI (by omega) (by decide)
    have hR := gm_R_le g11
    rw [show nI (pf + (j + 1)) + -1 = nI (pf + j) from pk_m1 (pf + j)]
    have hcp : (nI (pf + j)).toNatClampNeg = pf + j := nI_clamp (by omega)
    have hin20 : vp_in (nI (pf + j)) 20 := vp_in_nI (by omega) (by decide)
    have hch : S 1 (pf + j) = nI (ch (pf + j)) := by
      rw [g1.1 1 (by simp)]
      exact (hl.2.2.1 (pf + j) (by omega)).1
    have hch2 := (hl.2.2.1 (pf + j) (by omega)).2
    have e1 : gq_lk ch (pt - pf - j) (pf + j) t0 = gt_look (if ch (pf + j) = 38 then 1 else 0) (gq_lk ch (pt - pf - (j + 1)) (pf + (j + 1)) t0) := by
      rw [show pt - pf - j = (pt - pf - (j + 1)) + 1 by omega]
      rfl
    refine gb_take_80 ?_
    rw [g4, hc, g15, g9, hcp, hch]
    refine ⟨hin, fun h => absurd h (nI_nlt (by omega) (by omega)), fun _ => ⟨hin20, fun h => gb_take_114 ?_, fun h => gb_take_114 ?_⟩⟩
    · have hne : ch (pf + j) ≠ 38 := fun e => h (by rw [e]; rfl)
      refine gm_M_up (pn' := j) (t' := gq_lk ch (pt - pf - j) (pf + j) t0) hM (by omega) (by rw [e1]; rfl) (by rw [e1]; rfl) (fun S' k1 k2 k3 => ?_) (fun S' hM' => gb_take_118 ?_)
      · rw [e1, if_neg hne]
        exact ⟨rfl, (fun h => by cases h), by rw [if_neg (by decide)]; show gp_n (S' 7 e) = 8; rw [k1]; rfl, by show gm_iv S' _ false e0 e (gp_n (S' 8 e)); rw [k2, gp_In (by have := gn_iv_in _ _ _ _ _ g19; omega)]; exact k3⟩
      · rw [show nI (pf + j) + Int32.ofInt (-1) = nI (pf + j) + -1 from rfl]
        exact ih S' (e + 1) e (by omega) hM'
    · have he : ch (pf + j) = 38 := (nI_eq (b := 38) (by omega) (by decide)).mp h
      refine gm_M_up (pn' := j) (t' := gq_lk ch (pt - pf - j) (pf + j) t0) hM (by omega) (by rw [e1]; rfl) (by rw [e1]; rfl) (fun S' k1 k2 k3 => ?_) (fun S' hM' => gb_take_118 ?_)
      · rw [e1, if_pos he]
        exact ⟨rfl, (fun h => by cases h), by rw [if_pos rfl]; show gp_n (S' 7 e) = 7; rw [k1]; rfl, by show gm_iv S' _ false e0 e (gp_n (S' 8 e)); rw [k2, gp_In (by have := gn_iv_in _ _ _ _ _ g19; omega)]; exact k3⟩
      · rw [show nI (pf + j) + Int32.ofInt (-1) = nI (pf + j) + -1 from rfl]
        exact ih S' (e + 1) e (by omega) hM'
/-- take -/
theorem gm_take (hl : gm_ln S0 nn ch) {i c s br e0 e n pf pt : Nat} {ss is' : List (gt_T × Nat)} {r : List gm_Lv} {t : gt_T} (hM : gm_M S0 S i c s ss is' br r e0 e t n pf pt (pt - pf + 1) nn) {o2 o3 o4 : Option Value}
    (hq : ∀ S' e' n', gm_B S0 S' (gq_suf ch t i).2 c s ss (is' ++ [(gq_lk ch (pt - pf) pf (gq_suf ch t i).1, n')]) br r e' nn → Q (.inl none, gm_h S')) :
    gx_X gm_P (d + 2) 15 (0, [some (.ref 0), some (.int (nI n)), o2, o3, o4], [], gm_h S, bc, bs) Q := by
  obtain ⟨g1, g2, g3, g4, g5, g6, g7, g8, g9, g10, g11, g12, g13, g14, g15, g16, g17, g18, g19, g20, g21, g22⟩ := id hM
  have hlS := gm_ln_eqP g1 hl
  have hti := gn_iv_in _ _ _ _ _ g19
  have hR := gm_R_le g11
  have hle := gm_lv_le g7
  -- behind the suffix
  have go : ∀ (S' : Nat → Nat → Int32) (e' n' : Nat) (o1 o3 o4 : Option Value), gm_M S0 S' (gq_suf ch t i).2 c s ss is' br r e0 e' (gq_suf ch t i).1 n' pf pt (pt - pf) nn → gx_X gm_P (d + 2) 15 (67, [some (.ref 0), o1, some (.int (nI n')), o3, o4], [], gm_h S', bc, bs) Q := fun S' e' n' o1 o3 o4 hM' => by
    obtain ⟨k1, k2, k3, k4, k5, k6, k7, k8, k9, k10, k11, k12, k13, k14, k15, k16, k17, k18, k19, k20, k21, k22⟩ := id hM'
    refine gb_take_67 ?_
    rw [k4, nI_clamp (show r.length < 2 ^ 31 by omega), k16]
    refine ⟨vp_in_nI (by omega) (by decide), ?_⟩
    have e1 : nI pt - 1 = nI (pf + (pt - pf)) + -1 := by
      rw [show pf + (pt - pf) = pt by omega]
      exact Int32.sub_eq_add_neg _ _
    rw [e1]
    refine gm_pref (e0 := e0) hl hq (pt - pf) S' e' n' (by omega) ?_
    rw [show pt - pf - (pt - pf) = 0 by omega]
    exact hM'
  -- a suffix
  have suf : ∀ (j : Nat) (k : Int32), j < 3 → gq_suf ch t i = (gt_rep j t, i + 1) → i < nn → (∀ S' : Nat → Nat → Int32, S' 7 e = k → gp_n (S' 7 e) = 4 + j) → ∀ (o1 o3 o4 : Option Value), gx_X gm_P (d + 2) 15 (52, [some (.ref 0), o1, some (.int (nI n)), o3, o4], [.int k, .ref 0], gm_h S, bc, bs) Q := fun j k hj hs hi hk o1 o3 o4 => by
    refine gb_take_52 (gm_M_up (pn' := pt - pf) (t' := gt_rep j t) hM (by omega) rfl rfl (fun S' k1 k2 k3 => ⟨rfl, (fun h => by cases h), hj, hk S' k1, ?_⟩) (fun S' hM' => gb_take_56 ?_))
    · show gm_iv S' t false e0 e (gp_n (S' 8 e))
      rw [k2, gp_In (by omega)]
      exact k3
    · have e17 := hM'.2.1
      rw [e17, gm_nI1]
      refine go _ (e + 1) e _ _ _ ?_
      rw [hs]
      exact hM'.at (by omega) (by omega)
  refine gb_take_0 ?_
  rw [g2]
  have hci : ch i < 2 ^ 31 := by
    by_cases h : i < nn
    · have := (hl.2.2.1 i h).2
      omega
    · rw [hl.2.2.2 i (by omega)]
      decide
  have lt : ∀ k : Nat, ch i = k → k ≠ 0 → i < nn := fun k hk h0 => Nat.lt_of_not_le fun hn => h0 (by rw [← hk]; exact hl.2.2.2 i hn)
  refine gm_look hlS (by omega) (gb_take_10 ⟨fun h => ?_, fun h1 => ⟨fun h => ?_, fun h2 => ⟨fun h3 => ?_, fun h => ?_⟩⟩⟩)
  · have he : ch i = 42 := (nI_eq (b := 42) hci (by decide)).mp h
    rw [he]
    refine gb_take_29 ⟨fun h => absurd rfl h, fun _ => suf 0 4 (by omega) (by rw [gq_suf, if_pos he]) (lt 42 he (by decide)) (fun S' k1 => by rw [k1]; rfl) _ _ _⟩
  · have he : ch i = 43 := (nI_eq (b := 43) hci (by decide)).mp h
    rw [he]
    refine gb_take_29 ⟨fun _ => ⟨fun h => absurd rfl h, fun _ => suf 1 5 (by omega) (by rw [gq_suf, if_neg (by omega), if_pos he]) (lt 43 he (by decide)) (fun S' k1 => by rw [k1]; rfl) _ _ _⟩, fun h => absurd h (by decide +kernel)⟩
  · have n1 : ch i ≠ 42 := fun e => h1 (by rw [e]; rfl)
    have n2 : ch i ≠ 43 := fun e => h2 (by rw [e]; rfl)
    have n3 : ch i ≠ 63 := fun e => h3 (by rw [e]; rfl)
    refine go S e n _ _ _ ?_
    rw [show gq_suf ch t i = (t, i) by rw [gq_suf, if_neg n1, if_neg n2, if_neg n3]]
    exact hM.le (by omega)
  · have he : ch i = 63 := (nI_eq (b := 63) hci (by decide)).mp h
    rw [he]
    refine gb_take_29 ⟨fun _ => ⟨fun _ => suf 2 6 (by omega) (by rw [gq_suf, if_neg (by omega), if_neg (by omega), if_pos he]) (lt 63 he (by decide)) (fun S' k1 => by rw [k1]; rfl) _ _ _, fun h => absurd h (by decide +kernel)⟩, fun h => absurd h (by decide +kernel)⟩
/-- the sequence under way is complete -/
theorem gm_lv_seq {c s e : Nat} {ss is' : List (gt_T × Nat)} (h : gm_lv S c s ss is' e) (he : e ≤ 200) (hne : is' ≠ []) : gm_iv S (gt_w 9 (gt_seqs (is'.map Prod.fst))) false s e s := by
  have hle := gm_lv_le h
  obtain ⟨h1, h2, h3, h4, h5, h6, h7, h8, h9, h10, h11, h12, _⟩ := h
  obtain ⟨n, q1, q2, q3⟩ := gn_ch_seqs is' (s + 1) e hne h11 h5
  have hq2 := gn_iv_in _ _ _ _ _ q2
  have e1 : S 8 s = nI n := by
    cases is' with
    | nil => exact absurd rfl hne
    | cons p r =>
      have : p.2 = n := by simpa using q1
      rw [← this]
      exact h9 p rfl
  refine ⟨rfl, (fun h => by cases h), by show gp_n (S 7 s) = 9; rw [h2]; rfl, ?_, .inl ⟨rfl, q3⟩⟩
  show gm_iv S _ true (s + 1) e (gp_n (S 8 s))
  rw [e1, gp_In (by omega)]
  exact q2
/-- the choice under way is complete -/
theorem gm_lv_ch {c s e : Nat} {ss is' : List (gt_T × Nat)} (h : gm_lv S c s ss is' e) (he : e ≤ 200) (hne : is' ≠ []) : gm_iv S (gt_w 10 (gt_chs (ss.map Prod.fst ++ [gt_w 9 (gt_seqs (is'.map Prod.fst))]))) false c e c := by
  have hle := gm_lv_le h
  have hseq := gm_lv_seq h he hne
  have hnx := gm_lv_none h
  obtain ⟨h1, h2, h3, h4, h5, h6, h7, h8, h9, h10, h11, h12, _⟩ := h
  have hl := gn_ch_app (z := none) ss (c + 1) s e h3 hseq hnx
  obtain ⟨n, q1, q2, q3⟩ := gn_ch_chs _ (c + 1) e (by simp) (fun p hp => by
    rcases List.mem_append.mp hp with h | h
    · exact h12 p h
    · have e1 : p = (gt_w 9 (gt_seqs (is'.map Prod.fst)), s) := by simpa using h
      rw [e1]
      exact ⟨rfl, rfl⟩) hl
  have hq2 := gn_iv_in _ _ _ _ _ q2
  have e1 : S 8 c = nI n := h6 n (by simpa using q1)
  refine ⟨rfl, (fun h => by cases h), by show gp_n (S 7 c) = 10; rw [h1]; rfl, ?_, .inr ⟨rfl, ?_⟩⟩
  · show gm_iv S _ true (c + 1) e (gp_n (S 8 c))
    rw [e1, gp_In (by omega)]
    simpa using q2
  · simpa using q3
theorem gm_u_al {a b k j : Nat} {v : Int32} (h : k < 7 ∨ 11 < k ∨ j < a ∨ b ≤ j) : gm_al a b S (gm_u S k j v) := fun j' j1 j2 => by
  refine ⟨?_, ?_, ?_, ?_, ?_⟩ <;> rw [gm_u_at, if_neg (by omega)]
theorem gm_al.trans {a b : Nat} {S1 S2 : Nat → Nat → Int32} (h1 : gm_al a b S S1) (h2 : gm_al a b S1 S2) : gm_al a b S S2 := fun j j1 j2 => by
  obtain ⟨a1, a2, a3, a4, a5⟩ := h1 j j1 j2
  obtain ⟨b1, b2, b3, b4, b5⟩ := h2 j j1 j2
  exact ⟨b1.trans a1, b2.trans a2, b3.trans a3, b4.trans a4, b5.trans a5⟩
/-- newSequence, behind / -/
theorem gm_newSeq {i c s br e : Nat} {ss is' : List (gt_T × Nat)} {r : List gm_Lv} (hB : gm_B S0 S i c s ss is' br r e nn) (hne : is' ≠ []) (hi : i < nn)
    (hq : ∀ S', gm_B S0 S' (i + 1) c e (ss ++ [(gt_w 9 (gt_seqs (is'.map Prod.fst)), s)]) [] br r (e + 1) nn → Q (.inl none, gm_h S')) {o1 : Option Value} :
    gx_X gm_P (d + 2) 11 (0, [some (.ref 0), o1], [], gm_h (gm_u S 0 17 (nI (i + 1))), bc, bs) Q := by
  obtain ⟨h1, h2, h3, h4, h5, h6, h7, h8, h9, h10, h11, h12, h13, h14⟩ := hB
  have hle := gm_lv_le h7
  have hR := gm_R_le h11
  have he : e < 199 := by omega
  have hseq := gm_lv_seq h7 (by omega) hne
  have e64 : gm_u S 0 17 (nI (i + 1)) 6 4 = nI (e - 160) := by rw [gm_u_at, if_neg (by omega)]; exact h6
  refine gb_newSequence_0 (gm_make e64 (by omega) (by omega) (gb_newSequence_7 ?_))
  have hrl : (nI r.length).toNatClampNeg = r.length := nI_clamp (by omega)
  have r0 : gm_mk (gm_u S 0 17 (nI (i + 1))) e 9 (-1) 0 19 = nI r.length := by rw [gm_mk_row (by omega), gm_u_at, if_neg (by omega)]; exact h4
  have r15 : gm_mk (gm_u S 0 17 (nI (i + 1))) e 9 (-1) 15 r.length = nI c := by rw [gm_mk_row (by omega), gm_u_at, if_neg (by omega)]; exact h8
  rw [r0, hrl, r15]
  refine ⟨vp_in_nI (by omega) (by decide), vp_in_nI (by omega) (by decide), ?_⟩
  obtain ⟨m1, m2, m3, m4, m5, m6⟩ := gm_mk_at (S := gm_u S 0 17 (nI (i + 1))) (e := e) (k := 9) (w := -1)
  -- before the new one is put behind the others
  have al1 : ∀ a b, b ≤ e → gm_al a b S (gm_u (gm_mk (gm_u S 0 17 (nI (i + 1))) e 9 (-1)) 16 r.length (nI e)) := fun a b hb => ((gm_u_al (by omega)).trans (gm_mk_al hb)).trans (gm_u_al (by omega))
  obtain ⟨c1, c2, c3, c4, c5⟩ := al1 c e (Nat.le_refl _) c (by omega) (by omega)
  have h8c : ¬ (gm_u (gm_mk (gm_u S 0 17 (nI (i + 1))) e 9 (-1)) 16 r.length (nI e)) 8 c < 0 := by
    rw [c2]
    cases hh : (ss.map Prod.snd ++ [s]).head? with
    | none => simp at hh
    | some p =>
      rw [h7.2.2.2.2.2.1 p hh]
      have : p < e := by
        rcases List.mem_append.mp (List.mem_of_mem_head? hh) with h | h
        · obtain ⟨q, hq1, hq2⟩ := List.mem_map.mp h
          have := (gn_ch_le _ _ _ h7.2.2.1).2 q hq1
          omega
        · have : p = s := by simpa using h
          omega
      exact nI_pos (by omega)
  refine gm_append1 (l := s) (by omega) (by omega) h8c (by rw [c5]; exact h7.2.2.2.2.2.2.1) (gb_newSequence_32 (hq _ ⟨?_, ?_, ?_, ?_, h5, ?_, ?_, ?_, ?_, ?_, ?_, by omega, by omega, h14⟩))
  · exact (((gm_mk_eqP (h1.u (by omega)) (by omega)).u (by omega)).u (by omega)).u (by omega)
  · rw [gm_u_at, if_neg (by omega), gm_u_at, if_neg (by omega), gm_u_at, if_neg (by omega), gm_mk_row (by omega), gm_u_at, if_pos ⟨rfl, rfl⟩]
  · rw [gm_u_at, if_neg (by omega), gm_u_at, if_neg (by omega), gm_u_at, if_neg (by omega), gm_mk_row (by omega), gm_u_at, if_neg (by omega)]
    exact h3
  · rw [gm_u_at, if_neg (by omega), gm_u_at, if_neg (by omega), gm_u_at, if_neg (by omega)]
    exact r0
  · rw [gm_u_at, if_neg (by omega), gm_u_at, if_neg (by omega), gm_u_at, if_neg (by omega)]
    exact m6
  · -- the choice, with one more sequence
    have alc : ∀ a b, b ≤ e → (b ≤ s ∨ s < a) → (b ≤ c ∨ c < a) → gm_al a b S (gm_u (gm_u (gm_u (gm_mk (gm_u S 0 17 (nI (i + 1))) e 9 (-1)) 16 r.length (nI e)) 10 s (nI e)) 11 c (nI e)) := fun a b hb hs hc => ((al1 a b hb).trans (gm_u_al (by omega))).trans (gm_u_al (by omega))
    obtain ⟨g1, g2, g3, g4, g5, g6, g7, g8, g9, g10, g11, g12, g13⟩ := h7
    have hch3 := gn_ch_le _ _ _ g3
    refine ⟨?_, ?_, ?_, ?_, ?_, fun p hp => ?_, ?_, fun _ => ?_, (fun p hp => by cases hp), (fun p hp => by cases hp), (fun p hp => by cases hp), fun p hp => ?_, ?_⟩
    · rw [gm_u_at, if_neg (by omega), gm_u_at, if_neg (by omega), c1]; exact g1
    · rw [gm_u_at, if_neg (by omega), gm_u_at, if_neg (by omega), gm_u_at, if_neg (by omega)]; exact m1
    · refine gn_ch_app ss (c + 1) s e ((alc (c + 1) s (by omega) (by omega) (by omega)).ch g3) ?_ ?_
      · -- the complete sequence
        refine gn_iv_eq _ _ _ _ _ hseq (fun j j1 j2 => ?_) (fun j j1 j2 hj => ?_)
        · have := al1 s e (Nat.le_refl _) j j1 j2
          obtain ⟨b1, b2, b3, b4, b5⟩ := this
          refine ⟨?_, ?_, ?_⟩
          · show gp_n _ = gp_n _
            rw [gm_u_at, if_neg (by omega), gm_u_at, if_neg (by omega), b1]
          · show gp_n _ = gp_n _
            rw [gm_u_at, if_neg (by omega), gm_u_at, if_neg (by omega), b2]
          · show gp_n _ = gp_n _
            rw [gm_u_at, if_neg (by omega), gm_u_at, if_neg (by omega), b3]
        · have hjs : j ≠ s := by
            rcases hj with h | h
            · cases h
            · exact h
          have b4 := (al1 s e (Nat.le_refl _) j j1 j2).2.2.2.1
          have hv : gm_u (gm_u (gm_u (gm_mk (gm_u S 0 17 (nI (i + 1))) e 9 (-1)) 16 r.length (nI e)) 10 s (nI e)) 11 c (nI e) 10 j = S 10 j := by rw [gm_u_at, if_neg (by omega), gm_u_at, if_neg (by omega), b4]
          unfold gm_nx
          rw [hv]
      · have hv : gm_u (gm_u (gm_u (gm_mk (gm_u S 0 17 (nI (i + 1))) e 9 (-1)) 16 r.length (nI e)) 10 s (nI e)) 11 c (nI e) 10 s = nI e := by rw [gm_u_at, if_neg (by omega), gm_u_at, if_pos ⟨rfl, rfl⟩]
        unfold gm_nx
        rw [hv, if_neg (nI_pos (by omega)), gp_In (by omega)]
    · rw [gm_u_at, if_neg (by omega), gm_u_at, if_neg (by omega), gm_u_at, if_neg (by omega), m4]
      decide
    · rfl
    · rw [gm_u_at, if_neg (by omega), gm_u_at, if_neg (by omega), c2]
      refine g6 p ?_
      cases ss with
      | nil => simpa using hp
      | cons q rr => simpa using hp
    · rw [gm_u_at, if_pos ⟨rfl, rfl⟩]
    · rw [gm_u_at, if_neg (by omega), gm_u_at, if_neg (by omega), gm_u_at, if_neg (by omega), m2]
      decide
    · rcases List.mem_append.mp hp with h | h
      · exact g12 p h
      · have e1 : p = (gt_w 9 (gt_seqs (is'.map Prod.fst)), s) := by simpa using h
        rw [e1]
        exact ⟨rfl, rfl⟩
    · rw [gm_u_at, if_neg (by omega), gm_u_at, if_neg (by omega), c4]; exact g13
  · rw [gm_u_at, if_neg (by omega), gm_u_at, if_neg (by omega), gm_u_at, if_neg (by omega)]; exact r15
  · rw [gm_u_at, if_neg (by omega), gm_u_at, if_neg (by omega), gm_u_at, if_pos ⟨rfl, rfl⟩]
  · rw [gm_u_at, if_neg (by omega), gm_u_at, if_neg (by omega), gm_u_at, if_neg (by omega), gm_mk_row (by omega), gm_u_at, if_neg (by omega)]
    exact h10
  · refine gm_R_al h11 (((al1 160 c (by omega)).trans (gm_u_al (by omega))).trans (gm_u_al (by omega))) (fun j hj => ?_)
    refine ⟨?_, ?_, ?_, ?_, ?_⟩ <;> rw [gm_u_at, if_neg (by omega), gm_u_at, if_neg (by omega), gm_u_at, if_neg (by omega), gm_mk_row (by omega), gm_u_at, if_neg (by omega)]
/-- goesIn: a bracket is opened, or the line's own choice -/
theorem gm_goesIn {i e br : Nat} {r : List gm_Lv} (h1 : gm_eqP S0 S) (h2 : S 0 17 = nI i) (h3 : S 0 18 = 0) (h4 : S 0 19 = nI r.length + -1) (h5 : r.length ≤ 6) (h6 : S 6 4 = nI (e - 160)) (h7 : gm_R S nn r e) (h8 : (e + 2 - 160) + gm_pd r + 2 ≤ 2 * i) (h9 : i ≤ nn) (h10 : nn ≤ 20)
    (hq : ∀ S', gm_B S0 S' i e (e + 1) [] [] br r (e + 2) nn → Q (.inl none, gm_h S')) :
    gx_X gm_P (d + 3) 12 (0, [some (.ref 0), some (.int (nI br))], [], gm_h S, bc, bs) Q := by
  have hR := gm_R_le h7
  have he : e < 198 := by omega
  have hrl : (nI r.length).toNatClampNeg = r.length := nI_clamp (by omega)
  have ed : S 0 19 + 1 = nI r.length := by
    rw [h4, Int32.add_assoc, show (-1 : Int32) + 1 = 0 by decide, Int32.add_zero]
  refine gb_goesIn_0 ?_
  rw [ed, hrl]
  have hin8 : vp_in (nI r.length) 8 := vp_in_nI (by omega) (by decide)
  have e64 : gm_u (gm_u S 0 19 (nI r.length)) 17 r.length (nI br) 6 4 = nI (e - 160) := by rw [gm_u_at, if_neg (by omega), gm_u_at, if_neg (by omega)]; exact h6
  refine ⟨hin8, gm_make e64 (by omega) (by omega) (gb_goesIn_35 ?_)⟩
  rw [hrl]
  obtain ⟨m1, m2, m3, m4, m5, m6⟩ := gm_mk_at (S := gm_u (gm_u S 0 19 (nI r.length)) 17 r.length (nI br)) (e := e) (k := 10) (w := -1)
  have e642 : gm_u (gm_mk (gm_u (gm_u S 0 19 (nI r.length)) 17 r.length (nI br)) e 10 (-1)) 15 r.length (nI e) 6 4 = nI (e + 1 - 160) := by rw [gm_u_at, if_neg (by omega)]; exact m6
  refine ⟨hin8, gb_newSequence_0 (gm_make e642 (by omega) (by omega) (gb_newSequence_7 ?_))⟩
  obtain ⟨k1, k2, k3, k4, k5, k6⟩ := gm_mk_at (S := gm_u (gm_mk (gm_u (gm_u S 0 19 (nI r.length)) 17 r.length (nI br)) e 10 (-1)) 15 r.length (nI e)) (e := e + 1) (k := 9) (w := -1)
  have r0 : gm_mk (gm_u (gm_mk (gm_u (gm_u S 0 19 (nI r.length)) 17 r.length (nI br)) e 10 (-1)) 15 r.length (nI e)) (e + 1) 9 (-1) 0 19 = nI r.length := by
    rw [gm_mk_row (by omega), gm_u_at, if_neg (by omega), gm_mk_row (by omega), gm_u_at, if_neg (by omega), gm_u_at, if_pos ⟨rfl, rfl⟩]
  have r15 : gm_mk (gm_u (gm_mk (gm_u (gm_u S 0 19 (nI r.length)) 17 r.length (nI br)) e 10 (-1)) 15 r.length (nI e)) (e + 1) 9 (-1) 15 r.length = nI e := by
    rw [gm_mk_row (by omega), gm_u_at, if_pos ⟨rfl, rfl⟩]
  rw [r0, hrl, r15]
  have ak := gm_mk_al (S := gm_u (gm_mk (gm_u (gm_u S 0 19 (nI r.length)) 17 r.length (nI br)) e 10 (-1)) 15 r.length (nI e)) (a := e) (b := e + 1) (e := e + 1) (k := 9) (w := -1) (Nat.le_refl _) e (Nat.le_refl _) (by omega)
  obtain ⟨a1, a2, a3, a4, a5⟩ := ak
  refine ⟨hin8, hin8, gm_append0 (by omega) ?_ (gb_newSequence_32 (gb_goesIn_40 (hq _ ⟨?_, ?_, ?_, ?_, h5, ?_, ?_, ?_, ?_, ?_, ?_, by omega, h9, h10⟩)))⟩
  · rw [gm_u_at, if_neg (by omega), a2, gm_u_at, if_neg (by omega), m2]
    decide
  · exact (((gm_mk_eqP ((gm_mk_eqP ((h1.u (by omega)).u (by omega)) (by omega)).u (by omega)) (by omega)).u (by omega)).u (by omega)).u (by omega)
  · rw [gm_u_at, if_neg (by omega), gm_u_at, if_neg (by omega), gm_u_at, if_neg (by omega), gm_mk_row (by omega), gm_u_at, if_neg (by omega), gm_mk_row (by omega), gm_u_at, if_neg (by omega), gm_u_at, if_neg (by omega)]
    exact h2
  · rw [gm_u_at, if_neg (by omega), gm_u_at, if_neg (by omega), gm_u_at, if_neg (by omega), gm_mk_row (by omega), gm_u_at, if_neg (by omega), gm_mk_row (by omega), gm_u_at, if_neg (by omega), gm_u_at, if_neg (by omega)]
    exact h3
  · rw [gm_u_at, if_neg (by omega), gm_u_at, if_neg (by omega), gm_u_at, if_neg (by omega)]
    exact r0
  · rw [gm_u_at, if_neg (by omega), gm_u_at, if_neg (by omega), gm_u_at, if_neg (by omega)]
    exact k6
  · refine ⟨?_, ?_, rfl, ?_, rfl, fun p hp => ?_, ?_, fun _ => ?_, (fun p hp => by cases hp), (fun p hp => by cases hp), (fun p hp => by cases hp), (fun p hp => by cases hp), ?_⟩
    · rw [gm_u_at, if_neg (by omega), gm_u_at, if_neg (by omega), gm_u_at, if_neg (by omega), a1, gm_u_at, if_neg (by omega)]; exact m1
    · rw [gm_u_at, if_neg (by omega), gm_u_at, if_neg (by omega), gm_u_at, if_neg (by omega)]; exact k1
    · rw [gm_u_at, if_neg (by omega), gm_u_at, if_neg (by omega), gm_u_at, if_neg (by omega), k4]; decide
    · have e1 : p = e + 1 := by simpa using hp.symm
      rw [gm_u_at, if_neg (by omega), gm_u_at, if_pos ⟨rfl, rfl⟩, e1]
    · rw [gm_u_at, if_pos ⟨rfl, rfl⟩]
    · rw [gm_u_at, if_neg (by omega), gm_u_at, if_neg (by omega), gm_u_at, if_neg (by omega), k2]; decide
    · rw [gm_u_at, if_neg (by omega), gm_u_at, if_neg (by omega), gm_u_at, if_neg (by omega), a4, gm_u_at, if_neg (by omega), m4]; decide
  · rw [gm_u_at, if_neg (by omega), gm_u_at, if_neg (by omega), gm_u_at, if_neg (by omega)]; exact r15
  · rw [gm_u_at, if_neg (by omega), gm_u_at, if_neg (by omega), gm_u_at, if_pos ⟨rfl, rfl⟩]
  · rw [gm_u_at, if_neg (by omega), gm_u_at, if_neg (by omega), gm_u_at, if_neg (by omega), gm_mk_row (by omega), gm_u_at, if_neg (by omega), gm_mk_row (by omega), gm_u_at, if_pos ⟨rfl, rfl⟩]
  · refine gm_R_al h7 (((((((gm_u_al (by omega)).trans (gm_u_al (by omega))).trans (gm_mk_al (Nat.le_refl _))).trans (gm_u_al (by omega))).trans (gm_mk_al (by omega))).trans (gm_u_al (by omega))).trans ((gm_u_al (by omega)).trans (gm_u_al (by omega)))) (fun j hj => ?_)
    refine ⟨?_, ?_, ?_, ?_, ?_⟩ <;> rw [gm_u_at, if_neg (by omega), gm_u_at, if_neg (by omega), gm_u_at, if_neg (by omega), gm_mk_row (by omega), gm_u_at, if_neg (by omega), gm_mk_row (by omega), gm_u_at, if_neg (by omega), gm_u_at, if_neg (by omega)]
end GBC
