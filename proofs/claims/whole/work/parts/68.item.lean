/-! The model reads a line: an item is taken. -/
section GBB
variable {S S' S0 : Nat → Nat → Int32} {d bc bs : Nat} {Q : gx_R → Prop} {ch : Nat → Nat} {nn : Nat}
abbrev gm_Lv : Type := Nat × Nat × List (gt_T × Nat) × List (gt_T × Nat) × Nat × Nat × Nat
/-- the line -/
def gm_ln (S : Nat → Nat → Int32) (nn : Nat) (ch : Nat → Nat) : Prop := S 0 2 = nI nn ∧ nn ≤ 20 ∧ (∀ i, i < nn → S 1 i = nI (ch i) ∧ 32 ≤ ch i ∧ ch i ≤ 126) ∧ ∀ i, nn ≤ i → ch i = 0
/-- what has been read up to place i: the choice under way and the brackets around it -/
def gm_B (S0 S : Nat → Nat → Int32) (i c s : Nat) (ss is' : List (gt_T × Nat)) (br : Nat) (r : List gm_Lv) (e nn : Nat) : Prop :=
  gm_eqP S0 S ∧ S 0 17 = nI i ∧ S 0 18 = 0 ∧ S 0 19 = nI r.length ∧ r.length ≤ 6 ∧ S 6 4 = nI (e - 160) ∧ gm_lv S c s ss is' e ∧ S 15 r.length = nI c ∧ S 16 r.length = nI s ∧ S 17 r.length = nI br ∧ gm_R S nn r c ∧ (e - 160) + gm_pd r + 2 ≤ 2 * i ∧ i ≤ nn ∧ nn ≤ 20
/-- an item t, at node n, is being made; pn of & and ! before it are left -/
def gm_M (S0 S : Nat → Nat → Int32) (i c s : Nat) (ss is' : List (gt_T × Nat)) (br : Nat) (r : List gm_Lv) (e0 e : Nat) (t : gt_T) (n pf pt pn nn : Nat) : Prop :=
  gm_eqP S0 S ∧ S 0 17 = nI i ∧ S 0 18 = 0 ∧ S 0 19 = nI r.length ∧ r.length ≤ 6 ∧ S 6 4 = nI (e - 160) ∧ gm_lv S c s ss is' e0 ∧ S 15 r.length = nI c ∧ S 16 r.length = nI s ∧ S 17 r.length = nI br ∧ gm_R S nn r c ∧ (e - 160) + pn + gm_pd r + 2 ≤ 2 * i ∧ i ≤ nn ∧ nn ≤ 20 ∧ S 18 r.length = nI pf ∧ S 19 r.length = nI pt ∧ pf ≤ pt ∧ pt ≤ nn ∧ gm_iv S t false e0 e n ∧ S 10 n < 0 ∧ gt_isl 9 t = false ∧ gt_isl 10 t = false
/-- look -/
theorem gm_look (hl : gm_ln S nn ch) {i : Nat} (hi : i < 2 ^ 31) (hq : Q (.inl (some (.int (nI (ch i)))), gm_h S)) : gx_X gm_P (d + 1) 7 (0, [some (.ref 0), some (.int (nI i))], [], gm_h S, bc, bs) Q := by
  obtain ⟨h1, h2, h3, h4⟩ := hl
  refine gb_look_0 ⟨fun h => gb_look_18 ?_, fun h => ?_⟩
  · rw [h1] at h
    rw [h4 i (Nat.le_of_not_lt (fun z => h (nI_lt z (by omega))))] at hq
    exact hq
  · rw [h1] at h
    have hlt := (nI_ltI hi (by omega)).mp h
    rw [nI_clamp hi, (h3 i hlt).1]
    exact ⟨vp_in_nI (by omega) (by decide), gb_look_18 hq⟩
theorem gm_ln_eqP (h : gm_eqP S0 S) (hl : gm_ln S0 nn ch) : gm_ln S nn ch := by
  obtain ⟨h1, h2, h3, h4⟩ := hl
  refine ⟨by rw [h.2.1 2 (by simp)]; exact h1, h2, fun i hi => ?_, h4⟩
  rw [h.1 1 (by simp)]
  exact h3 i hi
theorem gm_lv_none {c s e : Nat} {ss is' : List (gt_T × Nat)} (h : gm_lv S c s ss is' e) : gm_nx S s = none := by
  unfold gm_nx
  rw [if_pos h.2.2.2.1]
/-- an item is put behind the others -/
theorem gm_lv_item {c s e0 e n : Nat} {ss is' : List (gt_T × Nat)} {t : gt_T} (h : gm_lv S c s ss is' e0) (ht : gm_iv S t false e0 e n) (hn : S 10 n < 0) (h9 : gt_isl 9 t = false) (h10 : gt_isl 10 t = false)
    (hal : ∀ j, j ≠ s → (∀ p, is'.getLast? = some p → j ≠ p.2) → S' 7 j = S 7 j ∧ S' 8 j = S 8 j ∧ S' 9 j = S 9 j ∧ S' 10 j = S 10 j ∧ S' 11 j = S 11 j)
    (hs : S' 7 s = S 7 s ∧ S' 9 s = S 9 s ∧ S' 10 s = S 10 s ∧ S' 11 s = nI n ∧ (is' = [] → S' 8 s = nI n) ∧ (is' ≠ [] → S' 8 s = S 8 s))
    (hp : ∀ p, is'.getLast? = some p → S' 7 p.2 = S 7 p.2 ∧ S' 8 p.2 = S 8 p.2 ∧ S' 9 p.2 = S 9 p.2 ∧ S' 10 p.2 = nI n) (hn31 : n < 2 ^ 31) : gm_lv S' c s ss (is' ++ [(t, n)]) e := by
  have hle := gm_lv_le h
  have hnx := gm_lv_none h
  obtain ⟨h1, h2, h3, h4, h5, h6, h7, h8, h8', h8'', h11, h12, h13⟩ := h
  have hti := gn_iv_in _ _ _ _ _ ht
  have hch5 := gn_ch_le _ _ _ h5
  have hlast : ∀ p, is'.getLast? = some p → s < p.2 ∧ p.2 < e0 := fun p hp' => by
    have := hch5.2 p (List.mem_of_getLast? hp')
    omega
  have alc : gm_al c s S S' := fun j j1 j2 => hal j (by omega) (fun p hp' => by have := hlast p hp'; omega)
  have alt : gm_al e0 e S S' := fun j j1 j2 => hal j (by omega) (fun p hp' => by have := hlast p hp'; omega)
  have nxn : ∀ p, is'.getLast? = some p → gm_nx S' p.2 = some n := fun p hp' => by
    unfold gm_nx
    rw [(hp p hp').2.2.2, if_neg (nI_pos hn31), gp_In (by omega)]
  obtain ⟨s1, s2, s3, s4, s5, s6⟩ := hs
  obtain ⟨c1, c2, c3, c4, c5⟩ := alc c (by omega) (by omega)
  refine ⟨by rw [c1]; exact h1, by rw [s1]; exact h2, (alc.mono (by omega) (Nat.le_refl _)).ch h3, by rw [s3]; exact h4, ?_, fun p hp' => by rw [c2]; exact h6 p hp', by rw [c5]; exact h7, fun hi => by simp at hi, fun p hp' => ?_, fun p hp' => ?_, fun p hp' => ?_, h12, by rw [c4]; exact h13⟩
  · refine gn_ch_app is' (s + 1) e0 e ?_ (alt.iv ht) ?_
    · refine gn_ch_eq is' (s + 1) e0 h5 (fun j j1 j2 => ?_) (fun j j1 j2 hj => ?_) nxn
      · by_cases hjl : ∃ p, is'.getLast? = some p ∧ j = p.2
        · obtain ⟨p, hp1, rfl⟩ := hjl
          obtain ⟨q1, q2, q3, _⟩ := hp p hp1
          exact ⟨by simp only [q1], by simp only [q2], by simp only [q3]⟩
        · obtain ⟨q1, q2, q3, _⟩ := hal j (by omega) (fun p hp' e => hjl ⟨p, hp', e⟩)
          exact ⟨by simp only [q1], by simp only [q2], by simp only [q3]⟩
      · obtain ⟨_, _, _, q4, _⟩ := hal j (by omega) hj
        unfold gm_nx
        rw [q4]
    · unfold gm_nx
      rw [(alt n hti.1 hti.2).2.2.2.1, if_pos hn]
  · cases is' with
    | nil =>
      have e1 : (t, n) = p := by simpa using hp'
      rw [← e1]
      exact s5 rfl
    | cons q r =>
      have e1 : q = p := by simpa using hp'
      rw [s6 (by simp)]
      exact h8' p (by rw [← e1]; rfl)
  · have e1 : (t, n) = p := by simpa using hp'
    rw [← e1]
    exact s4
  · rcases List.mem_append.mp hp' with h | h
    · exact h11 p h
    · have e1 : p = (t, n) := by simpa using h
      rw [e1]
      exact ⟨h9, h10⟩
/-- the item is complete: it is put behind the others -/
theorem gm_M_app {i c s br e0 e n pf pt : Nat} {ss is' : List (gt_T × Nat)} {r : List gm_Lv} {t : gt_T} (h : gm_M S0 S i c s ss is' br r e0 e t n pf pt 0 nn)
    (hq : ∀ S', gm_B S0 S' i c s ss (is' ++ [(t, n)]) br r e nn → Q (.inl none, gm_h S')) :
    gx_X gm_P (d + 1) 10 (0, [some (.ref 0), some (.int (nI s)), some (.int (nI n))], [], gm_h S, bc, bs) Q := by
  obtain ⟨h1, h2, h3, h4, h5, h6, h7, h8, h9, h10, h11, h12, h13, h14, h15, h16, h17, h18, h19, h20, h21, h22⟩ := h
  have hle := gm_lv_le h7
  have hti := gn_iv_in _ _ _ _ _ h19
  have hR := gm_R_le h11
  have he : e < 200 := by omega
  have hch5 := gn_ch_le _ _ _ h7.2.2.2.2.1
  have fin : ∀ S', (∀ j, j ≠ s → (∀ p, is'.getLast? = some p → j ≠ p.2) → S' 7 j = S 7 j ∧ S' 8 j = S 8 j ∧ S' 9 j = S 9 j ∧ S' 10 j = S 10 j ∧ S' 11 j = S 11 j) → (S' 7 s = S 7 s ∧ S' 9 s = S 9 s ∧ S' 10 s = S 10 s ∧ S' 11 s = nI n ∧ (is' = [] → S' 8 s = nI n) ∧ (is' ≠ [] → S' 8 s = S 8 s)) → (∀ p, is'.getLast? = some p → S' 7 p.2 = S 7 p.2 ∧ S' 8 p.2 = S 8 p.2 ∧ S' 9 p.2 = S 9 p.2 ∧ S' 10 p.2 = nI n) → gm_eqP S0 S' → (∀ j, j ∉ [7, 8, 9, 10, 11] → S' j = S j) → Q (.inl none, gm_h S') := fun S' k1 k2 k3 k4 k5 => by
    have e0 := k5 0 (by simp)
    have e6 := k5 6 (by simp)
    have e15 := k5 15 (by simp)
    have e16 := k5 16 (by simp)
    have e17 := k5 17 (by simp)
    have e18 := k5 18 (by simp)
    have e19 := k5 19 (by simp)
    refine hq S' ⟨k4, by rw [e0]; exact h2, by rw [e0]; exact h3, by rw [e0]; exact h4, h5, by rw [e6]; exact h6, gm_lv_item h7 h19 h20 h21 h22 k1 k2 k3 (by omega), by rw [e15]; exact h8, by rw [e16]; exact h9, by rw [e17]; exact h10, ?_, by omega, h13, h14⟩
    refine gm_R_al h11 (fun j j1 j2 => k1 j (by omega) (fun p hp => ?_)) (fun j hj => by rw [e15, e16, e17, e18, e19]; exact ⟨rfl, rfl, rfl, rfl, rfl⟩)
    have := hch5.2 p (List.mem_of_getLast? hp)
    omega
  cases hi : is' with
  | nil =>
    refine gm_append0 (by omega) (h7.2.2.2.2.2.2.2.1 hi) (fin _ (fun j hj _ => ?_) ⟨?_, ?_, ?_, ?_, fun _ => ?_, fun hne => absurd hi hne⟩ (fun p hp => by rw [hi] at hp; cases hp) ((h1.u (by omega)).u (by omega)) (fun j hj => ?_))
    · simp only [gm_u_at]
      refine ⟨?_, ?_, ?_, ?_, ?_⟩ <;> simp <;> intro h <;> omega
    · rw [gm_u_at, if_neg (by omega), gm_u_at, if_neg (by omega)]
    · rw [gm_u_at, if_neg (by omega), gm_u_at, if_neg (by omega)]
    · rw [gm_u_at, if_neg (by omega), gm_u_at, if_neg (by omega)]
    · rw [gm_u_at, if_pos ⟨rfl, rfl⟩]
    · rw [gm_u_at, if_neg (by omega), gm_u_at, if_pos ⟨rfl, rfl⟩]
    · simp only [List.mem_cons, List.not_mem_nil, or_false, not_or] at hj
      rw [gm_u_row _ _ _ (by omega), gm_u_row _ _ _ (by omega)]
  | cons q rr =>
    obtain ⟨l, hl⟩ : ∃ l, is'.getLast? = some l := by
      rw [hi]
      exact ⟨_, List.getLast?_eq_some_getLast (by simp)⟩
    have hll := hch5.2 l (List.mem_of_getLast? hl)
    obtain ⟨q0, hq0⟩ : ∃ q0, is'.head? = some q0 := ⟨q, by rw [hi]; rfl⟩
    have hq0l := hch5.2 q0 (List.mem_of_mem_head? hq0)
    have h8n : ¬ S 8 s < 0 := by
      rw [h7.2.2.2.2.2.2.2.2.1 q0 hq0]
      exact nI_pos (by omega)
    refine gm_append1 (l := l.2) (by omega) (by omega) h8n (h7.2.2.2.2.2.2.2.2.2.1 l hl) (fin _ (fun j hj hj2 => ?_) ⟨?_, ?_, ?_, ?_, (fun h => by rw [hi] at h; cases h), fun _ => ?_⟩ (fun p hp => ?_) ((h1.u (by omega)).u (by omega)) (fun j hj => ?_))
    · have := hj2 l hl
      simp only [gm_u_at]
      refine ⟨?_, ?_, ?_, ?_, ?_⟩ <;> simp <;> intro h <;> omega
    · rw [gm_u_at, if_neg (by omega), gm_u_at, if_neg (by omega)]
    · rw [gm_u_at, if_neg (by omega), gm_u_at, if_neg (by omega)]
    · rw [gm_u_at, if_neg (by omega), gm_u_at, if_neg (by omega)]
    · rw [gm_u_at, if_pos ⟨rfl, rfl⟩]
    · rw [gm_u_at, if_neg (by omega), gm_u_at, if_neg (by omega)]
    · rw [hl] at hp
      cases hp
      refine ⟨?_, ?_, ?_, ?_⟩
      · rw [gm_u_at, if_neg (by omega), gm_u_at, if_neg (by omega)]
      · rw [gm_u_at, if_neg (by omega), gm_u_at, if_neg (by omega)]
      · rw [gm_u_at, if_neg (by omega), gm_u_at, if_neg (by omega)]
      · rw [gm_u_at, if_neg (by omega), gm_u_at, if_pos ⟨rfl, rfl⟩]
    · simp only [List.mem_cons, List.not_mem_nil, or_false, not_or] at hj
      rw [gm_u_row _ _ _ (by omega), gm_u_row _ _ _ (by omega)]
/-- a node over the item is made -/
theorem gm_M_up {i c s br e0 e n pf pt pn pn' : Nat} {ss is' : List (gt_T × Nat)} {r : List gm_Lv} {t t' : gt_T} {k : Int32} (h : gm_M S0 S i c s ss is' br r e0 e t n pf pt pn nn) (hpn : (e + 1 - 160) + pn' + gm_pd r + 2 ≤ 2 * i) (h9 : gt_isl 9 t' = false) (h10 : gt_isl 10 t' = false)
    (hiv : ∀ S', S' 7 e = k → S' 8 e = nI n → gm_iv S' t false e0 e n → gm_iv S' t' false e0 (e + 1) e) {o3 : Option Value}
    (hq : ∀ S', gm_M S0 S' i c s ss is' br r e0 (e + 1) t' e pf pt pn' nn → Q (.inl (some (.int (nI e))), gm_h S')) :
    gx_X gm_P (d + 1) 9 (0, [some (.ref 0), some (.int k), some (.int (nI n)), o3], [], gm_h S, bc, bs) Q := by
  obtain ⟨g1, g2, g3, g4, g5, g6, g7, g8, g9, g10, g11, g12, g13, g14, g15, g16, g17, g18, g19, g20, g21, g22⟩ := h
  have hti := gn_iv_in _ _ _ _ _ g19
  have hle := gm_lv_le g7
  have hR := gm_R_le g11
  obtain ⟨m1, m2, m3, m4, m5, m6⟩ := gm_mk_at (S := S) (e := e) (k := k) (w := nI n)
  refine gm_make g6 (by omega) (by omega) (hq _ ⟨gm_mk_eqP g1 (by omega), ?_, ?_, ?_, g5, m6, gm_lv_al g7 (gm_mk_al (by omega)), ?_, ?_, ?_, gm_R_al g11 (gm_mk_al (by omega)) (fun j hj => ?_), hpn, g13, g14, ?_, ?_, g17, g18, hiv _ m1 m2 ((gm_mk_al (Nat.le_refl _)).iv g19), by rw [m4]; decide, h9, h10⟩)
  · rw [gm_mk_row (by omega)]; exact g2
  · rw [gm_mk_row (by omega)]; exact g3
  · rw [gm_mk_row (by omega)]; exact g4
  · rw [gm_mk_row (by omega)]; exact g8
  · rw [gm_mk_row (by omega)]; exact g9
  · rw [gm_mk_row (by omega)]; exact g10
  · rw [gm_mk_row (by omega), gm_mk_row (by omega), gm_mk_row (by omega), gm_mk_row (by omega), gm_mk_row (by omega)]
    exact ⟨rfl, rfl, rfl, rfl, rfl⟩
  · rw [gm_mk_row (by omega)]; exact g15
  · rw [gm_mk_row (by omega)]; exact g16
end GBB
