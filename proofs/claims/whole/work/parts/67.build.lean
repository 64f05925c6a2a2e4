/-! The model reads a line: what it has built so far. -/
section GBA
variable {S S' S0 : Nat → Nat → Int32} {d bc bs : Nat} {Q : gx_R → Prop} {nn : Nat}
abbrev gm_iv (S : Nat → Nat → Int32) (t : gt_T) (bb : Bool) (a b n : Nat) : Prop := gn_iv (fun n => gp_n (S 7 n)) (fun n => gp_n (S 8 n)) (fun n => gp_n (S 9 n)) (gm_nx S) t bb a b n
abbrev gm_ch (S : Nat → Nat → Int32) (z : Option Nat) (l : List (gt_T × Nat)) (a e : Nat) : Prop := gn_ch (fun n => gp_n (S 7 n)) (fun n => gp_n (S 8 n)) (fun n => gp_n (S 9 n)) (gm_nx S) z l a e
/-- the nodes from a to b are alike -/
def gm_al (a b : Nat) (S S' : Nat → Nat → Int32) : Prop := ∀ j, a ≤ j → j < b → S' 7 j = S 7 j ∧ S' 8 j = S 8 j ∧ S' 9 j = S 9 j ∧ S' 10 j = S 10 j ∧ S' 11 j = S 11 j
theorem gm_al.nx {a b : Nat} (h : gm_al a b S S') {j : Nat} (h1 : a ≤ j) (h2 : j < b) : gm_nx S' j = gm_nx S j := by
  unfold gm_nx
  rw [(h j h1 h2).2.2.2.1]
theorem gm_al.mono {a b a' b' : Nat} (h : gm_al a b S S') (h1 : a ≤ a') (h2 : b' ≤ b) : gm_al a' b' S S' := fun j j1 j2 => h j (by omega) (by omega)
theorem gm_al.iv {a b : Nat} (h : gm_al a b S S') {t : gt_T} {bb : Bool} {n : Nat} (ht : gm_iv S t bb a b n) : gm_iv S' t bb a b n :=
  gn_iv_eq t bb a b n ht (fun j j1 j2 => by obtain ⟨e1, e2, e3, _⟩ := h j j1 j2; exact ⟨by simp only [e1], by simp only [e2], by simp only [e3]⟩) (fun j j1 j2 _ => h.nx j1 j2)
theorem gm_al.ch {a b : Nat} (h : gm_al a b S S') {z : Option Nat} {l : List (gt_T × Nat)} (hl : gm_ch S z l a b) : gm_ch S' z l a b := by
  refine gn_ch_eq l a b hl (fun j j1 j2 => by obtain ⟨e1, e2, e3, _⟩ := h j j1 j2; exact ⟨by simp only [e1], by simp only [e2], by simp only [e3]⟩) (fun j j1 j2 _ => h.nx j1 j2) (fun p hp => ?_)
  have hm := (gn_ch_le l a b hl).2 p (List.mem_of_getLast? hp)
  rw [h.nx hm.1 hm.2]
  -- the last of the list links to z
  clear h
  induction l generalizing a with
  | nil => cases hp
  | cons q r ih =>
    obtain ⟨t, n⟩ := q
    obtain ⟨b', g1, g2, g3⟩ := hl
    cases r with
    | nil =>
      have e : (t, n) = p := by simpa using hp
      rw [← e]
      exact g2
    | cons q' r' =>
      have hp' : (q' :: r').getLast? = some p := by simpa using hp
      exact ih g3 hp' ((gn_ch_le _ _ _ g3).2 p (List.mem_of_getLast? hp'))
/-- a choice under way: c its node, ss the sequences that are complete, s the one under way, its items -/
def gm_lv (S : Nat → Nat → Int32) (c s : Nat) (ss is' : List (gt_T × Nat)) (e : Nat) : Prop :=
  S 7 c = 10 ∧ S 7 s = 9 ∧ gm_ch S (some s) ss (c + 1) s ∧ S 10 s < 0 ∧ gm_ch S none is' (s + 1) e ∧ (∀ p, (ss.map Prod.snd ++ [s]).head? = some p → S 8 c = nI p) ∧ S 11 c = nI s ∧ (is' = [] → S 8 s < 0) ∧ (∀ p, is'.head? = some p → S 8 s = nI p.2) ∧ (∀ p, is'.getLast? = some p → S 11 s = nI p.2) ∧ (∀ p, p ∈ is' → gt_isl 9 p.1 = false ∧ gt_isl 10 p.1 = false) ∧ (∀ p, p ∈ ss → gt_isl 9 p.1 = false ∧ gt_isl 10 p.1 = false) ∧ S 10 c < 0
theorem gm_lv_le {c s e : Nat} {ss is' : List (gt_T × Nat)} (h : gm_lv S c s ss is' e) : c < s ∧ s < e := by
  obtain ⟨_, _, h1, _, h2, _⟩ := h
  have := (gn_ch_le _ _ _ h1).1
  have := (gn_ch_le _ _ _ h2).1
  omega
theorem gm_lv_al {c s e : Nat} {ss is' : List (gt_T × Nat)} (h : gm_lv S c s ss is' e) (ha : gm_al c e S S') : gm_lv S' c s ss is' e := by
  have hle := gm_lv_le h
  obtain ⟨h1, h2, h3, h4, h5, h6, h7, h8, h9, h10, h11, h12, h13⟩ := h
  obtain ⟨c1, c2, c3, c4, c5⟩ := ha c (by omega) (by omega)
  obtain ⟨s1, s2, s3, s4, s5⟩ := ha s (by omega) (by omega)
  exact ⟨by rw [c1]; exact h1, by rw [s1]; exact h2, (ha.mono (by omega) (by omega)).ch h3, by rw [s4]; exact h4, (ha.mono (by omega) (by omega)).ch h5, fun p hp => by rw [c2]; exact h6 p hp, by rw [c5]; exact h7, fun hi => by rw [s2]; exact h8 hi, fun p hp => by rw [s2]; exact h9 p hp, fun p hp => by rw [s5]; exact h10 p hp, h11, h12, by rw [c4]; exact h13⟩
/-- the brackets that are open around it: choice, sequence, complete ones, items, bracket, from where to where & and ! stand before it -/
def gm_R (S : Nat → Nat → Int32) (nn : Nat) : List (Nat × Nat × List (gt_T × Nat) × List (gt_T × Nat) × Nat × Nat × Nat) → Nat → Prop
  | [], e => e = 160
  | (c, s, ss, is', br, pf, pt) :: r, e => gm_lv S c s ss is' e ∧ S 15 r.length = nI c ∧ S 16 r.length = nI s ∧ S 17 r.length = nI br ∧ S 18 r.length = nI pf ∧ S 19 r.length = nI pt ∧ pf ≤ pt ∧ pt ≤ nn ∧ gm_R S nn r c
def gm_pd : List (Nat × Nat × List (gt_T × Nat) × List (gt_T × Nat) × Nat × Nat × Nat) → Nat
  | [] => 0
  | (_, _, _, _, _, pf, pt) :: r => (pt - pf) + gm_pd r
theorem gm_R_le : ∀ {r : List (Nat × Nat × List (gt_T × Nat) × List (gt_T × Nat) × Nat × Nat × Nat)} {e : Nat}, gm_R S nn r e → 160 ≤ e
  | [], e, h => Nat.le_of_eq h.symm
  | (c, s, ss, is', br, pf, pt) :: r, e, h => by
    obtain ⟨h1, _, _, _, _, _, _, _, h2⟩ := h
    have := gm_lv_le h1
    have := gm_R_le h2
    omega
theorem gm_R_al : ∀ {r : List (Nat × Nat × List (gt_T × Nat) × List (gt_T × Nat) × Nat × Nat × Nat)} {e : Nat}, gm_R S nn r e → gm_al 160 e S S' → (∀ j, j < r.length → S' 15 j = S 15 j ∧ S' 16 j = S 16 j ∧ S' 17 j = S 17 j ∧ S' 18 j = S 18 j ∧ S' 19 j = S 19 j) → gm_R S' nn r e
  | [], e, h, _, _ => h
  | (c, s, ss, is', br, pf, pt) :: r, e, h, ha, hj => by
    obtain ⟨h1, h2, h3, h4, h5, h6, h7, h8, h9⟩ := h
    have hle := gm_lv_le h1
    have hR := gm_R_le h9
    obtain ⟨q1, q2, q3, q4, q5⟩ := hj r.length (by simp)
    exact ⟨gm_lv_al h1 (ha.mono (by omega) (Nat.le_refl _)), by rw [q1]; exact h2, by rw [q2]; exact h3, by rw [q3]; exact h4, by rw [q4]; exact h5, by rw [q5]; exact h6, h7, h8, gm_R_al h9 (ha.mono (Nat.le_refl _) (by omega)) (fun j hj' => hj j (by simp; omega))⟩
/-- alike but for what reading changes -/
def gm_eqP (S0 S : Nat → Nat → Int32) : Prop := (∀ j, j ∉ [0, 6, 7, 8, 9, 10, 11, 15, 16, 17, 18, 19] → S j = S0 j) ∧ (∀ j, j ∉ [17, 18, 19] → S 0 j = S0 0 j) ∧ (∀ j, j ≠ 4 → S 6 j = S0 6 j) ∧ ∀ k j, k ∈ [7, 8, 9, 10] → j < 160 → S k j = S0 k j
theorem gm_eqP.u {k j : Nat} {v : Int32} (h : gm_eqP S0 S) (hk : k = 0 ∧ (j = 17 ∨ j = 18 ∨ j = 19) ∨ k = 6 ∧ j = 4 ∨ (k = 7 ∨ k = 8 ∨ k = 9 ∨ k = 10 ∨ k = 11) ∧ 160 ≤ j ∨ 15 ≤ k ∧ k ≤ 19) : gm_eqP S0 (gm_u S k j v) := by
  obtain ⟨h1, h2, h3, h4⟩ := h
  refine ⟨fun j' hj => ?_, fun j' hj => ?_, fun j' hj => ?_, fun k' j' hk' hj => ?_⟩
  · simp only [List.mem_cons, List.not_mem_nil, or_false, not_or] at hj
    rw [gm_u_row _ _ _ (by omega)]
    exact h1 j' (by simp; omega)
  · simp only [List.mem_cons, List.not_mem_nil, or_false, not_or] at hj
    rw [gm_u_at, if_neg (by omega)]
    exact h2 j' (by simp; omega)
  · rw [gm_u_at, if_neg (by omega)]
    exact h3 j' hj
  · simp only [List.mem_cons, List.not_mem_nil, or_false] at hk'
    rw [gm_u_at, if_neg (by omega)]
    exact h4 k' j' (by simp; omega) hj
/-- a node is made -/
def gm_mk (S : Nat → Nat → Int32) (e : Nat) (k w : Int32) : Nat → Nat → Int32 := gm_u (gm_u (gm_u (gm_u (gm_u (gm_u S 6 4 (nI (e + 1 - 160))) 7 e k) 8 e w) 9 e 0) 10 e (-1)) 11 e w
theorem gm_mk_eqP {e : Nat} {k w : Int32} (h : gm_eqP S0 S) (he : 160 ≤ e) : gm_eqP S0 (gm_mk S e k w) := (((((h.u (by omega)).u (by omega)).u (by omega)).u (by omega)).u (by omega)).u (by omega)
theorem gm_mk_row {e j : Nat} {k w : Int32} (hj : j < 6 ∨ 11 < j) : gm_mk S e k w j = S j := by
  unfold gm_mk
  rw [gm_u_row _ _ _ (by omega), gm_u_row _ _ _ (by omega), gm_u_row _ _ _ (by omega), gm_u_row _ _ _ (by omega), gm_u_row _ _ _ (by omega), gm_u_row _ _ _ (by omega)]
theorem gm_mk_al {a b e : Nat} {k w : Int32} (h : b ≤ e) : gm_al a b S (gm_mk S e k w) := fun j j1 j2 => by
  unfold gm_mk
  simp only [gm_u_at]
  refine ⟨?_, ?_, ?_, ?_, ?_⟩ <;> simp <;> intro h <;> omega
theorem gm_mk_at {e : Nat} {k w : Int32} : gm_mk S e k w 7 e = k ∧ gm_mk S e k w 8 e = w ∧ gm_mk S e k w 9 e = 0 ∧ gm_mk S e k w 10 e = -1 ∧ gm_mk S e k w 11 e = w ∧ gm_mk S e k w 6 4 = nI (e + 1 - 160) := by
  unfold gm_mk
  simp only [gm_u_at]
  refine ⟨?_, ?_, ?_, ?_, ?_, ?_⟩ <;> simp
/-- make -/
theorem gm_make {e : Nat} {k w : Int32} (h6 : S 6 4 = nI (e - 160)) (he : 160 ≤ e) (he2 : e < 200) {o3 : Option Value} (hq : Q (.inl (some (.int (nI e))), gm_h (gm_mk S e k w))) :
    gx_X gm_P (d + 1) 9 (0, [some (.ref 0), some (.int k), some (.int w), o3], [], gm_h S, bc, bs) Q := by
  have e1 : (160 : Int32) + S 6 4 = nI e := by
    rw [h6, show (160 : Int32) = nI 160 by decide +kernel, nI_add, show 160 + (e - 160) = e by omega]
  have e2 : S 6 4 + 1 = nI (e + 1 - 160) := by
    rw [h6, show e + 1 - 160 = (e - 160) + 1 by omega]
    exact nI_1 _
  have hc : (nI e).toNatClampNeg = e := nI_clamp (by omega)
  have hin : vp_in (nI e) 200 := vp_in_nI he2 (by decide)
  refine gb_make_0 ?_
  rw [e1, hc, e2]
  exact ⟨hin, hin, hin, hin, hin, hq⟩
/-- append to one that has no child yet -/
theorem gm_append0 {a b : Nat} (ha : a < 200) (h8 : S 8 a < 0) (hq : Q (.inl none, gm_h (gm_u (gm_u S 8 a (nI b)) 11 a (nI b)))) :
    gx_X gm_P (d + 1) 10 (0, [some (.ref 0), some (.int (nI a)), some (.int (nI b))], [], gm_h S, bc, bs) Q := by
  have hc : (nI a).toNatClampNeg = a := nI_clamp (by omega)
  have hin : vp_in (nI a) 200 := vp_in_nI ha (by decide)
  refine gb_append_0 ?_
  rw [hc]
  refine ⟨hin, fun h => absurd h8 h, fun _ => ⟨hin, gb_append_31 ⟨hin, ?_⟩⟩⟩
  rw [hc]
  exact hq
/-- append to one that has children: l the last -/
theorem gm_append1 {a b l : Nat} (ha : a < 200) (hl : l < 200) (h8 : ¬ S 8 a < 0) (h11 : S 11 a = nI l) (hq : Q (.inl none, gm_h (gm_u (gm_u S 10 l (nI b)) 11 a (nI b)))) :
    gx_X gm_P (d + 1) 10 (0, [some (.ref 0), some (.int (nI a)), some (.int (nI b))], [], gm_h S, bc, bs) Q := by
  have hc : (nI a).toNatClampNeg = a := nI_clamp (by omega)
  have hin : vp_in (nI a) 200 := vp_in_nI ha (by decide)
  refine gb_append_0 ?_
  rw [hc, h11, nI_clamp (show l < 2 ^ 31 by omega)]
  refine ⟨hin, fun _ => ⟨hin, vp_in_nI hl (by decide), gb_append_31 ⟨hin, ?_⟩⟩, fun h => absurd h h8⟩
  rw [hc]
  exact hq
end GBA
