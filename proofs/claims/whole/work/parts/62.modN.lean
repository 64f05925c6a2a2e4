/-! The model's captures. -/
section GMN
variable {S S0 : Nat → Nat → Int32} {R : Nat → Option gt_T} {d bc bs : Nat} {Q : gx_R → Prop} {L : Nat} {x : Nat → Nat} {Em : Nat → Bool} {A : Nat → Prop} {o : Nat → Nat} {stk : List Nat} {cp : List (Nat × Nat)}
/-- the rows of what is captured: the stack (its top first), the captures -/
def gm_K (S0 S : Nat → Nat → Int32) (stk : List Nat) (cp : List (Nat × Nat)) : Prop :=
  (∀ j, j ∉ [0, 22, 24, 25] → S j = S0 j) ∧ (∀ j, j ∉ [28, 30] → S 0 j = S0 0 j) ∧ S 0 28 = nI stk.length ∧ (∀ i c, stk[i]? = some c → S 22 (stk.length - 1 - i) = nI c) ∧ S 0 30 = nI cp.length ∧ cp.length ≤ 40 ∧ (∀ i a b, cp[i]? = some (a, b) → S 24 i = nI a ∧ S 25 i = nI b) ∧ stk.length ≤ 2600
theorem gm_K_row (h : gm_K S0 S stk cp) {j : Nat} (hj : j ∉ [0, 22, 24, 25]) : S j = S0 j := h.1 j hj
/-- push -/
theorem gm_push (h : gm_K S0 S stk cp) {n p : Nat} (hn : n < 160) (hp : p < 13) (hl : stk.length + 1 ≤ 2600) (hq : ∀ S', gm_K S0 S' ((13 * n + p) :: stk) cp → Q (.inl none, gm_h S')) :
    gx_X gm_P (d + 1) 40 (0, [some (.ref 0), some (.int (nI n)), some (.int (nI p))], [], gm_h S, bc, bs) Q := by
  obtain ⟨h1, h2, h3, h4, h5, h6, h7, h8⟩ := h
  obtain ⟨g1, g2, g3⟩ := gp_13 hn hp
  refine gb_push_0 ?_
  rw [g1, h3, nI_clamp (show stk.length < 2 ^ 31 by omega)]
  refine ⟨vp_in_nI (by omega) (by decide), hq _ ⟨fun j hj => ?_, fun j hj => ?_, ?_, fun i c hi => ?_, ?_, h6, fun i a b hi => ?_, by simp only [List.length_cons]; omega⟩⟩
  · simp only [List.mem_cons, List.not_mem_nil, or_false, not_or] at hj
    rw [gm_u_row _ _ _ (by omega), gm_u_row _ _ _ (by omega)]
    exact h1 j (by simp; omega)
  · simp only [List.mem_cons, List.not_mem_nil, or_false, not_or] at hj
    rw [gm_u_at, if_neg (by omega), gm_u_at, if_neg (by omega)]
    exact h2 j (by simp; omega)
  · rw [gm_u_at, if_pos ⟨rfl, rfl⟩]
    exact nI_1 _
  · rw [gm_u_at, if_neg (by omega), gm_u_at]
    cases i with
    | zero =>
      have e : c = 13 * n + p := by simpa using hi.symm
      rw [if_pos ⟨rfl, by simp⟩, e]
    | succ i =>
      have hi' : stk[i]? = some c := by simpa using hi
      have := (List.getElem?_eq_some_iff.mp hi').1
      rw [if_neg (by simp; omega)]
      have e : ((13 * n + p) :: stk).length - 1 - (i + 1) = stk.length - 1 - i := by simp; omega
      rw [e]
      exact h4 i c hi'
  · rw [gm_u_at, if_neg (by omega), gm_u_at, if_neg (by omega)]
    exact h5
  · rw [gm_u_at, if_neg (by omega), gm_u_at, if_neg (by omega), gm_u_at, if_neg (by omega), gm_u_at, if_neg (by omega)]
    exact h7 i a b hi
/-- keep -/
theorem gm_keep (h : gm_K S0 S stk cp) (hc : cp.length < 40) {a b : Nat} (hq : ∀ S', gm_K S0 S' stk (cp ++ [(a, b)]) → Q (.inl none, gm_h S')) :
    gx_X gm_P (d + 1) 38 (0, [some (.ref 0), some (.int (nI a)), some (.int (nI b))], [], gm_h S, bc, bs) Q := by
  obtain ⟨h1, h2, h3, h4, h5, h6, h7, h8⟩ := h
  have hin : vp_in (S 0 30) 40 := by rw [h5]; exact vp_in_nI hc (by decide)
  have hcl : (S 0 30).toNatClampNeg = cp.length := by rw [h5]; exact nI_clamp (by omega)
  refine gb_keep_0 ⟨fun h => absurd (by rw [h5]; exact nI_lt (b := 40) hc (by decide)) h, fun _ => ⟨hin, hin, gb_keep_39 ?_⟩⟩
  rw [hcl]
  refine hq _ ⟨fun j hj => ?_, fun j hj => ?_, ?_, fun i c hi => ?_, ?_, by simp; omega, fun i a' b' hi => ?_, h8⟩
  · simp only [List.mem_cons, List.not_mem_nil, or_false, not_or] at hj
    rw [gm_u_row _ _ _ (by omega), gm_u_row _ _ _ (by omega), gm_u_row _ _ _ (by omega)]
    exact h1 j (by simp; omega)
  · simp only [List.mem_cons, List.not_mem_nil, or_false, not_or] at hj
    rw [gm_u_at, if_neg (by omega), gm_u_at, if_neg (by omega), gm_u_at, if_neg (by omega)]
    exact h2 j (by simp; omega)
  · rw [gm_u_at, if_neg (by omega), gm_u_at, if_neg (by omega), gm_u_at, if_neg (by omega)]
    exact h3
  · rw [gm_u_at, if_neg (by omega), gm_u_at, if_neg (by omega), gm_u_at, if_neg (by omega)]
    exact h4 i c hi
  · rw [gm_u_at, if_pos ⟨rfl, rfl⟩, h5]
    simp only [List.length_append, List.length_cons, List.length_nil]
    exact nI_1 _
  · have hil : i < cp.length + 1 := by
      have := (List.getElem?_eq_some_iff.mp hi).1
      simpa using this
    by_cases e : i = cp.length
    · subst e
      have e2 : (a, b) = (a', b') := by simpa using hi
      cases e2
      refine ⟨?_, ?_⟩
      · rw [gm_u_at, if_neg (by omega), gm_u_at, if_neg (by omega), gm_u_at, if_pos ⟨rfl, rfl⟩]
      · rw [gm_u_at, if_neg (by omega), gm_u_at, if_pos ⟨rfl, rfl⟩]
    · have hi' : cp[i]? = some (a', b') := by
        rw [List.getElem?_append_left (by omega)] at hi
        exact hi
      refine ⟨?_, ?_⟩
      · rw [gm_u_at, if_neg (by omega), gm_u_at, if_neg (by omega), gm_u_at, if_neg (by omega)]
        exact (h7 i a' b' hi').1
      · rw [gm_u_at, if_neg (by omega), gm_u_at, if_neg (by omega), gm_u_at, if_neg (by omega)]
        exact (h7 i a' b' hi').2
/-- turn: a part of the row is turned round -/
theorem gm_turnL {from' top : Nat} (ht : top ≤ 2600) (hft : from' ≤ top) {o1 : Option Value} (hq : ∀ S', gm_eqr [22] S0 S' → (∀ i, S' 22 i = if from' ≤ i ∧ i < top then S0 22 (from' + top - 1 - i) else S0 22 i) → Q (.inl none, gm_h S')) :
    ∀ (g j : Nat) (S : Nat → Nat → Int32) (o4 : Option Value), top + 1 < g + from' + 2 * j → from' + j ≤ top → j ≤ top → gm_eqr [22] S0 S → (∀ i, S 22 i = if (from' ≤ i ∧ i < from' + j) ∨ (top ≤ i + j ∧ i < top) then S0 22 (from' + top - 1 - i) else S0 22 i) → from' + 2 * j ≤ top + 1 →
    gx_X gm_P (d + 1) 39 (9, [some (.ref 0), o1, some (.int (nI (from' + j))), some (.int (nI (top - j) + -1)), o4], [], gm_h S, bc, bs) Q := by
  intro g
  induction g with
  | zero => intro j S o4 h1 h2 h3 h4 h5 h6; exact absurd h1 (by omega)
  | succ g ih =>
    intro j S o4 hg hj1 hj2 he hrow hle
    by_cases hend : from' + 2 * j + 1 < top
    · -- one more is exchanged
      obtain ⟨m, hm⟩ : ∃ m, top - j = m + 1 := ⟨top - j - 1, by omega⟩
      rw [hm, show nI (m + 1) + -1 = nI m from pk_m1 m]
      have hca : (nI (from' + j)).toNatClampNeg = from' + j := nI_clamp (by omega)
      have hcb : (nI m).toNatClampNeg = m := nI_clamp (by omega)
      have ia : vp_in (nI (from' + j)) 2600 := vp_in_nI (by omega) (by decide)
      have ib : vp_in (nI m) 2600 := vp_in_nI (by omega) (by decide)
      refine gb_turn_9 ⟨fun h => absurd (nI_lt (by omega) (by omega)) h, fun _ => ⟨ia, ib, ia, ib, ?_⟩⟩
      rw [hca, hcb, show nI (from' + j) + Int32.ofInt 1 = nI (from' + (j + 1)) from nI_1 (from' + j), show nI m + Int32.ofInt (-1) = nI (top - (j + 1)) + -1 by rw [show top - (j + 1) = m by omega]; rfl]
      refine ih (j + 1) _ _ (by omega) (by omega) (by omega) ((he.u (by simp) _ _).u (by simp) _ _) (fun i => ?_) (by omega)
      rw [gm_u_at]
      have ha := hrow (from' + j)
      have hb := hrow m
      rw [if_neg (by omega)] at ha hb
      by_cases e1 : i = m
      · rw [if_pos ⟨rfl, e1⟩, if_pos (.inr (by omega)), ha]
        congr 1
        omega
      · rw [if_neg (by omega), gm_u_at]
        by_cases e2 : i = from' + j
        · rw [if_pos ⟨rfl, e2⟩, if_pos (.inl (by omega)), hb]
          congr 1
          omega
        · rw [if_neg (by omega), hrow i]
          by_cases e3 : (from' ≤ i ∧ i < from' + j) ∨ (top ≤ i + j ∧ i < top)
          · rw [if_pos e3, if_pos (by omega)]
          · rw [if_neg e3, if_neg (by omega)]
    · -- the end: they have met
      refine gb_turn_9 ⟨fun _ => hq S he (fun i => ?_), fun h => ?_⟩
      · rw [hrow i]
        by_cases e3 : (from' ≤ i ∧ i < from' + j) ∨ (top ≤ i + j ∧ i < top)
        · rw [if_pos e3, if_pos (by omega)]
        · rw [if_neg e3]
          by_cases e4 : from' ≤ i ∧ i < top
          · rw [if_pos e4]
            congr 1
            omega
          · rw [if_neg e4]
      · cases hz : top - j with
        | zero =>
          rw [hz] at h
          have hf0 : from' + j = 0 ∨ from' + j = 1 := by omega
          rcases hf0 with hf0 | hf0
          · rw [hf0] at h
            exact absurd h (by decide +kernel)
          · rw [hf0] at h
            exact absurd h (by decide +kernel)
        | succ m =>
          rw [hz, show nI (m + 1) + -1 = nI m from pk_m1 m] at h
          have := (nI_ltI (by omega) (by omega)).mp h
          omega
theorem gm_turn {new rest : List Nat} (h : gm_K S0 S (new.reverse ++ rest) cp) {o2 o3 o4 : Option Value} (hq : ∀ S', gm_K S0 S' (new ++ rest) cp → Q (.inl none, gm_h S')) :
    gx_X gm_P (d + 1) 39 (0, [some (.ref 0), some (.int (nI rest.length)), o2, o3, o4], [], gm_h S, bc, bs) Q := by
  obtain ⟨h1, h2, h3, h4, h5, h6, h7, h8⟩ := h
  have hlen : (new.reverse ++ rest).length = rest.length + new.length := by simp; omega
  rw [hlen] at h3 h4 h8
  refine gb_turn_0 ?_
  rw [h3]
  have e : nI (rest.length + new.length) - 1 = nI (rest.length + new.length - 0) + -1 := by
    rw [Nat.sub_zero]
    exact Int32.sub_eq_add_neg _ _
  rw [e]
  refine gm_turnL (S0 := S) (from' := rest.length) (top := rest.length + new.length) h8 (by omega) (fun S' he hrow => hq S' ⟨fun j hj => ?_, fun j hj => ?_, ?_, fun i c hi => ?_, ?_, h6, fun i a b hi => ?_, by simp; omega⟩) (rest.length + new.length + 2) 0 S o4 (by omega) (by omega) (Nat.zero_le _) gm_eqr.refl (fun i => by rw [if_neg (by omega)]) (by omega)
  · rw [he j (fun h => hj (by simp at h; simp [h]))]
    exact h1 j hj
  · rw [he 0 (by simp)]
    exact h2 j hj
  · rw [he 0 (by simp), h3]
    simp [Nat.add_comm]
  · have hil : i < new.length + rest.length := by
      have := (List.getElem?_eq_some_iff.mp hi).1
      simpa using this
    have hl2 : (new ++ rest).length = new.length + rest.length := by simp
    rw [hl2, hrow]
    by_cases hin : i < new.length
    · rw [if_pos (by omega)]
      have hi' : new[i]? = some c := by rw [List.getElem?_append_left hin] at hi; exact hi
      have h9 := h4 (new.length - 1 - i) c (by
        rw [List.getElem?_append_left (by simp; omega), List.getElem?_reverse (by omega), show new.length - 1 - (new.length - 1 - i) = i by omega]
        exact hi')
      rw [← h9]
      congr 1
      omega
    · rw [if_neg (by omega)]
      have hi' : rest[i - new.length]? = some c := by rw [List.getElem?_append_right (by omega)] at hi; exact hi
      have h9 := h4 i c (by
        rw [List.getElem?_append_right (by simp; omega)]
        simpa using hi')
      rw [← h9]
      congr 1
      omega
  · rw [he 0 (by simp)]
    exact h5
  · rw [he 24 (by simp), he 25 (by simp)]
    exact h7 i a b hi
end GMN
