/-! The model's define and shown. -/
theorem gp_by {r j : Nat} (hr : r < 4) (hj : j < 40) : nI (160 + j) + ((40 : Int32) * nI r - 160) = nI (40 * r + j) := by
  have aux : ∀ (r : Fin 4) (j : Fin 40), nI (160 + j.val) + ((40 : Int32) * nI r.val - 160) = nI (40 * r.val + j.val) := by decide +kernel
  exact aux ⟨r, hr⟩ ⟨j, hj⟩
section GDF
variable {S S0 S1 : Nat → Nat → Int32} {d bc bs : Nat} {Q : gx_R → Prop} {ch : Nat → Nat} {nn : Nat} {R : Nat → Option gt_T}
/-- the nodes that were made are copied to a rule's place: j of them so far -/
def gm_cp (S1 S : Nat → Nat → Int32) (r j : Nat) : Prop := (∀ k, k ∉ [7, 8, 9, 10] → S k = S1 k) ∧ (∀ k i, k ∈ [7, 8, 9, 10] → (i < 40 * r ∨ 40 * r + j ≤ i) → S k i = S1 k i) ∧
  ∀ i, i < j → S 7 (40 * r + i) = S1 7 (160 + i) ∧ S 9 (40 * r + i) = S1 9 (160 + i) ∧ S 8 (40 * r + i) = (if S1 7 (160 + i) = 0 ∨ S1 7 (160 + i) = 1 ∨ S1 7 (160 + i) = 2 then S1 8 (160 + i) else S1 8 (160 + i) + ((40 : Int32) * nI r - 160)) ∧ S 10 (40 * r + i) = (if S1 10 (160 + i) < 0 then -1 else S1 10 (160 + i) + ((40 : Int32) * nI r - 160))
theorem gm_copy {r m : Nat} (hr : r < 4) (hm : m ≤ 38) (h6 : S1 6 4 = nI m)
    (K : ∀ S' o4, gm_cp S1 S' r m → gx_X gm_P (d + 1) 19 (220, [some (.ref 0), some (.int (nI r)), some (.int ((40 : Int32) * nI r - 160)), some (.int 0), o4], [], gm_h (gm_u (gm_u S' 3 r (vp_nar .boolean 1)) 5 r (S1 0 2)), bc, bs) Q) :
    ∀ (f j : Nat) (S : Nat → Nat → Int32) (o4 : Option Value), j + f = m → gm_cp S1 S r j →
    gx_X gm_P (d + 1) 19 (58, [some (.ref 0), some (.int (nI r)), some (.int ((40 : Int32) * nI r - 160)), some (.int (nI (160 + j))), o4], [], gm_h S, bc, bs) Q := by
  have hcr : (nI r).toNatClampNeg = r := nI_clamp (by omega)
  have hin4 : vp_in (nI r) 4 := vp_in_nI hr (by decide)
  intro f
  induction f with
  | zero =>
    intro j S o4 hj hc
    have e : j = m := by omega
    subst e
    have e1 : (160 : Int32) + S 6 4 = nI (160 + j) := by
      rw [hc.1 6 (by simp), h6, show (160 : Int32) = nI 160 by decide +kernel, nI_add]
    refine gb_define_58 ⟨fun _ => ⟨hin4, hin4, ?_⟩, fun h => ?_⟩
    · rw [hcr]
      have e2 : S 0 2 = S1 0 2 := by rw [hc.1 0 (by simp)]
      rw [e2]
      exact K S o4 hc
    · rw [e1] at h
      have := (nI_ltI (by omega) (by omega)).mp h
      omega
  | succ f ih =>
    intro j S o4 hj hc
    have e1 : (160 : Int32) + S 6 4 = nI (160 + m) := by
      rw [hc.1 6 (by simp), h6, show (160 : Int32) = nI 160 by decide +kernel, nI_add]
    have hcj : (nI (160 + j)).toNatClampNeg = 160 + j := nI_clamp (by omega)
    have hinj : vp_in (nI (160 + j)) 200 := vp_in_nI (by omega) (by decide)
    have eb : nI (160 + j) + ((40 : Int32) * nI r - 160) = nI (40 * r + j) := gp_by hr (by omega)
    have hcb : (nI (40 * r + j)).toNatClampNeg = 40 * r + j := nI_clamp (by omega)
    have hinb : vp_in (nI (40 * r + j)) 200 := vp_in_nI (by omega) (by decide)
    obtain ⟨c1, c2, c3⟩ := id hc
    have s7 : S 7 (160 + j) = S1 7 (160 + j) := c2 7 _ (by simp) (by omega)
    have s8 : S 8 (160 + j) = S1 8 (160 + j) := c2 8 _ (by simp) (by omega)
    have s9 : S 9 (160 + j) = S1 9 (160 + j) := c2 9 _ (by simp) (by omega)
    have s10 : S 10 (160 + j) = S1 10 (160 + j) := c2 10 _ (by simp) (by omega)
    -- behind the kinds
    have go : ∀ (b : Bool) (o4 : Option Value), (b = true ↔ (S1 7 (160 + j) = 0 ∨ S1 7 (160 + j) = 1 ∨ S1 7 (160 + j) = 2)) → gx_X gm_P (d + 1) 19 (106, [some (.ref 0), some (.int (nI r)), some (.int ((40 : Int32) * nI r - 160)), some (.int (nI (160 + j))), o4], [.int (gp_b b)], gm_h S, bc, bs) Q := fun b o4 hb => by
      -- the rest of the turn
      have rest : ∀ (w : Int32) (o4 : Option Value), w = (if S1 7 (160 + j) = 0 ∨ S1 7 (160 + j) = 1 ∨ S1 7 (160 + j) = 2 then S1 8 (160 + j) else S1 8 (160 + j) + ((40 : Int32) * nI r - 160)) → gx_X gm_P (d + 1) 19 (151, [some (.ref 0), some (.int (nI r)), some (.int ((40 : Int32) * nI r - 160)), some (.int (nI (160 + j))), o4], [.int w, .int (nI (40 * r + j)), .ref 8], gm_h (gm_u S 7 (40 * r + j) (S1 7 (160 + j))), bc, bs) Q := fun w o4 hw => by
        have nxt : ∀ (v : Int32) (o4 : Option Value), v = (if S1 10 (160 + j) < 0 then -1 else S1 10 (160 + j) + ((40 : Int32) * nI r - 160)) → gx_X gm_P (d + 1) 19 (194, [some (.ref 0), some (.int (nI r)), some (.int ((40 : Int32) * nI r - 160)), some (.int (nI (160 + j))), o4], [.int v, .int (nI (40 * r + j)), .ref 10], gm_h (gm_u (gm_u (gm_u S 7 (40 * r + j) (S1 7 (160 + j))) 8 (40 * r + j) w) 9 (40 * r + j) (S1 9 (160 + j))), bc, bs) Q := fun v o4 hv => by
          refine gb_define_194 ⟨hinb, ?_⟩
          rw [hcb, show nI (160 + j) + Int32.ofInt 1 = nI (160 + (j + 1)) from nI_1 (160 + j)]
          refine ih (j + 1) _ o4 (by omega) ⟨fun k hk => ?_, fun k i hk hi => ?_, fun i hi => ?_⟩
          · simp only [List.mem_cons, List.not_mem_nil, or_false, not_or] at hk
            rw [gm_u_row _ _ _ (by omega), gm_u_row _ _ _ (by omega), gm_u_row _ _ _ (by omega), gm_u_row _ _ _ (by omega)]
            exact c1 k (by simp; omega)
          · simp only [List.mem_cons, List.not_mem_nil, or_false] at hk
            rw [gm_u_at, if_neg (by omega), gm_u_at, if_neg (by omega), gm_u_at, if_neg (by omega), gm_u_at, if_neg (by omega)]
            exact c2 k i (by simp; omega) (by omega)
          · by_cases e : i = j
            · subst e
              refine ⟨?_, ?_, ?_, ?_⟩
              · rw [gm_u_at, if_neg (by omega), gm_u_at, if_neg (by omega), gm_u_at, if_neg (by omega), gm_u_at, if_pos ⟨rfl, rfl⟩]
              · rw [gm_u_at, if_neg (by omega), gm_u_at, if_pos ⟨rfl, rfl⟩]
              · rw [gm_u_at, if_neg (by omega), gm_u_at, if_neg (by omega), gm_u_at, if_pos ⟨rfl, rfl⟩, hw]
              · rw [gm_u_at, if_pos ⟨rfl, rfl⟩, hv]
            · obtain ⟨q1, q2, q3, q4⟩ := c3 i (by omega)
              refine ⟨?_, ?_, ?_, ?_⟩
              · rw [gm_u_at, if_neg (by omega), gm_u_at, if_neg (by omega), gm_u_at, if_neg (by omega), gm_u_at, if_neg (by omega)]; exact q1
              · rw [gm_u_at, if_neg (by omega), gm_u_at, if_neg (by omega), gm_u_at, if_neg (by omega), gm_u_at, if_neg (by omega)]; exact q2
              · rw [gm_u_at, if_neg (by omega), gm_u_at, if_neg (by omega), gm_u_at, if_neg (by omega), gm_u_at, if_neg (by omega)]; exact q3
              · rw [gm_u_at, if_neg (by omega), gm_u_at, if_neg (by omega), gm_u_at, if_neg (by omega), gm_u_at, if_neg (by omega)]; exact q4
        refine gb_define_151 ?_
        rw [hcb, hcj, eb, hcb]
        have t9 : gm_u S 7 (40 * r + j) (S1 7 (160 + j)) 9 (160 + j) = S1 9 (160 + j) := by rw [gm_u_at, if_neg (by omega)]; exact s9
        have t10 : gm_u S 7 (40 * r + j) (S1 7 (160 + j)) 10 (160 + j) = S1 10 (160 + j) := by rw [gm_u_at, if_neg (by omega)]; exact s10
        rw [t9, t10]
        refine ⟨hinb, hinj, hinb, hinj, fun h => ⟨hinj, nxt _ _ ?_⟩, fun h => nxt _ _ ?_⟩
        · rw [if_neg h]
        · rw [if_pos h]
      refine gb_define_106 ?_
      rw [hcj, eb, hcb, s7, s8]
      refine ⟨hinj, hinb, fun h => ⟨hinj, rest _ _ ?_⟩, fun h => ⟨hinj, rest _ _ ?_⟩⟩
      · have hbf := (gp_b_0 _).mp h
        rw [if_neg (fun hh => by rw [hb.mpr hh] at hbf; cases hbf)]
      · have hbt : b = true := by
          cases hbb : b with
          | true => rfl
          | false => rw [hbb] at h; exact absurd rfl h
        rw [if_pos (hb.mp hbt)]
    refine gb_define_58 ⟨fun h => absurd (by rw [e1]; exact nI_lt (by omega) (by omega)) h, fun _ => ?_⟩
    rw [hcj, s7]
    refine ⟨hinj, fun h => gb_define_101 (go true _ ⟨fun _ => .inl h, fun _ => rfl⟩), fun h0 => ⟨hinj, fun h => gb_define_101 (go true _ ⟨fun _ => .inr (.inl h), fun _ => rfl⟩), fun h1 => ⟨hinj, fun h2 => go false _ ⟨(fun h => by cases h), fun h => ?_⟩, fun h => gb_define_101 (go true _ ⟨fun _ => .inr (.inr h), fun _ => rfl⟩)⟩⟩⟩
    rcases h with h | h | h
    · exact absurd h h0
    · exact absurd h h1
    · exact absurd h h2
/-- the line is kept -/
theorem gm_lines {r : Nat} (hr : r < 4) (hn : nn ≤ 20) {o2 o4 : Option Value} (hS2 : S1 0 2 = nI nn)
    (K : ∀ S' o3, (∀ k, k ≠ 4 → S' k = S1 k) → (∀ i, i < 20 * r ∨ 20 * r + nn ≤ i → S' 4 i = S1 4 i) → (∀ i, i < nn → S' 4 (20 * r + i) = S1 1 i) → gx_X gm_P (d + 1) 19 (251, [some (.ref 0), some (.int (nI r)), o2, o3, o4], [], gm_h S', bc, bs) Q) :
    ∀ (f j : Nat) (S : Nat → Nat → Int32), j + f = nn → (∀ k, k ≠ 4 → S k = S1 k) → (∀ i, i < 20 * r ∨ 20 * r + j ≤ i → S 4 i = S1 4 i) → (∀ i, i < j → S 4 (20 * r + i) = S1 1 i) →
    gx_X gm_P (d + 1) 19 (220, [some (.ref 0), some (.int (nI r)), o2, some (.int (nI j)), o4], [], gm_h S, bc, bs) Q := by
  have e20 : ∀ j, j < 20 → (20 : Int32) * nI r + nI j = nI (20 * r + j) := fun j hj => by
    rw [show (20 : Int32) * nI r = nI (20 * r) from (Int32.ofNat_mul 20 r).symm, nI_add]
  intro f
  induction f with
  | zero =>
    intro j S hj h1 h2 h3
    have e : j = nn := by omega
    subst e
    refine gb_define_220 ⟨fun _ => K S _ h1 h2 h3, fun h => ?_⟩
    rw [h1 0 (by omega), hS2] at h
    have := (nI_ltI (by omega) (by omega)).mp h
    omega
  | succ f ih =>
    intro j S hj h1 h2 h3
    refine gb_define_220 ⟨fun h => absurd (by rw [h1 0 (by omega), hS2]; exact nI_lt (by omega) (by omega)) h, fun _ => ?_⟩
    rw [e20 j (by omega), nI_clamp (show 20 * r + j < 2 ^ 31 by omega), nI_clamp (show j < 2 ^ 31 by omega), show nI j + Int32.ofInt 1 = nI (j + 1) from nI_1 j]
    refine ⟨vp_in_nI (by omega) (by decide), vp_in_nI (by omega) (by decide), ih (j + 1) _ (by omega) (fun k hk => ?_) (fun i hi => ?_) (fun i hi => ?_)⟩
    · rw [gm_u_row _ _ _ hk]
      exact h1 k hk
    · rw [gm_u_at, if_neg (by omega)]
      exact h2 i (by omega)
    · by_cases e : i = j
      · subst e
        rw [gm_u_at, if_pos ⟨rfl, rfl⟩, h1 1 (by omega)]
      · rw [gm_u_at, if_neg (by omega)]
        exact h3 i (by omega)
/-- alike but for what define changes -/
def gm_eqD (S0 S : Nat → Nat → Int32) : Prop := (∀ j, j ∉ [0, 3, 4, 5, 6, 7, 8, 9, 10, 11, 15, 16, 17, 18, 19] → S j = S0 j) ∧ (∀ j, j ∉ [0, 2, 17, 18, 19] → S 0 j = S0 0 j) ∧ S 0 2 = 0
/-- what the model holds of a rule whose tree is t -/
def gm_rl (S : Nat → Nat → Int32) (r : Nat) (t : gt_T) : Prop := r < 4 ∧ (∀ k, gt_nms t k = true → k < 4) ∧ gt_sz t ≤ 20 ∧ gm_trr S r t false (40 * r) ∧ ∀ n, gm_Dr S r n → ∃ t', gm_trr S r t' false n ∧ (∀ k, gt_nms t' k = true → gt_nms t k = true) ∧ ∀ E, gt_grd E t' = true → gt_grd E t = true
theorem gm_rl_eq {r : Nat} {t : gt_T} (h4 : ∀ k n, k ∈ [7, 8, 9, 10] → 40 * r ≤ n → n < 40 * r + 40 → S k n = S0 k n) (e6 : S 6 r = S0 6 r) (hm : gp_n (S0 6 r) ≤ 40) (hrl : gm_rl S0 r t) : gm_rl S r t := by
  obtain ⟨k1, k2, k3, k4, k5⟩ := hrl
  have eD : gm_Dr S r = gm_Dr S0 r := by funext n; unfold gm_Dr; rw [e6]
  -- what a tree of the rule is stays
  have tr : ∀ (t' : gt_T) (bb : Bool) (n : Nat), gm_trr S0 r t' bb n → gm_trr S r t' bb n := by
    intro t'
    have row : ∀ n, gm_Dr S0 r n → S 7 n = S0 7 n ∧ S 8 n = S0 8 n ∧ S 9 n = S0 9 n ∧ gm_nx S n = gm_nx S0 n := fun n hn => by
      obtain ⟨q1, q2⟩ := hn
      refine ⟨h4 7 n (by simp) q1 (by omega), h4 8 n (by simp) q1 (by omega), h4 9 n (by simp) q1 (by omega), ?_⟩
      unfold gm_nx
      rw [h4 10 n (by simp) q1 (by omega)]
    unfold gm_trr
    rw [eD]
    induction t' with
    | cat l hi =>
      intro bb n ⟨a1, a2, a3, a4, a5⟩
      obtain ⟨q1, q2, q3, q4⟩ := row n a1
      exact ⟨a1, fun hb => by rw [q4]; exact a2 hb, by simp only [q1]; exact a3, by simp only [q2]; exact a4, by simp only [q3]; exact a5⟩
    | parser q =>
      intro bb n ⟨a1, a2, a3, a4⟩
      obtain ⟨q1, q2, q3, q4⟩ := row n a1
      exact ⟨a1, fun hb => by rw [q4]; exact a2 hb, by simp only [q1]; exact a3, by simp only [q2]; exact a4⟩
    | const q =>
      intro bb n ⟨a1, a2, a3⟩
      obtain ⟨q1, q2, q3, q4⟩ := row n a1
      exact ⟨a1, fun hb => by rw [q4]; exact a2 hb, by simp only [q1]; exact a3⟩
    | unary m a ih =>
      intro bb n ⟨a1, a2, a3, a4⟩
      obtain ⟨q1, q2, q3, q4⟩ := row n a1
      exact ⟨a1, fun hb => by rw [q4]; exact a2 hb, by simp only [q1]; exact a3, by simp only [q2]; exact ih _ _ a4⟩
    | node m k a ih =>
      intro bb n ⟨a1, a2, a3, a4, a5⟩
      obtain ⟨q1, q2, q3, q4⟩ := row n a1
      exact ⟨a1, fun hb => by rw [q4]; exact a2 hb, a3, by simp only [q1]; exact a4, by simp only [q2]; exact ih _ _ a5⟩
    | trailingNode m k l a ih =>
      intro bb n ⟨a1, a2, a3, a4⟩
      obtain ⟨q1, q2, q3, q4⟩ := row n a1
      exact ⟨a1, fun hb => by rw [q4]; exact a2 hb, by simp only [q1]; exact a3, by simp only [q2]; exact ih _ _ a4⟩
    | nodeWithAntiquot s k a ih =>
      intro bb n ⟨a1, a2, a3, a4, a5⟩
      obtain ⟨q1, q2, q3, q4⟩ := row n a1
      exact ⟨a1, fun hb => by rw [q4]; exact a2 hb, by simp only [q1]; exact a3, by simp only [q2]; exact ih _ _ a4, a5⟩
    | sepBy x s y b' ihx ihy =>
      intro bb n ⟨a1, a2, a3, m, a4, a5⟩
      obtain ⟨q1, q2, q3, q4⟩ := row n (gn_tr_D _ _ _ a2)
      exact ⟨a1, ihx _ _ a2, a3, m, by rw [q4]; exact a4, ihy _ _ a5⟩
    | sepBy1 x s y b' ihx ihy =>
      intro bb n ⟨a1, a2, a3, m, a4, a5⟩
      obtain ⟨q1, q2, q3, q4⟩ := row n (gn_tr_D _ _ _ a2)
      exact ⟨a1, ihx _ _ a2, a3, m, by rw [q4]; exact a4, ihy _ _ a5⟩
    | _ => exact fun bb n h => False.elim h
  refine ⟨k1, k2, k3, tr _ _ _ k4, fun n hn => ?_⟩
  rw [eD] at hn
  obtain ⟨t', q1, q2, q3⟩ := k5 n hn
  exact ⟨t', tr _ _ _ q1, q2, q3⟩
theorem gm_gr_eqP (h : gm_eqP S0 S) (hg : gm_gr S0 R) : gm_gr S R := by
  obtain ⟨h1, h2, h3, h4⟩ := h
  obtain ⟨g1, g2, g3⟩ := hg
  refine ⟨fun r hr => by rw [h1 3 (by simp)]; exact g1 r hr, fun r hr => by rw [h3 r (by omega)]; exact g2 r hr, fun r t ht => ?_⟩
  have hr := (g3 r t ht).1
  exact gm_rl_eq (fun k n hk n1 n2 => h4 k n hk (by omega)) (h3 r (by omega)) (g2 r hr) (g3 r t ht)
/-- the copied nodes are the rule's tree -/
theorem gm_cp_rl {r m : Nat} {T : gt_T} (hr : r < 4) (hm : m ≤ 38) (hc : gm_cp S1 S r m) (h6 : S1 6 r = nI m) (hT : gm_iv S1 T false 160 (160 + m) 160) (hnm : ∀ k, gt_nms T k = true → k < 4) (hsz : gt_sz T ≤ 20) : gm_rl S r T := by
  obtain ⟨c1, c2, c3⟩ := hc
  have e6 : gp_n (S 6 r) = m := by rw [c1 6 (by simp), h6, gp_In (by omega)]
  have hin := gn_iv_in _ _ _ _ _ hT
  -- at the rule's place
  have sh : ∀ (t : gt_T) (bb : Bool) (a b n : Nat), b ≤ m → gm_iv S1 t bb (160 + a) (160 + b) (160 + n) → gm_iv S t bb (40 * r + a) (40 * r + b) (40 * r + n) := fun t bb a b n hb ht =>
    gn_iv_shift (B := 40) t bb a b n (by omega) ht (fun j j1 j2 => by
      obtain ⟨q1, q2, q3, q4⟩ := c3 j (by omega)
      have kle : gp_n (S1 7 (160 + j)) ≤ 2 ↔ (S1 7 (160 + j) = 0 ∨ S1 7 (160 + j) = 1 ∨ S1 7 (160 + j) = 2) := by
        constructor
        · intro h
          have : gp_n (S1 7 (160 + j)) = 0 ∨ gp_n (S1 7 (160 + j)) = 1 ∨ gp_n (S1 7 (160 + j)) = 2 := by omega
          rcases this with h | h | h
          · exact .inl (gp_of h)
          · exact .inr (.inl (gp_of h))
          · exact .inr (.inr (gp_of h))
        · rintro (h | h | h) <;> rw [h] <;> decide
      refine ⟨by simp only [q1], by simp only [q2], fun hk => ?_, fun hk w hw40 hw => ?_, fun hn => ?_, fun w hw40 hw => ?_⟩
      · show gp_n (S 8 (40 * r + j)) = gp_n (S1 8 (160 + j))
        rw [q3, if_pos (kle.mp hk)]
      · show gp_n (S 8 (40 * r + j)) = 40 * r + w
        have hw : gp_n (S1 8 (160 + j)) = 160 + w := hw
        have hk : 2 < gp_n (S1 7 (160 + j)) := hk
        rw [q3, if_neg (fun hh => by have := kle.mpr hh; omega), gp_of hw, gp_by hr hw40, gp_In (by omega)]
      · have hn : gm_nx S1 (160 + j) = none := hn
        have h0 := gm_nx_none hn
        show gm_nx S (40 * r + j) = none
        unfold gm_nx
        rw [q4, if_pos h0]
        rfl
      · have hw : gm_nx S1 (160 + j) = some (160 + w) := hw
        have h0 := gm_nx_some hw
        have hv : S 10 (40 * r + j) = nI (40 * r + w) := by
          rw [q4, h0, if_neg (nI_pos (by omega)), gp_by hr hw40]
        show gm_nx S (40 * r + j) = some (40 * r + w)
        unfold gm_nx
        rw [hv, if_neg (nI_pos (by omega)), gp_In (by omega)])
  have hD : ∀ j, 40 * r ≤ j → j < 40 * r + m → gm_Dr S r j := fun j j1 j2 => ⟨j1, by rw [e6]; exact j2⟩
  have hroot := sh T false 0 m 0 (Nat.le_refl _) hT
  refine ⟨hr, hnm, hsz, gn_iv_tr T false _ _ _ hroot (fun j j1 j2 => hD j (by omega) j2), fun n hn => ?_⟩
  obtain ⟨n1, n2⟩ := hn
  rw [e6] at n2
  obtain ⟨t', a', b', q1, q2, q3, q4, q5⟩ := gn_iv_all T false _ _ _ hroot n (by omega) n2
  exact ⟨t', gn_iv_tr t' false _ _ _ q3 (fun j j1 j2 => hD j (by omega) (by omega)), q4, q5⟩
/-- define -/
theorem gm_define (hl : gm_ln S nn ch) (hg : gm_gr S R) {o1 o2 o3 o4 : Option Value}
    (hq0 : gq_line ch nn = none → ∀ S', gm_eqD S S' → S' 0 0 = 1 → gm_gr S' R → S' 4 = S 4 → S' 5 = S 5 → Q (.inl (some (.int 0)), gm_h S'))
    (hq1 : ∀ rr T S', gq_line ch nn = some (rr, T) → gm_eqD S S' → S' 0 0 = 0 → gm_gr S' (gp_at R rr (some T)) → (∀ i, i < 20 * rr ∨ 20 * rr + nn ≤ i → S' 4 i = S 4 i) → (∀ i, i < nn → S' 4 (20 * rr + i) = nI (ch i)) → (∀ j, j ≠ rr → S' 5 j = S 5 j) → S' 5 rr = nI nn → Q (.inl (some (.int (nI rr))), gm_h S')) :
    gx_X gm_P (d + 7) 19 (0, [some (.ref 0), o1, o2, o3, o4], [], gm_h S, bc, bs) Q := by
  refine gb_define_0 (gm_read hl (fun hn S1 h1 => ?_) (fun rr T S1 m hs h1 h6 hm hT => ?_))
  · refine gb_define_5 ⟨fun _ => gb_define_13 ⟨fun _ => gb_define_251 ⟨fun _ => gb_define_268 ?_, fun h => absurd h (by rw [gm_u_at, if_pos ⟨rfl, rfl⟩]; decide)⟩, fun h => absurd h (by decide)⟩, fun h => absurd rfl h⟩
    refine hq0 hn _ ⟨fun j hj => ?_, fun j hj => ?_, ?_⟩ ?_ (gm_gr_u0 (gm_gr_u0 (gm_gr_eqP h1 hg))) ?_ ?_
    · simp only [List.mem_cons, List.not_mem_nil, or_false, not_or] at hj
      rw [gm_u_row _ _ _ (by omega), gm_u_row _ _ _ (by omega)]
      exact h1.1 j (by simp; omega)
    · simp only [List.mem_cons, List.not_mem_nil, or_false, not_or] at hj
      rw [gm_u_at, if_neg (by omega), gm_u_at, if_neg (by omega)]
      exact h1.2.1 j (by simp; omega)
    · rw [gm_u_at, if_pos ⟨rfl, rfl⟩]
    · rw [gm_u_at, if_neg (by omega), gm_u_at, if_pos ⟨rfl, rfl⟩]
    · rw [gm_u_row _ _ _ (by omega), gm_u_row _ _ _ (by omega)]
      exact h1.1 4 (by simp)
    · rw [gm_u_row _ _ _ (by omega), gm_u_row _ _ _ (by omega)]
      exact h1.1 5 (by simp)
  · obtain ⟨l1, l2, l3, l4⟩ := gq_line_ok hl.2.2.2 hs
    have hlS := gm_ln_eqP h1 hl
    have e0 : S1 1 0 - 65 = nI rr := by
      rw [(hlS.2.2.1 0 (by omega)).1, l2]
      have : rr = 0 ∨ rr = 1 ∨ rr = 2 ∨ rr = 3 := by omega
      rcases this with h | h | h | h <;> rw [h] <;> decide +kernel
    have hg1 := gm_gr_eqP h1 hg
    refine gb_define_5 ⟨fun h => absurd h (by decide), fun _ => gb_define_13 ⟨fun h => absurd rfl h, fun _ => ?_⟩⟩
    rw [e0, nI_clamp (show rr < 2 ^ 31 by omega)]
    refine ⟨vp_in_nI (by omega) (by decide), ?_⟩
    rw [show (160 : Int32) = nI (160 + 0) by decide +kernel]
    -- the state from which is copied
    have k6 : gm_u (gm_u S1 0 0 0) 6 rr (S1 6 4) 6 4 = nI m := by
      rw [gm_u_at, if_neg (by omega), gm_u_at, if_neg (by omega)]
      exact h6
    have k6r : gm_u (gm_u S1 0 0 0) 6 rr (S1 6 4) 6 rr = nI m := by rw [gm_u_at, if_pos ⟨rfl, rfl⟩]; exact h6
    have k2 : gm_u (gm_u S1 0 0 0) 6 rr (S1 6 4) 0 2 = nI nn := by
      rw [gm_u_at, if_neg (by omega), gm_u_at, if_neg (by omega)]
      exact hlS.1
    have hT1 : gm_iv (gm_u (gm_u S1 0 0 0) 6 rr (S1 6 4)) T false 160 (160 + m) 160 := ((gm_u_al (by omega)).trans (gm_u_al (by omega))).iv hT
    refine gm_copy l1 hm k6 (fun S2 o4 hc => ?_) m 0 _ o4 (by omega) ⟨fun _ _ => rfl, fun _ _ _ _ => rfl, fun i hi => absurd hi (Nat.not_lt_zero _)⟩
    have hrl := gm_cp_rl l1 hm hc k6r hT1 (fun k hk => ((l4 k).mp hk).1) (gq_line_sz hl.2.2.2 hl.2.1 hs)
    obtain ⟨c1, c2, c3⟩ := hc
    rw [k2]
    refine gm_lines (S1 := gm_u (gm_u S2 3 rr (vp_nar .boolean 1)) 5 rr (nI nn)) l1 hl.2.1 ?_ (fun S3 o3 w1 w2 w3 => gb_define_251 ⟨fun h => absurd ?_ h, fun _ => gb_define_268 ?_⟩) nn 0 _ (by omega) (fun _ _ => rfl) (fun _ _ => rfl) (fun i hi => absurd hi (Nat.not_lt_zero _))
    · rw [gm_u_at, if_neg (by omega), gm_u_at, if_neg (by omega), c1 0 (by simp)]
      exact k2
    · rw [w1 0 (by omega), gm_u_at, if_neg (by omega), gm_u_at, if_neg (by omega), c1 0 (by simp), gm_u_at, if_neg (by omega), gm_u_at, if_pos ⟨rfl, rfl⟩]
    · have r3 : ∀ k j, k ≠ 4 → k ≠ 3 → k ≠ 5 → k ≠ 0 ∨ j ≠ 2 → gm_u S3 0 2 0 k j = S2 k j := fun k j n4 n3 n5 h02 => by
        rw [gm_u_at, if_neg (by omega), w1 k n4, gm_u_at, if_neg (by omega), gm_u_at, if_neg (by omega)]
      have r1 : ∀ k j, k ∉ [7, 8, 9, 10] → k ≠ 6 → k ≠ 0 ∨ j ≠ 0 → S2 k j = S1 k j := fun k j hk n6 h00 => by
        rw [c1 k hk, gm_u_at, if_neg (by omega), gm_u_at, if_neg (by omega)]
      refine hq1 rr T _ hs ⟨fun j hj => ?_, fun j hj => ?_, ?_⟩ ?_ ⟨fun r hr => ?_, fun r hr => ?_, fun r t ht => ?_⟩ (fun i hi => ?_) (fun i hi => ?_) (fun j hj => ?_) ?_
      · simp only [List.mem_cons, List.not_mem_nil, or_false, not_or] at hj
        funext i
        rw [r3 j i (by omega) (by omega) (by omega) (by omega), r1 j i (by simp; omega) (by omega) (by omega), h1.1 j (by simp; omega)]
      · simp only [List.mem_cons, List.not_mem_nil, or_false, not_or] at hj
        rw [r3 0 j (by omega) (by omega) (by omega) (by omega), r1 0 j (by simp) (by omega) (by omega)]
        exact h1.2.1 j (by simp; omega)
      · rw [gm_u_at, if_pos ⟨rfl, rfl⟩]
      · rw [r3 0 0 (by omega) (by omega) (by omega) (by omega), c1 0 (by simp), gm_u_at, if_neg (by omega), gm_u_at, if_pos ⟨rfl, rfl⟩]
      · rw [gm_u_at, if_neg (by omega), w1 3 (by omega), gm_u_at, if_neg (by omega), gm_u_at]
        by_cases e : r = rr
        · subst e
          rw [if_pos ⟨rfl, rfl⟩, gp_at_eq]
          rfl
        · rw [if_neg (by omega), gp_at_ne e, r1 3 r (by simp) (by omega) (by omega)]
          exact hg1.1 r hr
      · rw [r3 6 r (by omega) (by omega) (by omega) (by omega), c1 6 (by simp), gm_u_at]
        by_cases e : r = rr
        · rw [if_pos ⟨rfl, e⟩, h6, gp_In (by omega)]
          omega
        · rw [if_neg (by omega), gm_u_at, if_neg (by omega)]
          exact hg1.2.1 r hr
      · by_cases e : r = rr
        · subst e
          rw [gp_at_eq] at ht
          cases ht
          refine gm_rl_eq (S0 := S2) (fun k n hk _ _ => ?_) ?_ ?_ hrl
          · simp only [List.mem_cons, List.not_mem_nil, or_false] at hk
            exact r3 k n (by omega) (by omega) (by omega) (by omega)
          · exact r3 6 r (by omega) (by omega) (by omega) (by omega)
          · rw [c1 6 (by simp), k6r, gp_In (by omega)]
            omega
        · rw [gp_at_ne e] at ht
          have hold := hg1.2.2 r t ht
          refine gm_rl_eq (S0 := S1) (fun k n hk n1 n2 => ?_) ?_ (hg1.2.1 r hold.1) hold
          · rw [r3 k n (by simp only [List.mem_cons, List.not_mem_nil, or_false] at hk; omega) (by simp only [List.mem_cons, List.not_mem_nil, or_false] at hk; omega) (by simp only [List.mem_cons, List.not_mem_nil, or_false] at hk; omega) (by simp only [List.mem_cons, List.not_mem_nil, or_false] at hk; omega), c2 k n hk (by omega)]
            simp only [List.mem_cons, List.not_mem_nil, or_false] at hk
            rw [gm_u_at, if_neg (by omega), gm_u_at, if_neg (by omega)]
          · rw [r3 6 r (by omega) (by omega) (by omega) (by omega), c1 6 (by simp), gm_u_at, if_neg (by omega), gm_u_at, if_neg (by omega)]
      · rw [gm_u_at, if_neg (by omega), w2 i hi, gm_u_at, if_neg (by omega), gm_u_at, if_neg (by omega), r1 4 i (by simp) (by omega) (by omega), h1.1 4 (by simp)]
      · rw [gm_u_at, if_neg (by omega), w3 i hi, gm_u_at, if_neg (by omega), gm_u_at, if_neg (by omega), r1 1 i (by simp) (by omega) (by omega)]
        exact (hlS.2.2.1 i hi).1
      · rw [gm_u_at, if_neg (by omega), w1 5 (by omega), gm_u_at, if_neg (by omega), gm_u_at, if_neg (by omega), r1 5 j (by simp) (by omega) (by omega), h1.1 5 (by simp)]
      · rw [gm_u_at, if_neg (by omega), w1 5 (by omega), gm_u_at, if_pos ⟨rfl, rfl⟩]
/-- shown -/
theorem gm_shown {a1 a2 : Int32} (hg : gm_gr S R) (hlen : ∀ r t, R r = some t → ∃ n, n ≤ 20 ∧ S 5 r = nI n) (hch : ∀ r t k n, R r = some t → S 5 r = nI n → k < n → ∃ c, S 4 (20 * r + k) = nI c ∧ c ≤ 126)
    (h0 : ¬ (∃ r t k n, a1 = nI r ∧ a2 = nI k ∧ R r = some t ∧ S 5 r = nI n ∧ k < n ∧ n ≤ 20) → Q (.inl (some (.int 0)), gm_h (gm_u S 0 0 0)))
    (h1 : ∀ r t k n, a1 = nI r → a2 = nI k → R r = some t → S 5 r = nI n → k < n → n ≤ 20 → Q (.inl (some (.int (S 4 (20 * r + k)))), gm_h (gm_u S 0 0 0))) :
    gx_X gm_P (d + 2) 21 (0, [some (.ref 0), some (.int a1), some (.int a2)], [], gm_h S, bc, bs) Q := by
  have no : ¬ (∃ r t k n, a1 = nI r ∧ a2 = nI k ∧ R r = some t ∧ S 5 r = nI n ∧ k < n ∧ n ≤ 20) → gx_X gm_P (d + 2) 21 (50, [some (.ref 0), some (.int a1), some (.int a2)], [], gm_h (gm_u S 0 0 0), bc, bs) Q := fun h => gb_shown_50 (gb_shown_51 ⟨rfl, h0 h⟩)
  have r3 : ∀ k j, k ≠ 0 → gm_u S 0 0 0 k j = S k j := fun k j hk => by rw [gm_u_at, if_neg (by omega)]
  refine gb_shown_0 (gm_isRule ?_)
  by_cases hr' : ¬ a1 < 0 ∧ a1 < 4
  · rw [if_pos hr']
    obtain ⟨r, hr, rfl⟩ := gp_rule hr'
    have hcr : (nI r).toNatClampNeg = r := nI_clamp (by omega)
    have hin : vp_in (nI r) 4 := vp_in_nI hr (by decide)
    refine gb_shown_9 ⟨fun h => absurd h (by decide), fun _ => ?_⟩
    rw [hcr, r3 3 r (by omega), r3 5 r (by omega), hg.1 r hr]
    refine ⟨hin, fun hd => no ?_, fun hd => ⟨fun hk => no ?_, fun hk => ⟨hin, fun hk' => no ?_, fun hk' => ?_⟩⟩⟩
    · rintro ⟨r', t, k, n, e1, e2, e3, e4, e5, e6⟩
      have : r' < 4 := (hg.2.2 r' t e3).1
      have e : r = r' := (nI_eq (by omega) (by omega)).mp e1
      rw [← e] at e3
      rw [e3] at hd
      exact absurd hd (show ¬ gp_b true = 0 by decide)
    · rintro ⟨r', t, k, n, e1, e2, e3, e4, e5, e6⟩
      rw [e2] at hk
      exact absurd hk (nI_pos (by omega))
    · rintro ⟨r', t, k, n, e1, e2, e3, e4, e5, e6⟩
      have : r' < 4 := (hg.2.2 r' t e3).1
      have e : r = r' := (nI_eq (by omega) (by omega)).mp e1
      rw [e2, e, e4] at hk'
      exact hk' (nI_lt e5 (by omega))
    · obtain ⟨t, ht⟩ : ∃ t, R r = some t := by
        cases ht : R r with
        | none => rw [ht] at hd; exact absurd rfl hd
        | some t => exact ⟨t, rfl⟩
      obtain ⟨n, hn20, h5⟩ := hlen r t ht
      obtain ⟨k, hk31, rfl⟩ := nI_of hk
      rw [h5] at hk'
      have hkn : k < n := (nI_ltI hk31 (by omega)).mp hk'
      have e20 : (20 : Int32) * nI r + nI k = nI (20 * r + k) := by
        rw [show (20 : Int32) * nI r = nI (20 * r) from (Int32.ofNat_mul 20 r).symm, nI_add]
      rw [e20, nI_clamp (show 20 * r + k < 2 ^ 31 by omega), r3 4 _ (by omega)]
      obtain ⟨c, hc, hc126⟩ := hch r t k n ht h5 hkn
      refine ⟨vp_in_nI (by omega) (by decide), gb_shown_51 ?_⟩
      have := h1 r t k n rfl rfl ht h5 hkn hn20
      rw [hc] at this ⊢
      have aux : ∀ c : Fin 127, (((nI c.val).toUInt32 % 65536).toInt32 = nI c.val) ∧ narrow .char (.int (nI c.val)) = .int (nI c.val) := by decide +kernel
      have h2 := aux ⟨c, by omega⟩
      simp only at h2
      rw [h2.1]
      exact ⟨h2.2, this⟩
  · rw [if_neg hr']
    refine gb_shown_9 ⟨fun _ => no ?_, fun h => absurd rfl h⟩
    rintro ⟨r', t, k, n, e1, e2, e3, e4, e5, e6⟩
    have : r' < 4 := (hg.2.2 r' t e3).1
    rw [e1] at hr'
    exact hr' ⟨nI_pos (by omega), nI_lt (b := 4) this (by decide)⟩
end GDF
