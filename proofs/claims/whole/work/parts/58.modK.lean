/-! The model's lookAll: what a match looks at. -/
theorem gp_ct_set {f : Nat → Bool} {c : Nat} (h : f c = false) : ∀ N, c < N → gp_ct (fun k => (f k || k == c).toNat) N = gp_ct (fun k => (f k).toNat) N + 1
  | 0, h0 => absurd h0 (Nat.not_lt_zero _)
  | N + 1, h0 => by
    have e1 : gp_ct (fun k => (f k || k == c).toNat) (N + 1) = gp_ct (fun k => (f k || k == c).toNat) N + (f N || N == c).toNat := rfl
    have e2 : gp_ct (fun k => (f k).toNat) (N + 1) = gp_ct (fun k => (f k).toNat) N + (f N).toNat := rfl
    by_cases e : c = N
    · subst e
      have e3 : ∀ M, M ≤ c → gp_ct (fun k => (f k || k == c).toNat) M = gp_ct (fun k => (f k).toNat) M := by
        intro M
        induction M with
        | zero => exact fun _ => rfl
        | succ M ih =>
          intro hM
          have a1 : gp_ct (fun k => (f k || k == c).toNat) (M + 1) = gp_ct (fun k => (f k || k == c).toNat) M + (f M || M == c).toNat := rfl
          have a2 : gp_ct (fun k => (f k).toNat) (M + 1) = gp_ct (fun k => (f k).toNat) M + (f M).toNat := rfl
          have a3 : (M == c) = false := beq_false_of_ne (by omega)
          rw [a1, a2, ih (by omega), a3, Bool.or_false]
      rw [e1, e2, e3 c (Nat.le_refl _), h]
      simp
    · have ih := gp_ct_set h N (by omega)
      have a3 : (N == c) = false := beq_false_of_ne (by omega)
      rw [e1, e2, ih, a3, Bool.or_false]
      omega
theorem gp_ct_N (f : Nat → Bool) : ∀ N, gp_ct (fun k => (f k).toNat) N ≤ N
  | 0 => Nat.le_refl _
  | N + 1 => by
    have h1 := gp_ct_N f N
    have h2 := Bool.toNat_le (f N)
    have e2 : gp_ct (fun k => (f k).toNat) (N + 1) = gp_ct (fun k => (f k).toNat) N + (f N).toNat := rfl
    omega
section GMK
variable {S S0 : Nat → Nat → Int32} {R : Nat → Option gt_T} {d bc bs : Nat} {Q : gx_R → Prop} {L : Nat} {x : Nat → Nat} {Em : Nat → Bool} {A : Nat → Prop} {o : Nat → Nat} {root : Nat × Nat} {lk pr : Nat → Bool} {stk : List Nat} {f k ex : Nat}
/-- alike but for the rows of a search, and what it counts -/
def gm_eqL (S0 S : Nat → Nat → Int32) : Prop := (∀ j, j ∉ [0, 21, 22, 23] → S j = S0 j) ∧ ∀ j, j ∉ [28, 33, 34] → S 0 j = S0 0 j
/-- the search's rows: looked, pairs, stack (its top first), how far, how many -/
def gm_L (S0 S : Nat → Nat → Int32) (lk pr : Nat → Bool) (stk : List Nat) (f k : Nat) : Prop :=
  gm_eqL S0 S ∧ (∀ c, c < 2600 → S 21 c = gp_b (lk c)) ∧ (∀ c, c < 52 → S 23 c = gp_b (pr c)) ∧ S 0 28 = nI stk.length ∧ (∀ i c, stk[i]? = some c → S 22 (stk.length - 1 - i) = nI c) ∧ S 0 33 = nI f + -1 ∧ f ≤ 10 ∧ S 0 34 = nI (gp_ct (fun c => (pr c).toNat) 52) ∧ stk.length + k = gp_ct (fun c => (lk c).toNat) 2080 ∧ (∀ c, c ∈ stk → c < 2080 ∧ lk c = true)
/-- cell (n, p) is met by the match -/
def gm_met (R : Nat → Option gt_T) (L : Nat) (x : Nat → Nat) (Em : Nat → Bool) (A : Nat → Prop) (S0 : Nat → Nat → Int32) (root : Nat × Nat) (n p : Nat) : Prop := p ≤ L ∧ ∃ t, gm_tr S0 t false n ∧ gn_nd Em A t ∧ ∀ v, v ∈ gt_ev L x (gt_Ed L x R) t p → ∃ b, gt_rch L x R root b ∧ v ∈ gt_evR L x R b.1 b.2
/-- what holds in the search; ex: the cell that is being done -/
def gm_J (R : Nat → Option gt_T) (L : Nat) (x : Nat → Nat) (Em : Nat → Bool) (A : Nat → Prop) (S0 : Nat → Nat → Int32) (root : Nat × Nat) (S : Nat → Nat → Int32) (lk pr : Nat → Bool) (stk : List Nat) (f k ex : Nat) : Prop :=
  gm_L S0 S lk pr stk f k ∧ (∀ n p, p < 13 → lk (13 * n + p) = true → n < 160 ∧ gm_met R L x Em A S0 root n p) ∧ (∀ r p, p < 13 → pr (13 * r + p) = true → gt_rch L x R root (r, p) ∧ p ≤ L ∧ A r ∧ lk (13 * (40 * r) + p) = true) ∧ (f = 0 ∨ ∃ b, gt_rch L x R root b ∧ .inl (f - 1) ∈ gt_evR L x R b.1 b.2) ∧
  ∀ n p, p < 13 → lk (13 * n + p) = true → 13 * n + p ∉ stk → 13 * n + p ≠ ex → ∀ t, gm_tr S0 t false n → gn_nd Em A t → gn_done L x (gt_Ed L x R) (fun n => gp_n (S0 8 n)) (gm_nx S0) (fun n p => p ≤ L ∧ lk (13 * n + p) = true) (fun r p => pr (13 * r + p) = true) f t n p
theorem gn_done_mono {e : Nat → Nat → Option Nat} {wi : Nat → Nat} {nx : Nat → Option Nat} {lk pr lk' pr' : Nat → Nat → Prop} {f f' : Nat} {t : gt_T} {n p : Nat} (h : gn_done L x e wi nx lk pr f t n p) (h1 : ∀ n p, lk n p → lk' n p) (h2 : ∀ n p, pr n p → pr' n p) (h3 : f ≤ f') : gn_done L x e wi nx lk' pr' f' t n p :=
  ⟨fun m q hm => h1 m q (h.1 m q hm), fun r hr => h2 _ _ (h.2.1 r hr), fun l hi ht he => Nat.lt_of_lt_of_le (h.2.2 l hi ht he) h3⟩
/-- one more -/
def gp_or (f : Nat → Bool) (c : Nat) : Nat → Bool := fun k => f k || k == c
theorem gp_or_eq {f : Nat → Bool} {c : Nat} : gp_or f c c = true := by simp [gp_or]
theorem gp_or_in {f : Nat → Bool} {c k : Nat} (h : f k = true) : gp_or f c k = true := by simp [gp_or, h]
theorem gp_or_inv {f : Nat → Bool} {c k : Nat} (h : gp_or f c k = true) : f k = true ∨ k = c := by
  rcases Bool.or_eq_true_iff.mp h with h | h
  · exact .inl h
  · exact .inr (by simpa using h)
theorem gp_or_ne {f : Nat → Bool} {c k : Nat} (h : k ≠ c) : gp_or f c k = f k := by simp [gp_or, h]
theorem gm_L_push (hL : gm_L S0 S lk pr stk f k) {c : Nat} (hl : lk c = false) (hc : c < 2080) : stk.length < 2080 ∧ gm_L S0 (gm_u (gm_u (gm_u S 21 c (vp_nar .boolean 1)) 22 stk.length (nI c)) 0 28 (nI stk.length + 1)) (gp_or lk c) pr (c :: stk) f k := by
  obtain ⟨l1, l2, l3, l4, l5, l6, l6', l7, l8, l9⟩ := hL
  have hcount : gp_ct (fun j => (gp_or lk c j).toNat) 2080 = gp_ct (fun c => (lk c).toNat) 2080 + 1 := gp_ct_set hl 2080 hc
  have hN := gp_ct_N (gp_or lk c) 2080
  have hlen : stk.length < 2080 := by omega
  refine ⟨hlen, ⟨fun j hj => ?_, fun j hj => ?_⟩, fun j hj => ?_, fun j hj => ?_, ?_, fun i j hi => ?_, ?_, l6', ?_, ?_, fun j hj => ?_⟩
  · simp only [List.mem_cons, List.not_mem_nil, or_false, not_or] at hj
    rw [gm_u_row _ _ _ (by omega), gm_u_row _ _ _ (by omega), gm_u_row _ _ _ (by omega)]
    exact l1.1 j (by simp; omega)
  · simp only [List.mem_cons, List.not_mem_nil, or_false, not_or] at hj
    rw [gm_u_at, if_neg (by omega), gm_u_at, if_neg (by omega), gm_u_at, if_neg (by omega)]
    exact l1.2 j (by simp; omega)
  · rw [gm_u_at, if_neg (by omega), gm_u_at, if_neg (by omega), gm_u_at]
    by_cases e : j = c
    · rw [if_pos ⟨rfl, e⟩, e, gp_or_eq]
      rfl
    · rw [if_neg (by omega), gp_or_ne e]
      exact l2 j hj
  · rw [gm_u_at, if_neg (by omega), gm_u_at, if_neg (by omega), gm_u_at, if_neg (by omega)]
    exact l3 j hj
  · rw [gm_u_at, if_pos ⟨rfl, rfl⟩]
    exact nI_1 _
  · rw [gm_u_at, if_neg (by omega), gm_u_at]
    cases i with
    | zero =>
      have e : j = c := by simpa using hi.symm
      rw [if_pos ⟨rfl, by simp⟩, e]
    | succ i =>
      have hi' : stk[i]? = some j := by simpa using hi
      have := (List.getElem?_eq_some_iff.mp hi').1
      rw [if_neg (by simp; omega), gm_u_at, if_neg (by omega)]
      have e : (c :: stk).length - 1 - (i + 1) = stk.length - 1 - i := by simp; omega
      rw [e]
      exact l5 i j hi'
  · rw [gm_u_at, if_neg (by omega), gm_u_at, if_neg (by omega), gm_u_at, if_neg (by omega)]
    exact l6
  · rw [gm_u_at, if_neg (by omega), gm_u_at, if_neg (by omega), gm_u_at, if_neg (by omega)]
    exact l7
  · simp only [List.length_cons]
    omega
  · rcases List.mem_cons.mp hj with h | h
    · rw [h]
      exact ⟨hc, gp_or_eq⟩
    · exact ⟨(l9 j h).1, gp_or_in (l9 j h).2⟩
/-- lookAt, as far as the rows go -/
theorem gm_lookAt0 (hL : gm_L S0 S lk pr stk f k) {n p : Nat} (hn : n < 160) (hp : p < 13)
    (hq1 : lk (13 * n + p) = true → Q (.inl none, gm_h S))
    (hq0 : lk (13 * n + p) = false → ∀ S', gm_L S0 S' (gp_or lk (13 * n + p)) pr ((13 * n + p) :: stk) f k → Q (.inl none, gm_h S')) :
    gx_X gm_P (d + 1) 34 (0, [some (.ref 0), some (.int (nI n)), some (.int (nI p))], [], gm_h S, bc, bs) Q := by
  obtain ⟨l1, l2, l3, l4, l5, l6, l6', l7, l8, l9⟩ := id hL
  obtain ⟨g1, g2, g3⟩ := gp_13 hn hp
  refine gb_lookAt_0 ?_
  rw [g1, g2, l2 _ (by omega)]
  refine ⟨g3, fun h => gb_lookAt_51 (hq1 ?_), fun h => ?_⟩
  · cases hl : lk (13 * n + p) with
    | true => rfl
    | false => rw [hl] at h; exact absurd rfl h
  · have hl : lk (13 * n + p) = false := (gp_b_0 _).mp h
    obtain ⟨hlen, hL'⟩ := gm_L_push hL hl (by omega)
    have hcl : (S 0 28).toNatClampNeg = stk.length := by rw [l4]; exact nI_clamp (by omega)
    have hin : vp_in (S 0 28) 2600 := by rw [l4]; exact vp_in_nI (by omega) (by decide)
    rw [hcl, l4]
    rw [l4] at hin
    exact ⟨g3, hin, gb_lookAt_51 (hq0 hl _ hL')⟩
/-- lookAt -/
theorem gm_lookAt (hL9 : L ≤ 9) (hJ : gm_J R L x Em A S0 root S lk pr stk f k ex) {n p : Nat} (hn : n < 160) (hmet : gm_met R L x Em A S0 root n p)
    (hq : ∀ S' lk' stk', gm_J R L x Em A S0 root S' lk' pr stk' f k ex → (∀ c, lk c = true → lk' c = true) → lk' (13 * n + p) = true → Q (.inl none, gm_h S')) :
    gx_X gm_P (d + 1) 34 (0, [some (.ref 0), some (.int (nI n)), some (.int (nI p))], [], gm_h S, bc, bs) Q := by
  obtain ⟨hL, j1, j2, j3, j4⟩ := id hJ
  have hp := hmet.1
  refine gm_lookAt0 hL hn (by omega) (fun hl => hq S lk stk hJ (fun _ h => h) hl) (fun hl S' hL' => hq S' _ _ ⟨hL', fun n' p' hp' h' => ?_, fun r p' hp' h' => ?_, j3, fun n' p' hp' h' hns hne t' ht' hnd' => ?_⟩ (fun c hc => gp_or_in hc) gp_or_eq)
  · rcases gp_or_inv h' with h' | h'
    · exact j1 n' p' hp' h'
    · have e1 : n' = n := by omega
      have e2 : p' = p := by omega
      subst e1; subst e2
      exact ⟨hn, hmet⟩
  · obtain ⟨q1, q2, q3, q4⟩ := j2 r p' hp' h'
    exact ⟨q1, q2, q3, gp_or_in q4⟩
  · have hne' : 13 * n' + p' ≠ 13 * n + p := fun e => hns (by rw [e]; exact List.mem_cons_self)
    exact gn_done_mono (j4 n' p' hp' ((gp_or_inv h').resolve_right hne') (fun hm => hns (List.mem_cons_of_mem _ hm)) hne t' ht' hnd') (fun a b hab => ⟨hab.1, gp_or_in hab.2⟩) (fun _ _ h => h) (Nat.le_refl _)
theorem gp_13r {r p : Nat} (hr : r < 4) (hp : p < 13) : (13 : Int32) * nI r + nI p = nI (13 * r + p) ∧ (nI (13 * r + p)).toNatClampNeg = 13 * r + p ∧ vp_in (nI (13 * r + p)) 52 := by
  refine ⟨?_, nI_clamp (by omega), vp_in_nI (by omega) (by decide)⟩
  rw [show (13 : Int32) * nI r = nI (13 * r) from (Int32.ofNat_mul 13 r).symm, nI_add]
/-- rule -/
theorem gm_rule (hgood : gt_good R Em A o) (hg : gm_gr S0 R) (hL9 : L ≤ 9) {r p : Nat} (hr : r < 4) (hp : p ≤ L) (hA : A r) (hreach : gt_rch L x R root (r, p)) (hL : gm_L S0 S lk pr stk f k) (j1 : ∀ n p, p < 13 → lk (13 * n + p) = true → n < 160 ∧ gm_met R L x Em A S0 root n p) (j2 : ∀ r' p', p' < 13 → pr (13 * r' + p') = true → gt_rch L x R root (r', p') ∧ p' ≤ L ∧ A r' ∧ lk (13 * (40 * r') + p') = true) (j3 : f = 0 ∨ ∃ b, gt_rch L x R root b ∧ .inl (f - 1) ∈ gt_evR L x R b.1 b.2)
    (j4 : ∀ n p, p < 13 → lk (13 * n + p) = true → 13 * n + p ∉ stk → 13 * n + p ≠ ex → ∀ t, gm_tr S0 t false n → gn_nd Em A t → gn_done L x (gt_Ed L x R) (fun n => gp_n (S0 8 n)) (gm_nx S0) (fun n p => p ≤ L ∧ lk (13 * n + p) = true) (fun r p => pr (13 * r + p) = true) f t n p)
    (hq : ∀ S' lk' pr' stk', gm_J R L x Em A S0 root S' lk' pr' stk' f k ex → (∀ c, lk c = true → lk' c = true) → (∀ c, pr c = true → pr' c = true) → lk' (13 * (40 * r) + p) = true → pr' (13 * r + p) = true → Q (.inl none, gm_h S')) :
    gx_X gm_P (d + 2) 35 (0, [some (.ref 0), some (.int (nI r)), some (.int (nI p))], [], gm_h S, bc, bs) Q := by
  obtain ⟨l1, l2, l3, l4, l5, l6, l6', l7, l8, l9⟩ := id hL
  obtain ⟨g1, g2, g3⟩ := gp_13r hr (show p < 13 by omega)
  obtain ⟨t, ht⟩ : ∃ t, R r = some t := by
    obtain ⟨_, t, ht, _⟩ := hgood r hA
    exact ⟨t, ht⟩
  have hmet : gm_met R L x Em A S0 root (40 * r) p := ⟨hp, t, (gm_gr_rts hg).2 r t ht, gn_nd_rule hgood hA ht, fun v hv => ⟨(r, p), hreach, by simp only [gt_evR, ht]; exact hv⟩⟩
  have k4 : ∀ (lk' : Nat → Bool) (stk' : List Nat), (∀ c, lk c = true → lk' c = true) → (∀ c, lk' c = true → lk c = true ∨ c ∈ stk') → (∀ c, c ∈ stk → c ∈ stk') → ∀ n p', p' < 13 → lk' (13 * n + p') = true → 13 * n + p' ∉ stk' → 13 * n + p' ≠ ex → ∀ t, gm_tr S0 t false n → gn_nd Em A t → gn_done L x (gt_Ed L x R) (fun n => gp_n (S0 8 n)) (gm_nx S0) (fun n p => p ≤ L ∧ lk' (13 * n + p) = true) (fun r' p' => gp_or pr (13 * r + p) (13 * r' + p') = true) f t n p' := fun lk' stk' a1 a2 a3 n p' hp' h' hns hne t' ht' hnd' => by
    have hlk : lk (13 * n + p') = true := (a2 _ h').resolve_right hns
    exact gn_done_mono (j4 n p' hp' hlk (fun hm => hns (a3 _ hm)) hne t' ht' hnd') (fun a b hab => ⟨hab.1, a1 _ hab.2⟩) (fun a b hab => gp_or_in hab) (Nat.le_refl _)
  have k2 : ∀ (lk' : Nat → Bool), (∀ c, lk c = true → lk' c = true) → lk' (13 * (40 * r) + p) = true → ∀ r' p', p' < 13 → gp_or pr (13 * r + p) (13 * r' + p') = true → gt_rch L x R root (r', p') ∧ p' ≤ L ∧ A r' ∧ lk' (13 * (40 * r') + p') = true := fun lk' a1 a2 r' p' hp' h' => by
    rcases gp_or_inv h' with h' | h'
    · obtain ⟨q1, q2, q3, q4⟩ := j2 r' p' hp' h'
      exact ⟨q1, q2, q3, a1 _ q4⟩
    · have e1 : r' = r := by omega
      have e2 : p' = p := by omega
      subst e1; subst e2
      exact ⟨hreach, hp, hA, a2⟩
  -- the state with the pair, looking at its root
  have fin : ∀ S', gm_L S0 S' lk (gp_or pr (13 * r + p)) stk f k → gx_X gm_P (d + 2) 35 (36, [some (.ref 0), some (.int (nI r)), some (.int (nI p))], [], gm_h S', bc, bs) Q := fun S' hL' => by
    refine gb_rule_36 ?_
    rw [gp_40 hr]
    refine gm_lookAt0 hL' (by omega) (by omega) (fun hl => gb_rule_45 ?_) (fun hl S2 hL2 => gb_rule_45 ?_)
    · exact hq S' lk _ stk ⟨hL', j1, k2 lk (fun _ h => h) hl, j3, k4 lk stk (fun _ h => h) (fun _ h => .inl h) (fun _ h => h)⟩ (fun _ h => h) (fun c hc => gp_or_in hc) hl gp_or_eq
    · refine hq S2 _ _ _ ⟨hL2, fun n' p' hp' h' => ?_, k2 _ (fun c hc => gp_or_in hc) gp_or_eq, j3, k4 _ _ (fun c hc => gp_or_in hc) (fun c hc => ?_) (fun c hc => List.mem_cons_of_mem _ hc)⟩ (fun c hc => gp_or_in hc) (fun c hc => gp_or_in hc) gp_or_eq gp_or_eq
      · rcases gp_or_inv h' with h' | h'
        · exact j1 n' p' hp' h'
        · have e1 : n' = 40 * r := by omega
          have e2 : p' = p := by omega
          subst e1; subst e2
          exact ⟨by omega, hmet⟩
      · rcases gp_or_inv hc with h | h
        · exact .inl h
        · exact .inr (by rw [h]; exact List.mem_cons_self)
  refine gb_rule_0 ?_
  rw [g1, g2, l3 _ (by omega)]
  refine ⟨g3, fun h => fin S ?_, fun h => ⟨g3, fin _ ?_⟩⟩
  · have hl : pr (13 * r + p) = true := by
      cases hl : pr (13 * r + p) with
      | true => rfl
      | false => rw [hl] at h; exact absurd rfl h
    have e : gp_or pr (13 * r + p) = pr := by
      funext c
      by_cases e : c = 13 * r + p
      · rw [e, hl, gp_or_eq]
      · exact gp_or_ne e
    rw [e]
    exact hL
  · have hl : pr (13 * r + p) = false := (gp_b_0 _).mp h
    have hcount : gp_ct (fun c => (gp_or pr (13 * r + p) c).toNat) 52 = gp_ct (fun c => (pr c).toNat) 52 + 1 := gp_ct_set hl 52 (by omega)
    refine ⟨⟨fun j hj => ?_, fun j hj => ?_⟩, fun c hc => ?_, fun c hc => ?_, ?_, fun i c hi => ?_, ?_, l6', ?_, l8, l9⟩
    · simp only [List.mem_cons, List.not_mem_nil, or_false, not_or] at hj
      rw [gm_u_row _ _ _ (by omega), gm_u_row _ _ _ (by omega)]
      exact l1.1 j (by simp; omega)
    · simp only [List.mem_cons, List.not_mem_nil, or_false, not_or] at hj
      rw [gm_u_at, if_neg (by omega), gm_u_at, if_neg (by omega)]
      exact l1.2 j (by simp; omega)
    · rw [gm_u_at, if_neg (by omega), gm_u_at, if_neg (by omega)]
      exact l2 c hc
    · rw [gm_u_at, if_neg (by omega), gm_u_at]
      by_cases e : c = 13 * r + p
      · rw [if_pos ⟨rfl, e⟩, e, gp_or_eq]
        rfl
      · rw [if_neg (by omega), gp_or_ne e]
        exact l3 c hc
    · rw [gm_u_at, if_neg (by omega), gm_u_at, if_neg (by omega)]
      exact l4
    · rw [gm_u_at, if_neg (by omega), gm_u_at, if_neg (by omega)]
      exact l5 i c hi
    · rw [gm_u_at, if_neg (by omega), gm_u_at, if_neg (by omega)]
      exact l6
    · rw [gm_u_at, if_pos ⟨rfl, rfl⟩, l7, hcount]
      exact nI_1 _
end GMK
