/-! The model's lookAll: how far, how many pairs. -/
theorem gp_ct_add (f : Nat → Nat) (a : Nat) : ∀ b, gp_ct f (a + b) = gp_ct f a + gp_ct (fun k => f (a + k)) b
  | 0 => rfl
  | b + 1 => by
    have e1 : gp_ct f (a + (b + 1)) = gp_ct f (a + b) + f (a + b) := rfl
    have e2 : gp_ct (fun k => f (a + k)) (b + 1) = gp_ct (fun k => f (a + k)) b + f (a + b) := rfl
    rw [e1, e2, gp_ct_add f a b]
    omega
theorem gp_ct_congr {f g : Nat → Nat} : ∀ N, (∀ k, k < N → f k = g k) → gp_ct f N = gp_ct g N
  | 0, _ => rfl
  | N + 1, h => by
    have e1 : gp_ct f (N + 1) = gp_ct f N + f N := rfl
    have e2 : gp_ct g (N + 1) = gp_ct g N + g N := rfl
    rw [e1, e2, gp_ct_congr N (fun k hk => h k (by omega)), h N (by omega)]
theorem gp_ct_0 {f : Nat → Nat} : ∀ N, (∀ k, k < N → f k = 0) → gp_ct f N = 0
  | 0, _ => rfl
  | N + 1, h => by
    have e1 : gp_ct f (N + 1) = gp_ct f N + f N := rfl
    rw [e1, gp_ct_0 N (fun k hk => h k (by omega)), h N (by omega)]
/-- thirteen places a rule, or ten -/
theorem gp_ct_1310 {g h : Nat → Nat} (h1 : ∀ r p, r < 4 → p < 10 → g (13 * r + p) = h (10 * r + p)) (h2 : ∀ r p, r < 4 → 10 ≤ p → p < 13 → g (13 * r + p) = 0) : gp_ct g 52 = gp_ct h 40 := by
  have row : ∀ r, r < 4 → gp_ct (fun k => g (13 * r + k)) 13 = gp_ct (fun k => h (10 * r + k)) 10 := fun r hr => by
    rw [show (13 : Nat) = 10 + 3 from rfl, gp_ct_add, gp_ct_0 (f := fun k => g (13 * r + (10 + k))) 3 (fun k hk => h2 r (10 + k) hr (by omega) (by omega)), Nat.add_zero]
    exact gp_ct_congr 10 (fun k hk => h1 r k hr hk)
  have a0 := row 0 (by omega)
  have a1 := row 1 (by omega)
  have a2 := row 2 (by omega)
  have a3 := row 3 (by omega)
  have s1 : gp_ct g 52 = gp_ct g 13 + gp_ct (fun k => g (13 + k)) 13 + gp_ct (fun k => g (26 + k)) 13 + gp_ct (fun k => g (39 + k)) 13 := by
    rw [show (52 : Nat) = 39 + 13 from rfl, gp_ct_add, show (39 : Nat) = 26 + 13 from rfl, gp_ct_add, show (26 : Nat) = 13 + 13 from rfl, gp_ct_add]
  have s2 : gp_ct h 40 = gp_ct h 10 + gp_ct (fun k => h (10 + k)) 10 + gp_ct (fun k => h (20 + k)) 10 + gp_ct (fun k => h (30 + k)) 10 := by
    rw [show (40 : Nat) = 30 + 10 from rfl, gp_ct_add, show (30 : Nat) = 20 + 10 from rfl, gp_ct_add, show (20 : Nat) = 10 + 10 from rfl, gp_ct_add]
  have b0 : gp_ct (fun k => g (13 * 0 + k)) 13 = gp_ct g 13 := gp_ct_congr 13 (fun k _ => by rw [Nat.mul_zero, Nat.zero_add])
  have b1 : gp_ct (fun k => h (10 * 0 + k)) 10 = gp_ct h 10 := gp_ct_congr 10 (fun k _ => by rw [Nat.mul_zero, Nat.zero_add])
  rw [s1, s2, ← b0, ← b1, a0]
  rw [show (13 : Nat) * 1 = 13 from rfl, show (10 : Nat) * 1 = 10 from rfl] at a1
  rw [show (13 : Nat) * 2 = 26 from rfl, show (10 : Nat) * 2 = 20 from rfl] at a2
  rw [show (13 : Nat) * 3 = 39 from rfl, show (10 : Nat) * 3 = 30 from rfl] at a3
  rw [a1, a2, a3]
theorem gp_divc {c : Nat} (h : c < 2080) : nI c / 13 = nI (c / 13) ∧ nI c - nI c / 13 * 13 = nI (c % 13) := by
  have aux : ∀ n : Fin 2080, nI n.val / 13 = nI (n.val / 13) ∧ nI n.val - nI n.val / 13 * 13 = nI (n.val % 13) := by decide +kernel
  exact aux ⟨c, h⟩
section GMM
variable {S S0 : Nat → Nat → Int32} {R : Nat → Option gt_T} {d bc bs : Nat} {Q : gx_R → Prop} {L : Nat} {x : Nat → Nat} {Em : Nat → Bool} {A : Nat → Prop} {o : Nat → Nat} {root : Nat × Nat} {lk pr : Nat → Bool} {stk : List Nat} {f k ex : Nat}
theorem gm_la_clear1 {a1 a2 : Int32} (K : ∀ (S' : Nat → Nat → Int32), gm_eqr [21] S S' → (∀ n, n < 2600 → S' 21 n = 0) → gx_X gm_P (d + 1) 37 (24, [some (.ref 0), some (.int a1), some (.int a2), some (.int 0)], [], gm_h S', bc, bs) Q) :
    ∀ (g j : Nat) (S' : Nat → Nat → Int32), j + g = 2600 → gm_eqr [21] S S' → (∀ n, n < j → S' 21 n = 0) → gx_X gm_P (d + 1) 37 (2, [some (.ref 0), some (.int a1), some (.int a2), some (.int (nI j))], [], gm_h S', bc, bs) Q := by
  intro g
  induction g with
  | zero =>
    intro j S' hj he hz
    refine gb_lookAll_2 ⟨fun _ => K S' he (fun n hn => hz n (by omega)), fun h => ?_⟩
    have := (nI_ltI (b := 2600) (by omega) (by decide)).mp h
    omega
  | succ g ih =>
    intro j S' hj he hz
    have hc : (nI j).toNatClampNeg = j := nI_clamp (by omega)
    refine gb_lookAll_2 ⟨fun h => absurd (nI_lt (b := 2600) (by omega) (by decide)) h, fun _ => ⟨vp_in_nI (by omega) (by decide), ?_⟩⟩
    rw [hc, show nI j + Int32.ofInt 1 = nI (j + 1) from nI_1 j]
    refine ih (j + 1) _ (by omega) (he.u (by simp) _ _) (fun n hn => ?_)
    by_cases e : n = j
    · subst e
      rw [gm_u_at, if_pos ⟨rfl, rfl⟩]
      rfl
    · rw [gm_u_at, if_neg (by omega)]
      exact hz n (by omega)
theorem gm_la_clear2 {a1 a2 : Int32} (K : ∀ (S' : Nat → Nat → Int32) (o3 : Option Value), gm_eqr [21, 23] S S' → (∀ n, n < 2600 → S' 21 n = 0) → (∀ n, n < 52 → S' 23 n = 0) → gx_X gm_P d 35 (0, [some (.ref 0), some (.int a1), some (.int a2)], [], gm_h (gm_u (gm_u (gm_u S' 0 33 (-1)) 0 34 0) 0 28 0), 0, 0) (gx_k [some (.ref 0), some (.int a1), some (.int a2), o3] [] 64 bc bs (fun S9 => gx_X gm_P (d + 1) 37 S9 Q) Q)) :
    ∀ (g j : Nat) (S' : Nat → Nat → Int32), j + g = 52 → gm_eqr [21, 23] S S' → (∀ n, n < 2600 → S' 21 n = 0) → (∀ n, n < j → S' 23 n = 0) → gx_X gm_P (d + 1) 37 (24, [some (.ref 0), some (.int a1), some (.int a2), some (.int (nI j))], [], gm_h S', bc, bs) Q := by
  intro g
  induction g with
  | zero =>
    intro j S' hj he h21 hz
    refine gb_lookAll_24 ⟨fun _ => K S' _ he h21 (fun n hn => hz n (by omega)), fun h => ?_⟩
    have := (nI_ltI (b := 52) (by omega) (by decide)).mp h
    omega
  | succ g ih =>
    intro j S' hj he h21 hz
    have hc : (nI j).toNatClampNeg = j := nI_clamp (by omega)
    refine gb_lookAll_24 ⟨fun h => absurd (nI_lt (b := 52) (by omega) (by decide)) h, fun _ => ⟨vp_in_nI (by omega) (by decide), ?_⟩⟩
    rw [hc, show nI j + Int32.ofInt 1 = nI (j + 1) from nI_1 j]
    refine ih (j + 1) _ (by omega) (he.u (by simp) _ _) (fun n hn => ?_) (fun n hn => ?_)
    · rw [gm_u_at, if_neg (by omega)]
      exact h21 n hn
    · by_cases e : n = j
      · subst e
        rw [gm_u_at, if_pos ⟨rfl, rfl⟩]
        rfl
      · rw [gm_u_at, if_neg (by omega)]
        exact hz n (by omega)
/-- the search, until its stack is empty -/
theorem gm_la_loop (hgood : gt_good R Em A o) (hg : gm_gr S0 R) (hx : ∀ p, p < L → x p ≤ 126) (hL9 : L ≤ 9) (hA4 : ∀ r, A r → r < 4) (hE : gm_En R L x Em A S0) {o1 o2 : Option Value}
    (hq : ∀ S' lk pr f k, gm_J R L x Em A S0 root S' lk pr [] f k 2600 → pr (13 * root.1 + root.2) = true → Q (.inl none, gm_h S')) :
    ∀ (g : Nat) (S : Nat → Nat → Int32) (lk pr : Nat → Bool) (stk : List Nat) (f k : Nat) (o3 : Option Value), 2080 < g + k → gm_J R L x Em A S0 root S lk pr stk f k 2600 → pr (13 * root.1 + root.2) = true →
    gx_X gm_P (d + 4) 37 (64, [some (.ref 0), o1, o2, o3], [], gm_h S, bc, bs) Q := by
  intro g
  induction g with
  | zero =>
    intro S lk pr stk f k o3 hk hJ
    have h8 := hJ.1.2.2.2.2.2.2.2.2.1
    have := gp_ct_N lk 2080
    omega
  | succ g ih =>
    intro S lk pr stk f k o3 hk hJ hroot
    obtain ⟨hL, j1, j2, j3, j4⟩ := id hJ
    obtain ⟨l1, l2, l3, l4, l5, l6, l6', l7, l8, l9⟩ := id hL
    have hN := gp_ct_N lk 2080
    cases stk with
    | nil => exact gb_lookAll_64 ⟨fun _ => hq S lk pr f k hJ hroot, fun h => absurd h (by rw [l4]; decide)⟩
    | cons c rest =>
      have hc20 : c < 2080 := (l9 c List.mem_cons_self).1
      have hlkc : lk c = true := (l9 c List.mem_cons_self).2
      have hlen : rest.length + 1 + k ≤ 2080 := by simp only [List.length_cons] at l8; omega
      have hpos : (0 : Int32) < S 0 28 := by
        rw [l4]
        exact nI_lt (a := 0) (by simp) (by simp; omega)
      have hm1 : S 0 28 - 1 = nI rest.length := by
        rw [l4]
        exact nI_pred rest.length
      have htop : S 22 rest.length = nI c := by
        have := l5 0 c rfl
        simpa using this
      have hcl : (nI rest.length).toNatClampNeg = rest.length := nI_clamp (by omega)
      obtain ⟨q1, q2⟩ := gp_divc hc20
      refine gb_lookAll_64 ⟨fun h => absurd hpos h, fun _ => ?_⟩
      rw [hm1, hcl, htop, q1]
      have q3 : nI c - nI (c / 13) * 13 = nI (c % 13) := by rw [← q2, q1]
      rw [q3]
      refine ⟨vp_in_nI (by omega) (by decide), ?_⟩
      have ec : 13 * (c / 13) + c % 13 = c := Nat.div_add_mod c 13
      have hp13 : c % 13 < 13 := Nat.mod_lt _ (by decide)
      obtain ⟨hn, hp, t, ht, hnd, hev⟩ := j1 (c / 13) (c % 13) hp13 (by rw [ec]; exact hlkc)
      have hJ1 : gm_J R L x Em A S0 root (gm_u S 0 28 (nI rest.length)) lk pr rest f (k + 1) c := by
        refine ⟨⟨⟨fun j hj => ?_, fun j hj => ?_⟩, fun c' hc' => ?_, fun c' hc' => ?_, ?_, fun i c' hi => ?_, ?_, l6', ?_, ?_, fun c' hc' => l9 c' (List.mem_cons_of_mem _ hc')⟩, j1, j2, j3, fun n' p' hp' h' hns hne t' ht' hnd' => j4 n' p' hp' h' (fun hm => ?_) (fun e => by have := (j1 n' p' hp' h').1; omega) t' ht' hnd'⟩
        · rw [gm_u_row _ _ _ (fun e => hj (by simp [e]))]
          exact l1.1 j hj
        · rw [gm_u_at, if_neg (fun e => hj (by simp [e.2]))]
          exact l1.2 j hj
        · rw [gm_u_at, if_neg (by omega)]; exact l2 c' hc'
        · rw [gm_u_at, if_neg (by omega)]; exact l3 c' hc'
        · rw [gm_u_at, if_pos ⟨rfl, rfl⟩]
        · rw [gm_u_at, if_neg (by omega)]
          have := (List.getElem?_eq_some_iff.mp hi).1
          have h := l5 (i + 1) c' (by simpa using hi)
          rw [← h]
          congr 1
          simp
          omega
        · rw [gm_u_at, if_neg (by omega)]; exact l6
        · rw [gm_u_at, if_neg (by omega)]; exact l7
        · simp only [List.length_cons] at l8
          omega
        · rcases List.mem_cons.mp hm with e | hm
          · exact hne e
          · exact hns hm
      refine gm_lookWithin hgood hg hL9 hA4 hE ht hnd hp hev hJ1 (fun S' lk' pr' stk' f' hJ' m1 m2 hdone => gb_lookAll_103 ?_)
      obtain ⟨hL', i1, i2, i3, i4⟩ := hJ'
      refine ih S' lk' pr' stk' f' (k + 1) _ (by omega) ⟨hL', i1, i2, i3, fun n' p' hp' h' hns hne t' ht' hnd' => ?_⟩ (m2 _ hroot)
      by_cases e : 13 * n' + p' = c
      · have e1 : n' = c / 13 := by omega
        have e2 : p' = c % 13 := by omega
        subst e1; subst e2
        exact gn_done_same hx ht ht' hdone
      · exact i4 n' p' hp' h' hns e t' ht' hnd'
/-- what the search ends with -/
theorem gm_la_end (hgood : gt_good R Em A o) (hg : gm_gr S0 R) (hL9 : L ≤ 9) (hA4 : ∀ r, A r → r < 4) (hJ : gm_J R L x Em A S0 root S lk pr [] f k 2600) (hroot : pr (13 * root.1 + root.2) = true) (hr2 : root.2 ≤ L) :
    gt_isF L x R root f ∧ ∃ v, gt_isV L x R root v ∧ gp_ct (fun c => (pr c).toNat) 52 = gp_ct (fun c => (v c).toNat) 40 := by
  have he := gt_Ed_ok (L := L) (x := x) hgood
  obtain ⟨hL, j1, j2, j3, j4⟩ := hJ
  have hcl := fun t => gn_closed (D := gm_D S0) (kd := fun n => gp_n (S0 7 n)) (mo := fun n => gp_n (S0 9 n)) (x := x) he (lk := fun n p => p ≤ L ∧ lk (13 * n + p) = true) (pr := fun r p => pr (13 * r + p) = true) (f := f) (fun t n p ht hnd hp hl => j4 n p (by omega) hl.2 List.not_mem_nil (fun e => by have := (j1 n p (by omega) hl.2).1; omega) t ht hnd) t
  -- the events of a pair that is marked
  have evs : ∀ r p, p ≤ L → pr (13 * r + p) = true → (∀ q, .inl q ∈ gt_evR L x R r p → q < f) ∧ (∀ d, .inr d ∈ gt_evR L x R r p → pr (13 * d.1 + d.2) = true ∧ d.2 ≤ L) := fun r p hp h => by
    obtain ⟨_, _, hA, hlk⟩ := j2 r p (by omega) h
    obtain ⟨_, t, ht, _⟩ := hgood r hA
    have hnd := gn_nd_rule hgood hA ht
    obtain ⟨c1, c2⟩ := (hcl t).1 (40 * r) p ((gm_gr_rts hg).2 r t ht) hnd hp ⟨hp, hlk⟩
    have e : gt_evR L x R r p = gt_ev L x (gt_Ed L x R) t p := by simp only [gt_evR, ht]
    rw [e]
    exact ⟨c1, fun d hd => ⟨c2 d hd, (gt_ev_in he t hnd.1 p hp d.1 d.2 hd).2.2.1⟩⟩
  have reach : ∀ b, gt_rch L x R root b → pr (13 * b.1 + b.2) = true ∧ b.2 ≤ L := fun b hb =>
    hb (fun b => pr (13 * b.1 + b.2) = true ∧ b.2 ≤ L) ⟨hroot, hr2⟩ (fun c d hc hd => (evs c.1 c.2 hc.2 hc.1).2 d hd)
  refine ⟨⟨fun b q hb hq => (evs b.1 b.2 (reach b hb).2 (reach b hb).1).1 q hq, j3⟩, fun c => decide (c < 40) && pr (13 * (c / 10) + c % 10), fun c => ⟨fun h => ?_, fun ⟨b, hb, e⟩ => ?_⟩, ?_⟩
  · obtain ⟨h1, h2⟩ := Bool.and_eq_true_iff.mp h
    have h1 : c < 40 := by simpa using h1
    exact ⟨(c / 10, c % 10), (j2 _ _ (by omega) h2).1, by show c = 10 * (c / 10) + c % 10; omega⟩
  · obtain ⟨h1, h2⟩ := reach b hb
    have h4 := hA4 _ (j2 b.1 b.2 (by omega) h1).2.2.1
    have e1 : c / 10 = b.1 := by omega
    have e2 : c % 10 = b.2 := by omega
    show (decide (c < 40) && pr (13 * (c / 10) + c % 10)) = true
    rw [e1, e2, h1]
    simp
    omega
  · refine gp_ct_1310 (fun r p hr hp => ?_) (fun r p hr hp1 hp2 => ?_)
    · have e1 : (10 * r + p) / 10 = r := by omega
      have e2 : (10 * r + p) % 10 = p := by omega
      have e3 : decide (10 * r + p < 40) = true := by simp; omega
      show (pr (13 * r + p)).toNat = (decide (10 * r + p < 40) && pr (13 * ((10 * r + p) / 10) + (10 * r + p) % 10)).toNat
      rw [e1, e2, e3, Bool.true_and]
    · cases h : pr (13 * r + p) with
      | false => rfl
      | true => have := (j2 r p hp2 h).2.1; omega
/-- lookAll -/
theorem gm_lookAll (hgood : gt_good R Em A o) (hg : gm_gr S R) (hx : ∀ p, p < L → x p ≤ 126) (hL9 : L ≤ 9) (hA4 : ∀ r, A r → r < 4) (hE : gm_En R L x Em A S) {r p : Nat} (hA : A r) (hp : p ≤ L) {o3 : Option Value}
    (hq : ∀ S' f v, gm_eqL S S' → S' 0 33 = nI f + -1 → f ≤ 10 → gt_isF L x R (r, p) f → gt_isV L x R (r, p) v → S' 0 34 = nI (gp_ct (fun c => (v c).toNat) 40) → Q (.inl none, gm_h S')) :
    gx_X gm_P (d + 4) 37 (0, [some (.ref 0), some (.int (nI r)), some (.int (nI p)), o3], [], gm_h S, bc, bs) Q := by
  have hr := hA4 r hA
  refine gb_lookAll_0 (gm_la_clear1 (S := S) (fun S1 e1 z1 => gm_la_clear2 (S := S) (fun S2 o3 e2 z2 z3 => ?_) 52 0 S1 rfl (fun k hk => e1 k (fun h => hk (by simp at h; simp [h]))) z1 (fun n hn => absurd hn (Nat.not_lt_zero _))) 2600 0 S rfl gm_eqr.refl (fun n hn => absurd hn (Nat.not_lt_zero _)))
  have hL : gm_L S (gm_u (gm_u (gm_u S2 0 33 (-1)) 0 34 0) 0 28 0) (fun _ => false) (fun _ => false) [] 0 0 := by
    refine ⟨⟨fun j hj => ?_, fun j hj => ?_⟩, fun c hc => ?_, fun c hc => ?_, ?_, (fun i c hi => by simp at hi), ?_, Nat.zero_le _, ?_, ?_, fun c hc => absurd hc List.not_mem_nil⟩
    · simp only [List.mem_cons, List.not_mem_nil, or_false, not_or] at hj
      rw [gm_u_row _ _ _ (by omega), gm_u_row _ _ _ (by omega), gm_u_row _ _ _ (by omega)]
      exact e2 j (by simp; omega)
    · simp only [List.mem_cons, List.not_mem_nil, or_false, not_or] at hj
      rw [gm_u_at, if_neg (by omega), gm_u_at, if_neg (by omega), gm_u_at, if_neg (by omega), e2 0 (by simp)]
    · rw [gm_u_at, if_neg (by omega), gm_u_at, if_neg (by omega), gm_u_at, if_neg (by omega)]
      exact z2 c hc
    · rw [gm_u_at, if_neg (by omega), gm_u_at, if_neg (by omega), gm_u_at, if_neg (by omega)]
      exact z3 c hc
    · rw [gm_u_at, if_pos ⟨rfl, rfl⟩]
      rfl
    · rw [gm_u_at, if_neg (by omega), gm_u_at, if_neg (by omega), gm_u_at, if_pos ⟨rfl, rfl⟩]
      decide
    · rw [gm_u_at, if_neg (by omega), gm_u_at, if_pos ⟨rfl, rfl⟩]
      have z : gp_ct (fun c => ((fun _ => false : Nat → Bool) c).toNat) 52 = 0 := gp_ct_0 52 (fun _ _ => rfl)
      rw [z]
      rfl
    · have z : gp_ct (fun c => ((fun _ => false : Nat → Bool) c).toNat) 2080 = 0 := gp_ct_0 2080 (fun _ _ => rfl)
      rw [z]
      rfl
  refine gm_rule (x := x) (ex := 2600) (root := (r, p)) hgood hg hL9 hr hp hA gt_rch.refl hL (fun n p _ h => by cases h) (fun r p _ h => by cases h) (.inl rfl) (fun n p _ h => by cases h) (fun S3 lk pr stk hJ _ _ _ hpr => ?_)
  refine gm_la_loop hgood hg hx hL9 hA4 hE (fun S4 lk pr f k hJ4 hpr4 => ?_) 2081 S3 lk pr stk 0 0 _ (by omega) hJ hpr
  obtain ⟨hF, v, hV, hcnt⟩ := gm_la_end hgood hg hL9 hA4 hJ4 hpr4 hp
  obtain ⟨l1, l2, l3, l4, l5, l6, l6', l7, l8, l9⟩ := hJ4.1
  exact hq S4 f v l1 l6 l6' hF hV (by rw [l7, hcnt])
end GMM
