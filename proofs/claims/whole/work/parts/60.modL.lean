/-! The model's lookWithin and lookAll. -/
section GML
variable {S S0 : Nat → Nat → Int32} {R : Nat → Option gt_T} {d bc bs : Nat} {Q : gx_R → Prop} {L : Nat} {x : Nat → Nat} {Em : Nat → Bool} {A : Nat → Prop} {o : Nat → Nat} {root : Nat × Nat} {lk pr : Nat → Bool} {stk : List Nat} {f k ex : Nat}
/-- the ends of good rules' nodes stand in the row -/
def gm_En (R : Nat → Option gt_T) (L : Nat) (x : Nat → Nat) (Em : Nat → Bool) (A : Nat → Prop) (S0 : Nat → Nat → Int32) : Prop := ∀ t n p, gm_tr S0 t false n → gn_nd Em A t → p ≤ L → S0 20 (13 * n + p) = gp_e (some (gt_en L x (gt_Ed L x R) t p))
theorem gp_e_lt {v : Option Nat} (h : ∀ q, v = some q → q ≤ 9) : gp_e (some v) < 0 ↔ v = none := by
  cases v with
  | none => exact ⟨fun _ => rfl, fun _ => (by decide : (-1 : Int32) < 0)⟩
  | some q =>
    have := h q rfl
    exact ⟨fun h0 => absurd h0 (nI_pos (by omega)), fun h => by cases h⟩
theorem gm_J_row (hJ : gm_J R L x Em A S0 root S lk pr stk f k ex) {j : Nat} (hj : j ∉ [0, 21, 22, 23]) : S j = S0 j := hJ.1.1.1 j hj
/-- the sequences of a choice -/
theorem gm_lW10 (hgood : gt_good R Em A o) (hL9 : L ≤ 9) (hE : gm_En R L x Em A S0) {p : Nat} (hp : p ≤ L) {o1 o3 : Option Value} (t : gt_T) : ∀ (n : Nat) (S : Nat → Nat → Int32) (lk : Nat → Bool) (stk : List Nat), gm_tr S0 t true n → gt_isl 9 t = false → gn_nd Em A t → gm_J R L x Em A S0 root S lk pr stk f k ex → (∀ m q, (m, q) ∈ gn_csub L x (gt_Ed L x R) (gm_nx S0) t n p → gm_met R L x Em A S0 root m q) →
    (∀ S' lk' stk' o4 o5, gm_J R L x Em A S0 root S' lk' pr stk' f k ex → (∀ c, lk c = true → lk' c = true) → (∀ m q, (m, q) ∈ gn_csub L x (gt_Ed L x R) (gm_nx S0) t n p → lk' (13 * m + q) = true) → gx_X gm_P (d + 2) 36 (274, [some (.ref 0), o1, some (.int (nI p)), o3, o4, o5], [], gm_h S', bc, bs) Q) →
    gx_X gm_P (d + 2) 36 (84, [some (.ref 0), o1, some (.int (nI p)), o3, some (.int 1), some (.int (nI n))], [], gm_h S, bc, bs) Q := by
  have he := gt_Ed_ok (L := L) (x := x) hgood
  have one : ∀ (a : gt_T) (n : Nat) (S : Nat → Nat → Int32) (lk : Nat → Bool) (stk : List Nat), gm_tr S0 a false n → gn_nd Em A a → gm_J R L x Em A S0 root S lk pr stk f k ex → gm_met R L x Em A S0 root n p →
      (∀ S' lk' stk', gm_J R L x Em A S0 root S' lk' pr stk' f k ex → (∀ c, lk c = true → lk' c = true) → lk' (13 * n + p) = true → gx_X gm_P (d + 2) 36 (84, [some (.ref 0), o1, some (.int (nI p)), o3, some (.int (if gt_en L x (gt_Ed L x R) a p = none then 1 else 0)), some (.int (S0 10 n))], [], gm_h S', bc, bs) Q) →
      gx_X gm_P (d + 2) 36 (84, [some (.ref 0), o1, some (.int (nI p)), o3, some (.int 1), some (.int (nI n))], [], gm_h S, bc, bs) Q := fun a n S lk stk ha hnd hJ hmet K => by
    have hn := gm_tr_lt ha
    obtain ⟨g1, g2, g3⟩ := gp_13 hn (show p < 13 by omega)
    have hc : (nI n).toNatClampNeg = n := nI_clamp (by omega)
    refine gb_lookWithin_84 ⟨fun h => absurd h (nI_pos (by omega)), fun _ => ⟨fun h => absurd h (by decide), fun _ => gm_lookAt hL9 hJ hn hmet (fun S' lk' stk' hJ' m1 m2 => gb_lookWithin_101 ?_)⟩⟩
    have K' := K S' lk' stk' hJ' m1 m2
    rw [g1, g2, gm_J_row hJ' (j := 20) (by simp), hE a n p ha hnd hp, gp_e_lt (fun q hq => by have := (gt_en_ok he a hnd.1 p q hp hq).2.1; omega)]
    have e10 := gm_J_row hJ' (j := 10) (by simp)
    refine ⟨g3, fun h => gb_lookWithin_121 ⟨vp_in_nI (by omega) (by decide), ?_⟩, fun h => gb_lookWithin_121 ⟨vp_in_nI (by omega) (by decide), ?_⟩⟩
    · rw [if_neg h] at K'
      rw [hc, e10]
      exact K'
    · rw [if_pos h] at K'
      rw [hc, e10]
      exact K'
  induction t with
  | sepBy1 a s c b iha ihc =>
    intro n S lk stk ht _ hnd hJ hmet K
    obtain ⟨_, k1, k2, m, k3, k4⟩ := ht
    obtain ⟨na, nc⟩ := gn_nd_ch hnd
    unfold gn_csub at hmet K
    refine one a n S lk stk k1 na hJ (hmet n p List.mem_cons_self) (fun S' lk' stk' hJ' m1 m2 => ?_)
    cases h6 : gt_en L x (gt_Ed L x R) a p with
    | some q1 =>
      rw [h6] at K
      rw [if_neg (by simp)]
      refine gb_lookWithin_84 ⟨fun _ => gb_lookWithin_135 ?_, fun _ => ⟨fun _ => gb_lookWithin_135 ?_, fun h => absurd rfl h⟩⟩
      · refine K S' lk' stk' _ _ hJ' m1 (fun m' q' hm => ?_)
        have e : (m', q') = (n, p) := by simpa using hm
        cases e
        exact m2
      · refine K S' lk' stk' _ _ hJ' m1 (fun m' q' hm => ?_)
        have e : (m', q') = (n, p) := by simpa using hm
        cases e
        exact m2
    | none =>
      rw [h6, k3] at K hmet
      rw [if_pos rfl, gm_nx_some k3]
      refine ihc m S' lk' stk' k4 k2 nc hJ' (fun m' q' hm => hmet m' q' (List.mem_cons_of_mem _ hm)) (fun S2 lk2 stk2 o4 o5 hJ2 n1 n2 => K S2 lk2 stk2 o4 o5 hJ2 (fun c hc => n1 c (m1 c hc)) (fun m' q' hm => ?_))
      rcases List.mem_cons.mp hm with e | hm
      · cases e
        exact n1 _ m2
      · exact n2 m' q' hm
  | sepBy a s c b iha ihc => intro n S lk stk _ h; cases h
  | _ =>
    intro n S lk stk ht h9 hnd hJ hmet K
    obtain ⟨t1, t2⟩ := gn_tr_list ht h9 rfl
    have hx := gm_nx_none t2
    refine one _ n S lk stk t1 hnd hJ (hmet n p List.mem_cons_self) (fun S' lk' stk' hJ' m1 m2 => ?_)
    refine gb_lookWithin_84 ⟨fun _ => gb_lookWithin_135 ?_, fun h => absurd hx h⟩
    refine K S' lk' stk' _ _ hJ' m1 (fun m' q' hm => ?_)
    have e : (m', q') = (n, p) := by simpa [gn_csub] using hm
    cases e
    exact m2
/-- the items of a sequence -/
theorem gm_lW9 (hgood : gt_good R Em A o) (hL9 : L ≤ 9) (hE : gm_En R L x Em A S0) {o1 o2 o3 : Option Value} (t : gt_T) : ∀ (n p : Nat) (S : Nat → Nat → Int32) (lk : Nat → Bool) (stk : List Nat), p ≤ L → gm_tr S0 t true n → gt_isl 10 t = false → gn_nd Em A t → gm_J R L x Em A S0 root S lk pr stk f k ex → (∀ m q, (m, q) ∈ gn_ssub L x (gt_Ed L x R) (gm_nx S0) t n p → gm_met R L x Em A S0 root m q) →
    (∀ S' lk' stk' o4 o5, gm_J R L x Em A S0 root S' lk' pr stk' f k ex → (∀ c, lk c = true → lk' c = true) → (∀ m q, (m, q) ∈ gn_ssub L x (gt_Ed L x R) (gm_nx S0) t n p → lk' (13 * m + q) = true) → gx_X gm_P (d + 2) 36 (274, [some (.ref 0), o1, o2, o3, o4, o5], [], gm_h S', bc, bs) Q) →
    gx_X gm_P (d + 2) 36 (155, [some (.ref 0), o1, o2, o3, some (.int (nI p)), some (.int (nI n))], [], gm_h S, bc, bs) Q := by
  have he := gt_Ed_ok (L := L) (x := x) hgood
  have one : ∀ (a : gt_T) (n p : Nat) (S : Nat → Nat → Int32) (lk : Nat → Bool) (stk : List Nat), p ≤ L → gm_tr S0 a false n → gn_nd Em A a → gm_J R L x Em A S0 root S lk pr stk f k ex → gm_met R L x Em A S0 root n p →
      (∀ S' lk' stk', gm_J R L x Em A S0 root S' lk' pr stk' f k ex → (∀ c, lk c = true → lk' c = true) → lk' (13 * n + p) = true → gx_X gm_P (d + 2) 36 (155, [some (.ref 0), o1, o2, o3, some (.int (gp_e (some (gt_en L x (gt_Ed L x R) a p)))), some (.int (S0 10 n))], [], gm_h S', bc, bs) Q) →
      gx_X gm_P (d + 2) 36 (155, [some (.ref 0), o1, o2, o3, some (.int (nI p)), some (.int (nI n))], [], gm_h S, bc, bs) Q := fun a n p S lk stk hp ha hnd hJ hmet K => by
    have hn := gm_tr_lt ha
    obtain ⟨g1, g2, g3⟩ := gp_13 hn (show p < 13 by omega)
    have hc : (nI n).toNatClampNeg = n := nI_clamp (by omega)
    refine gb_lookWithin_155 ⟨fun h => absurd h (nI_pos (by omega)), fun _ => ⟨fun h => absurd h (nI_pos (by omega)), fun _ => gm_lookAt hL9 hJ hn hmet (fun S' lk' stk' hJ' m1 m2 => gb_lookWithin_173 ?_)⟩⟩
    rw [g1, g2, gm_J_row hJ' (j := 20) (by simp), hE a n p ha hnd hp, hc, gm_J_row hJ' (j := 10) (by simp)]
    exact ⟨g3, vp_in_nI (by omega) (by decide), K S' lk' stk' hJ' m1 m2⟩
  induction t with
  | sepBy a s c b iha ihc =>
    intro n p S lk stk hp ht _ hnd hJ hmet K
    obtain ⟨_, k1, k2, m, k3, k4⟩ := ht
    obtain ⟨na, nc⟩ := gn_nd_seq hnd
    unfold gn_ssub at hmet K
    refine one a n p S lk stk hp k1 na hJ (hmet n p List.mem_cons_self) (fun S' lk' stk' hJ' m1 m2 => ?_)
    cases h6 : gt_en L x (gt_Ed L x R) a p with
    | none =>
      rw [h6] at K
      have stop : gx_X gm_P (d + 2) 36 (200, [some (.ref 0), o1, o2, o3, some (.int (gp_e (some none))), some (.int (S0 10 n))], [], gm_h S', bc, bs) Q := by
        refine gb_lookWithin_200 (K S' lk' stk' _ _ hJ' m1 (fun m' q' hm => ?_))
        have e : (m', q') = (n, p) := by simpa using hm
        cases e
        exact m2
      exact gb_lookWithin_155 ⟨fun _ => stop, fun _ => ⟨fun _ => stop, fun h => absurd (by decide) h⟩⟩
    | some q1 =>
      rw [h6, k3] at K hmet
      have hq1 := (gt_en_ok he a na.1 p q1 hp h6).2.1
      rw [gm_nx_some k3]
      refine ihc m q1 S' lk' stk' hq1 k4 k2 nc hJ' (fun m' q' hm => hmet m' q' (List.mem_cons_of_mem _ hm)) (fun S2 lk2 stk2 o4 o5 hJ2 n1 n2 => K S2 lk2 stk2 o4 o5 hJ2 (fun c hc => n1 c (m1 c hc)) (fun m' q' hm => ?_))
      rcases List.mem_cons.mp hm with e | hm
      · cases e
        exact n1 _ m2
      · exact n2 m' q' hm
  | sepBy1 a s c b iha ihc => intro n p S lk stk _ _ h; cases h
  | _ =>
    intro n p S lk stk hp ht h10 hnd hJ hmet K
    obtain ⟨t1, t2⟩ := gn_tr_list ht rfl h10
    have hx := gm_nx_none t2
    refine one _ n p S lk stk hp t1 hnd hJ (hmet n p List.mem_cons_self) (fun S' lk' stk' hJ' m1 m2 => ?_)
    refine gb_lookWithin_155 ⟨fun _ => gb_lookWithin_200 ?_, fun h => absurd hx h⟩
    refine K S' lk' stk' _ _ hJ' m1 (fun m' q' hm => ?_)
    have e : (m', q') = (n, p) := by simpa [gn_ssub] using hm
    cases e
    exact m2
/-- the turns of a star -/
theorem gm_lWs (hgood : gt_good R Em A o) (hL9 : L ≤ 9) (hE : gm_En R L x Em A S0) {n : Nat} (hn : n < 160) {a : gt_T} (ha : gm_tr S0 a false (gp_n (S0 8 n))) (hnd : gn_nd Em A a) (hem : gt_emp Em a = false) {o2 o3 o5 : Option Value} : ∀ (g p : Nat) (S : Nat → Nat → Int32) (lk : Nat → Bool) (stk : List Nat), p ≤ L → L < g + p → gm_J R L x Em A S0 root S lk pr stk f k ex → (∀ q, q ∈ gt_tp (gt_en L x (gt_Ed L x R) a) 10 p → gm_met R L x Em A S0 root (gp_n (S0 8 n)) q) →
    (∀ S' lk' stk' o4, gm_J R L x Em A S0 root S' lk' pr stk' f k ex → (∀ c, lk c = true → lk' c = true) → (∀ q, q ∈ gt_tp (gt_en L x (gt_Ed L x R) a) 10 p → lk' (13 * gp_n (S0 8 n) + q) = true) → gx_X gm_P (d + 2) 36 (274, [some (.ref 0), some (.int (nI n)), o2, o3, o4, o5], [], gm_h S', bc, bs) Q) →
    gx_X gm_P (d + 2) 36 (216, [some (.ref 0), some (.int (nI n)), o2, o3, some (.int (nI p)), o5], [], gm_h S, bc, bs) Q := by
  have he := gt_Ed_ok (L := L) (x := x) hgood
  have hst : ∀ p q, p ≤ L → gt_en L x (gt_Ed L x R) a p = some q → p < q ∧ q ≤ L := fun p q hp h => ⟨(gt_en_ok he a hnd.1 p q hp h).2.2 hem, (gt_en_ok he a hnd.1 p q hp h).2.1⟩
  have hw := gm_tr_lt ha
  have hc : (nI n).toNatClampNeg = n := nI_clamp (by omega)
  have hin : vp_in (nI n) 200 := vp_in_nI (by omega) (by decide)
  intro g
  induction g with
  | zero => intro p S lk stk hp hg; omega
  | succ g ih =>
    intro p S lk stk hp hg hJ hmet K
    rw [(gt_tn_roll hst true hp (by omega)).2] at hmet K
    obtain ⟨g1, g2, g3⟩ := gp_13 hw (show p < 13 by omega)
    refine gb_lookWithin_216 ⟨fun h => absurd h (nI_pos (by omega)), fun _ => ⟨hin, ?_⟩⟩
    rw [hc, gm_J_row hJ (j := 8) (by simp), ← gp_nI (S0 8 n)]
    refine gm_lookAt hL9 hJ hw (hmet p List.mem_cons_self) (fun S' lk' stk' hJ' m1 m2 => gb_lookWithin_233 ?_)
    rw [hc, gm_J_row hJ' (j := 8) (by simp), ← gp_nI (S0 8 n), g1, g2, gm_J_row hJ' (j := 20) (by simp), hE a _ p ha hnd hp]
    refine ⟨hin, g3, ?_⟩
    cases h6 : gt_en L x (gt_Ed L x R) a p with
    | none =>
      rw [h6] at K
      refine gb_lookWithin_216 ⟨fun _ => K S' lk' stk' _ hJ' m1 (fun q hq => ?_), fun h => absurd (by decide) h⟩
      have e : q = p := by simpa using hq
      rw [e]
      exact m2
    | some q1 =>
      rw [h6] at K hmet
      have h7 := hst p q1 hp h6
      refine ih q1 S' lk' stk' h7.2 (by omega) hJ' (fun q hq => hmet q (List.mem_cons_of_mem _ hq)) (fun S2 lk2 stk2 o4 hJ2 n1 n2 => K S2 lk2 stk2 o4 hJ2 (fun c hc => n1 c (m1 c hc)) (fun q hq => ?_))
      rcases List.mem_cons.mp hq with e | hq
      · rw [e]
        exact n1 _ m2
      · exact n2 q hq
/-- lookWithin: all is done at a cell -/
theorem gm_lookWithin (hgood : gt_good R Em A o) (hg : gm_gr S0 R) (hL9 : L ≤ 9) (hA4 : ∀ r, A r → r < 4) (hE : gm_En R L x Em A S0) {t : gt_T} {n p : Nat} (ht : gm_tr S0 t false n) (hnd : gn_nd Em A t) (hp : p ≤ L) (hmet : ∀ v, v ∈ gt_ev L x (gt_Ed L x R) t p → ∃ b, gt_rch L x R root b ∧ v ∈ gt_evR L x R b.1 b.2) (hJ : gm_J R L x Em A S0 root S lk pr stk f k ex) {o3 o4 o5 : Option Value}
    (hq : ∀ S' lk' pr' stk' f', gm_J R L x Em A S0 root S' lk' pr' stk' f' k ex → (∀ c, lk c = true → lk' c = true) → (∀ c, pr c = true → pr' c = true) → gn_done L x (gt_Ed L x R) (fun n => gp_n (S0 8 n)) (gm_nx S0) (fun n p => p ≤ L ∧ lk' (13 * n + p) = true) (fun r p => pr' (13 * r + p) = true) f' t n p → Q (.inl none, gm_h S')) :
    gx_X gm_P (d + 3) 36 (0, [some (.ref 0), some (.int (nI n)), some (.int (nI p)), o3, o4, o5], [], gm_h S, bc, bs) Q := by
  have he := gt_Ed_ok (L := L) (x := x) hgood
  have hn := gm_tr_lt ht
  have hc : (nI n).toNatClampNeg = n := nI_clamp (by omega)
  have hin : vp_in (nI n) 200 := vp_in_nI (by omega) (by decide)
  have e7 := gm_J_row hJ (j := 7) (by simp)
  have e8 := gm_J_row hJ (j := 8) (by simp)
  have e20 := gm_J_row hJ (j := 20) (by simp)
  -- what is looked at from here is met
  have sub : (∀ r, t ≠ .parser r) → ∀ m q, (m, q) ∈ gn_sub L x (gt_Ed L x R) (fun n => gp_n (S0 8 n)) (gm_nx S0) t n p → q ≤ L ∧ gm_met R L x Em A S0 root m q := fun hnp m q hm => by
    obtain ⟨h1, t', h2, h3, h4⟩ := gn_sub_in he ht hnd hp hnp m q hm
    exact ⟨h1, h1, t', h2, h3, fun v hv => hmet v (h4 v hv)⟩
  -- one cell within
  have within1 : ∀ (a : gt_T), gm_tr S0 a false (gp_n (S0 8 n)) → gm_met R L x Em A S0 root (gp_n (S0 8 n)) p → (∀ S' lk' stk', gm_J R L x Em A S0 root S' lk' pr stk' f k ex → (∀ c, lk c = true → lk' c = true) → lk' (13 * gp_n (S0 8 n) + p) = true → Q (.inl none, gm_h S')) → ∀ (a3 : Int32), gx_X gm_P (d + 2) 34 (0, [some (.ref 0), some (.int (S0 8 n)), some (.int (nI p))], [], gm_h S, 0, 0) (gx_k [some (.ref 0), some (.int (nI n)), some (.int (nI p)), some (.int a3), o4, o5] [] 274 bc bs (fun S9 => gx_X gm_P (d + 3) 36 S9 Q) Q) := fun a ha hm K a3 => by
    rw [← gp_nI (S0 8 n)]
    exact gm_lookAt hL9 hJ (gm_tr_lt ha) hm (fun S' lk' stk' hJ' m1 m2 => gb_lookWithin_274 (K S' lk' stk' hJ' m1 m2))
  refine gb_lookWithin_0 ?_
  rw [hc, e7, e8, e20]
  cases t with
  | cat l hi =>
    have hk : S0 7 n = 0 := gp_lit ht.2.2.1
    obtain ⟨g1, g2, g3⟩ := gp_13 hn (show p < 13 by omega)
    simp (decide := true) only [hk, not_false_eq_true, true_implies, false_implies, and_true, true_and, implies_true, not_true_eq_false]
    rw [g1, g2, hE _ n p ht hnd hp, gp_e_lt (fun q hq => by have := (gt_en_ok he _ hnd.1 p q hp hq).2.1; omega)]
    obtain ⟨hL, j1, j2, j3, j4⟩ := id hJ
    obtain ⟨l1, l2, l3, l4, l5, l6, l6', l7, l8, l9⟩ := id hL
    have hfar : S 0 33 < nI p ↔ f ≤ p := by
      rw [l6]
      cases f with
      | zero =>
        refine ⟨fun _ => Nat.zero_le _, fun _ => ?_⟩
        have : p = 0 ∨ p = 1 ∨ p = 2 ∨ p = 3 ∨ p = 4 ∨ p = 5 ∨ p = 6 ∨ p = 7 ∨ p = 8 ∨ p = 9 := by omega
        rcases this with rfl | rfl | rfl | rfl | rfl | rfl | rfl | rfl | rfl | rfl <;> decide +kernel
      | succ f =>
        rw [show nI (f + 1) + -1 = nI f from pk_m1 f, nI_ltI (by omega) (by omega)]
        omega
    have put : ∀ f', f ≤ f' → f' ≤ 10 → (f' = f ∨ (f' = p + 1 ∧ gt_en L x (gt_Ed L x R) (.cat l hi) p = none)) → (gt_en L x (gt_Ed L x R) (.cat l hi) p = none → p < f') → gx_X gm_P (d + 3) 36 (42, [some (.ref 0), some (.int (nI n)), some (.int (nI p)), some (.int 0), o4, o5], [.int (nI f' + -1), .ref 0], gm_h S, bc, bs) Q := fun f' hf1 hf2 hf3 hf4 => by
      refine gb_lookWithin_42 (gb_lookWithin_274 (hq _ lk pr stk f' ⟨⟨⟨fun j hj => ?_, fun j hj => ?_⟩, fun c hc => ?_, fun c hc => ?_, ?_, fun i c hi => ?_, ?_, hf2, ?_, l8, l9⟩, j1, j2, ?_, fun n' p' hp' h' hns hne t' ht' hnd' => gn_done_mono (j4 n' p' hp' h' hns hne t' ht' hnd') (fun _ _ h => h) (fun _ _ h => h) hf1⟩ (fun _ h => h) (fun _ h => h) ⟨(fun m q hm => by cases hm), (fun r h => by cases h), fun l2 hi2 _ he2 => hf4 he2⟩))
      · rw [gm_u_row _ _ _ (fun e => hj (by simp [e]))]
        exact l1.1 j hj
      · rw [gm_u_at, if_neg (fun e => hj (by simp [e.2]))]
        exact l1.2 j hj
      · rw [gm_u_at, if_neg (by omega)]; exact l2 c hc
      · rw [gm_u_at, if_neg (by omega)]; exact l3 c hc
      · rw [gm_u_at, if_neg (by omega)]; exact l4
      · rw [gm_u_at, if_neg (by omega)]; exact l5 i c hi
      · rw [gm_u_at, if_pos ⟨rfl, rfl⟩]
      · rw [gm_u_at, if_neg (by omega)]; exact l7
      · rcases hf3 with e | ⟨e, hno⟩
        · rw [e]; exact j3
        · right
          have hmem : Sum.inl p ∈ gt_ev L x (gt_Ed L x R) (.cat l hi) p := by
            unfold gt_en at hno
            unfold gt_ev
            split at hno
            · cases hno
            · rename_i hcond
              rw [if_neg hcond]
              exact List.mem_cons_self
          obtain ⟨b, hb1, hb2⟩ := hmet _ hmem
          exact ⟨b, hb1, by rw [e]; exact hb2⟩
    refine ⟨hin, g3, fun h => gb_lookWithin_38 ?_, fun h => ⟨fun h' => gb_lookWithin_38 ?_, fun h' => ?_⟩⟩
    · rw [l6]
      exact put f (Nat.le_refl _) l6' (.inl rfl) (fun h0 => absurd h0 h)
    · rw [l6]
      rw [hfar] at h'
      exact put f (Nat.le_refl _) l6' (.inl rfl) (fun _ => by omega)
    · rw [hfar] at h'
      have := put (p + 1) (by omega) (by omega) (.inr ⟨rfl, h⟩) (fun _ => by omega)
      rw [show nI (p + 1) + -1 = nI p from pk_m1 p] at this
      exact this
  | parser r =>
    have hk : S0 7 n = 1 := gp_lit ht.2.2.1
    have hA : A (gt_nm r) := hnd.1 _ (by simp [gt_nms])
    have hr := hA4 _ hA
    have hw2 : S0 8 n = nI (gt_nm r) := gp_of ht.2.2.2
    simp (decide := true) only [hk, hw2, not_false_eq_true, true_implies, false_implies, and_true, true_and, implies_true, not_true_eq_false]
    obtain ⟨hL, j1, j2, j3, j4⟩ := id hJ
    obtain ⟨b, hb1, hb2⟩ := hmet (.inr (gt_nm r, p)) (by simp [gt_ev])
    refine ⟨hin, hin, gm_rule hgood hg hL9 hr hp hA (hb1.tail hb2) hL j1 j2 j3 j4 (fun S' lk' pr' stk' hJ' m1 m2 m3 m4 => gb_lookWithin_64 (gb_lookWithin_274 (hq S' lk' pr' stk' f hJ' m1 m2 ⟨fun m q hm => ?_, fun r' h => ?_, (fun _ _ h => by cases h)⟩)))⟩
    · have e : (m, q) = (40 * gt_nm r, p) := by simpa [gn_sub] using hm
      cases e
      exact ⟨hp, m3⟩
    · cases h
      exact m4
  | const r =>
    have hk : S0 7 n = 2 := gp_lit ht.2.2
    simp (decide := true) only [hk, not_false_eq_true, true_implies, false_implies, and_true, true_and, implies_true, not_true_eq_false]
    exact ⟨hin, gb_lookWithin_274 (hq S lk pr stk f hJ (fun _ h => h) (fun _ h => h) ⟨(fun m q hm => by cases hm), (fun r h => by cases h), (fun _ _ h => by cases h)⟩)⟩
  | unary m a =>
    have hk : S0 7 n = 3 := gp_lit ht.2.2.1
    have hm := sub (fun r h => by cases h) (gp_n (S0 8 n)) p List.mem_cons_self
    simp (decide := true) only [hk, not_false_eq_true, true_implies, false_implies, and_true, true_and, implies_true, not_true_eq_false]
    refine ⟨hin, hin, within1 a ht.2.2.2 hm.2 (fun S' lk' stk' hJ' m1 m2 => hq S' lk' pr stk' f hJ' m1 (fun _ h => h) ⟨fun m' q' hm' => ?_, (fun r h => by cases h), (fun _ _ h => by cases h)⟩) _⟩
    have e : (m', q') = (gp_n (S0 8 n), p) := by simpa [gn_sub] using hm'
    cases e
    exact ⟨hp, m2⟩
  | trailingNode m k' l a =>
    have hk := ht.2.2.1
    have hm := sub (fun r h => by cases h) (gp_n (S0 8 n)) p List.mem_cons_self
    have fin : ∀ S' lk' stk', gm_J R L x Em A S0 root S' lk' pr stk' f k ex → (∀ c, lk c = true → lk' c = true) → lk' (13 * gp_n (S0 8 n) + p) = true → Q (.inl none, gm_h S') := fun S' lk' stk' hJ' m1 m2 => hq S' lk' pr stk' f hJ' m1 (fun _ h => h) ⟨fun m' q' hm' => by
      have e : (m', q') = (gp_n (S0 8 n), p) := by simpa [gn_sub] using hm'
      cases e
      exact ⟨hp, m2⟩, (fun r h => by cases h), (fun _ _ h => by cases h)⟩
    by_cases k1 : k' = 1
    · rw [if_pos k1] at hk
      have hk : S0 7 n = 7 := gp_lit hk
      simp (decide := true) only [hk, not_false_eq_true, true_implies, false_implies, and_true, true_and, implies_true, not_true_eq_false]
      exact ⟨hin, hin, within1 a ht.2.2.2 hm.2 fin _⟩
    · rw [if_neg k1] at hk
      have hk : S0 7 n = 8 := gp_lit hk
      simp (decide := true) only [hk, not_false_eq_true, true_implies, false_implies, and_true, true_and, implies_true, not_true_eq_false]
      exact ⟨hin, hin, within1 a ht.2.2.2 hm.2 fin _⟩
  | node m k' a =>
    have hk := ht.2.2.2.1
    have hk3 := ht.2.2.1
    obtain ⟨na, nem⟩ := gn_nd_rep hnd
    have star : k' ≠ 2 → ∀ (a3 : Int32), gx_X gm_P (d + 3) 36 (213, [some (.ref 0), some (.int (nI n)), some (.int (nI p)), some (.int a3), o4, o5], [], gm_h S, bc, bs) Q := fun k2 a3 => by
      have em : gt_most k' = 10 := by rw [gt_most, if_neg k2]
      refine gb_lookWithin_213 (gm_lWs hgood hL9 hE hn ht.2.2.2.2 na (nem k2) (L + 1) p S lk stk hp (by omega) hJ (fun q hq' => ?_) (fun S' lk' stk' o4' hJ' m1 m2 => gb_lookWithin_274 (hq S' lk' pr stk' f hJ' m1 (fun _ h => h) ⟨fun m' q' hm' => ?_, (fun r h => by cases h), (fun _ _ h => by cases h)⟩)))
      · exact (sub (fun r h => by cases h) (gp_n (S0 8 n)) q (List.mem_map.mpr ⟨q, by rw [em]; exact hq', rfl⟩)).2
      · obtain ⟨q, hq', e⟩ := List.mem_map.mp hm'
        cases e
        rw [em] at hq'
        exact ⟨(sub (fun r h => by cases h) _ q' hm').1, m2 q' hq'⟩
    have : k' = 0 ∨ k' = 1 ∨ k' = 2 := by omega
    rcases this with rfl | rfl | rfl
    · have hk : S0 7 n = 4 := gp_lit hk
      simp (decide := true) only [hk, not_false_eq_true, true_implies, false_implies, and_true, true_and, implies_true, not_true_eq_false]
      exact ⟨hin, star (by decide) _⟩
    · have hk : S0 7 n = 5 := gp_lit hk
      simp (decide := true) only [hk, not_false_eq_true, true_implies, false_implies, and_true, true_and, implies_true, not_true_eq_false]
      exact ⟨hin, star (by decide) _⟩
    · have hk : S0 7 n = 6 := gp_lit hk
      have htp : gt_tp (gt_en L x (gt_Ed L x R) a) (gt_most 2) p = [p] := by
        rw [show gt_most 2 = 0 + 1 from rfl, gt_tp_s]
        cases gt_en L x (gt_Ed L x R) a p <;> rfl
      have hm := sub (fun r h => by cases h) (gp_n (S0 8 n)) p (List.mem_map.mpr ⟨p, by rw [htp]; exact List.mem_cons_self, rfl⟩)
      simp (decide := true) only [hk, not_false_eq_true, true_implies, false_implies, and_true, true_and, implies_true, not_true_eq_false]
      refine ⟨hin, hin, within1 a ht.2.2.2.2 hm.2 (fun S' lk' stk' hJ' m1 m2 => hq S' lk' pr stk' f hJ' m1 (fun _ h => h) ⟨fun m' q' hm' => ?_, (fun r h => by cases h), (fun _ _ h => by cases h)⟩) _⟩
      obtain ⟨q, hq', e⟩ := List.mem_map.mp hm'
      cases e
      rw [htp] at hq'
      have e : q' = p := by simpa using hq'
      rw [e]
      exact ⟨hp, m2⟩
  | nodeWithAntiquot s k' a =>
    have sub' := sub (fun r h => by cases h)
    obtain ⟨_, _, hk, hta, hl⟩ := ht
    have hw : S0 8 n = nI (gp_n (S0 8 n)) := (gp_nI _).symm
    simp only [gn_sub] at sub'
    rcases hl with ⟨h9', hl⟩ | ⟨h9', hl⟩
    · rw [h9'] at hk
      rw [if_pos h9'] at sub'
      have hk : S0 7 n = 9 := gp_lit hk
      simp (decide := true) only [hk, not_false_eq_true, true_implies, false_implies, and_true, true_and, implies_true, not_true_eq_false]
      refine ⟨hin, hin, ?_⟩
      rw [hw]
      refine gm_lW9 hgood hL9 hE a _ p S lk stk hp hta hl hnd hJ (fun m q hm => (sub' m q hm).2) (fun S' lk' stk' o4' o5' hJ' m1 m2 => gb_lookWithin_274 (hq S' lk' pr stk' f hJ' m1 (fun _ h => h) ⟨fun m' q' hm' => ?_, (fun r h => by cases h), (fun _ _ h => by cases h)⟩))
      simp only [gn_sub] at hm'
      rw [if_pos h9'] at hm'
      exact ⟨(sub' m' q' hm').1, m2 m' q' hm'⟩
    · rw [h9'] at hk
      rw [if_neg (by omega)] at sub'
      have hk : S0 7 n = 10 := gp_lit hk
      simp (decide := true) only [hk, not_false_eq_true, true_implies, false_implies, and_true, true_and, implies_true, not_true_eq_false]
      refine ⟨hin, hin, ?_⟩
      rw [hw]
      refine gm_lW10 hgood hL9 hE hp a _ S lk stk hta hl hnd hJ (fun m q hm => (sub' m q hm).2) (fun S' lk' stk' o4' o5' hJ' m1 m2 => gb_lookWithin_274 (hq S' lk' pr stk' f hJ' m1 (fun _ h => h) ⟨fun m' q' hm' => ?_, (fun r h => by cases h), (fun _ _ h => by cases h)⟩))
      simp only [gn_sub] at hm'
      rw [if_neg (by omega)] at hm'
      exact ⟨(sub' m' q' hm').1, m2 m' q' hm'⟩
  | sepBy a s c b => cases ht.1
  | sepBy1 a s c b => cases ht.1
  | _ => exact False.elim ht
end GML
