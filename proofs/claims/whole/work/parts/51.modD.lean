/-! Sets of rules as bits; the model's startsNow, isNode. -/
def gp_m (v : Nat → Bool) : Int32 := nI ((v 0).toNat + 2 * (v 1).toNat + 4 * (v 2).toNat + 8 * (v 3).toNat)
theorem gp_or_aux : ∀ a b c d e f g h : Bool, nI (a.toNat + 2 * b.toNat + 4 * c.toNat + 8 * d.toNat) ||| nI (e.toNat + 2 * f.toNat + 4 * g.toNat + 8 * h.toNat) = nI ((a || e).toNat + 2 * (b || f).toNat + 4 * (c || g).toNat + 8 * (d || h).toNat) := by decide +kernel
theorem gp_m_or (v w : Nat → Bool) : gp_m v ||| gp_m w = gp_m (fun k => v k || w k) := gp_or_aux _ _ _ _ _ _ _ _
theorem gp_bit_aux : ∀ a b c d : Bool, ((nI (a.toNat + 2 * b.toNat + 4 * c.toNat + 8 * d.toNat) >>> (nI 0 &&& 31)) &&& 1 = 1 ↔ a = true) ∧ ((nI (a.toNat + 2 * b.toNat + 4 * c.toNat + 8 * d.toNat) >>> (nI 1 &&& 31)) &&& 1 = 1 ↔ b = true) ∧ ((nI (a.toNat + 2 * b.toNat + 4 * c.toNat + 8 * d.toNat) >>> (nI 2 &&& 31)) &&& 1 = 1 ↔ c = true) ∧ ((nI (a.toNat + 2 * b.toNat + 4 * c.toNat + 8 * d.toNat) >>> (nI 3 &&& 31)) &&& 1 = 1 ↔ d = true) := by decide +kernel
theorem gp_m_bit (v : Nat → Bool) {r : Nat} (hr : r < 4) : ((gp_m v >>> (nI r &&& 31)) &&& 1 = 1) ↔ v r = true := by
  have h := gp_bit_aux (v 0) (v 1) (v 2) (v 3)
  have : r = 0 ∨ r = 1 ∨ r = 2 ∨ r = 3 := by omega
  rcases this with rfl | rfl | rfl | rfl
  · exact h.1
  · exact h.2.1
  · exact h.2.2.1
  · exact h.2.2.2
theorem gp_m_one {r : Nat} (hr : r < 4) : (1 : Int32) <<< (nI r &&& 31) = gp_m (fun k => k == r) := by
  have : r = 0 ∨ r = 1 ∨ r = 2 ∨ r = 3 := by omega
  rcases this with rfl | rfl | rfl | rfl <;> decide +kernel
theorem gp_m_zero : gp_m (fun _ => false) = 0 := by decide +kernel
theorem gp_inj_aux : ∀ a b c d e f g h : Bool, nI (a.toNat + 2 * b.toNat + 4 * c.toNat + 8 * d.toNat) = nI (e.toNat + 2 * f.toNat + 4 * g.toNat + 8 * h.toNat) → a = e ∧ b = f ∧ c = g ∧ d = h := by decide +kernel
theorem gp_m_inj {v w : Nat → Bool} (h : gp_m v = gp_m w) {k : Nat} (hk : k < 4) : v k = w k := by
  have h1 := gp_inj_aux _ _ _ _ _ _ _ _ h
  have : k = 0 ∨ k = 1 ∨ k = 2 ∨ k = 3 := by omega
  rcases this with rfl | rfl | rfl | rfl
  · exact h1.1
  · exact h1.2.1
  · exact h1.2.2.1
  · exact h1.2.2.2
theorem gp_m_congr {v w : Nat → Bool} (h : ∀ k, k < 4 → v k = w k) : gp_m v = gp_m w := by
  unfold gp_m
  rw [h 0 (by omega), h 1 (by omega), h 2 (by omega), h 3 (by omega)]
section GMD
variable {d bc bs : Nat} {Q : gx_R → Prop} {S : Nat → Nat → Int32}
-- startsNow: the items of a sequence
theorem gm_sN9 {em : Nat → Bool} {st : Nat → Nat → Bool} (hb : ∀ n, n < 160 → S 12 n = gp_b (em n)) (hs : ∀ n, n < 160 → S 13 n = gp_m (st n)) {o1 : Option Value} (t : gt_T) : ∀ (n : Nat) (acc : Nat → Bool), gm_tr S t true n → gt_isl 10 t = false → Q (.inl (some (.int (gp_m (fun r => acc r || gn_sall em st (gm_nx S) r t n)))), gm_h S) →
    gx_X gm_P (d + 1) 24 (63, [some (.ref 0), o1, some (.int 9), some (.int (gp_m acc)), some (.int 1), some (.int (nI n))], [], gm_h S, bc, bs) Q := by
  have one : ∀ (n : Nat) (acc : Nat → Bool), n < 160 → gx_X gm_P (d + 1) 24 (63, [some (.ref 0), o1, some (.int 9), some (.int (gp_m (fun r => acc r || st n r))), some (.int (gp_b (em n))), some (.int (S 10 n))], [], gm_h S, bc, bs) Q → gx_X gm_P (d + 1) 24 (63, [some (.ref 0), o1, some (.int 9), some (.int (gp_m acc)), some (.int 1), some (.int (nI n))], [], gm_h S, bc, bs) Q := fun n acc hn K => by
    have hc : (nI n).toNatClampNeg = n := nI_clamp (by omega)
    have h0 : ¬ nI n < 0 := nI_pos (by omega)
    have hin : vp_in (nI n) 200 := vp_in_nI (by omega) (by decide)
    refine gb_startsNow_63 ⟨fun h => absurd h h0, fun _ => ⟨fun h => absurd h (by decide), fun _ => ⟨hin, fun h => absurd h (by decide), fun _ => ⟨hin, fun h => gb_startsNow_104 ⟨hin, ?_⟩, fun h => gb_startsNow_99 (gb_startsNow_104 ⟨hin, ?_⟩)⟩⟩⟩⟩
    · rw [hc] at h ⊢
      rw [hs n hn, gp_m_or]
      rw [hb n hn] at h
      rw [(gp_b_0 _).mp h] at K
      exact K
    · rw [hc] at h ⊢
      rw [hs n hn, gp_m_or]
      rw [hb n hn] at h
      cases e : em n with
      | false => exact absurd ((gp_b_0 _).mpr e) h
      | true => rw [e] at K; exact K
  have fin : ∀ (acc : Nat → Bool) (a4 a5 : Int32), (a5 < 0 ∨ a4 = 0) → Q (.inl (some (.int (gp_m acc))), gm_h S) → gx_X gm_P (d + 1) 24 (63, [some (.ref 0), o1, some (.int 9), some (.int (gp_m acc)), some (.int a4), some (.int a5)], [], gm_h S, bc, bs) Q := fun acc a4 a5 h hq => by
    refine gb_startsNow_63 ⟨fun _ => gb_startsNow_118 hq, fun h1 => ⟨fun _ => gb_startsNow_118 hq, fun h2 => ?_⟩⟩
    rcases h with h | h
    · exact absurd h h1
    · exact absurd h h2
  induction t with
  | sepBy a s c b iha ihc =>
    intro n acc ht _ hq
    have hn := gm_tr_lt ht
    obtain ⟨_, h1, h2, m, h3, h4⟩ := ht
    refine one n acc hn ?_
    unfold gn_sall at hq
    rw [h3] at hq
    cases he : em n with
    | false =>
      rw [he] at hq
      refine fin _ _ _ (.inr rfl) ?_
      simpa using hq
    | true =>
      rw [he] at hq
      rw [gm_nx_some h3]
      refine ihc m _ h4 h2 ?_
      simpa [Bool.or_assoc] using hq
  | sepBy1 a s c b iha ihc => intro n acc _ h; cases h
  | _ =>
    intro n acc ht h10 hq
    have hx := gm_nx_none (gn_tr_list ht rfl h10).2
    exact one n acc (gm_tr_lt ht) (fin _ _ _ (.inl hx) hq)
theorem gm_sN10 {st : Nat → Nat → Bool} (hs : ∀ n, n < 160 → S 13 n = gp_m (st n)) {o1 : Option Value} (t : gt_T) : ∀ (n : Nat) (acc : Nat → Bool), gm_tr S t true n → gt_isl 9 t = false → Q (.inl (some (.int (gp_m (fun r => acc r || gn_sany st (gm_nx S) r t n)))), gm_h S) →
    gx_X gm_P (d + 1) 24 (63, [some (.ref 0), o1, some (.int 10), some (.int (gp_m acc)), some (.int 1), some (.int (nI n))], [], gm_h S, bc, bs) Q := by
  have one : ∀ (n : Nat) (acc : Nat → Bool), n < 160 → gx_X gm_P (d + 1) 24 (63, [some (.ref 0), o1, some (.int 10), some (.int (gp_m (fun r => acc r || st n r))), some (.int 1), some (.int (S 10 n))], [], gm_h S, bc, bs) Q → gx_X gm_P (d + 1) 24 (63, [some (.ref 0), o1, some (.int 10), some (.int (gp_m acc)), some (.int 1), some (.int (nI n))], [], gm_h S, bc, bs) Q := fun n acc hn K => by
    have hc : (nI n).toNatClampNeg = n := nI_clamp (by omega)
    have h0 : ¬ nI n < 0 := nI_pos (by omega)
    have hin : vp_in (nI n) 200 := vp_in_nI (by omega) (by decide)
    refine gb_startsNow_63 ⟨fun h => absurd h h0, fun _ => ⟨fun h => absurd h (by decide), fun _ => ⟨hin, fun _ => gb_startsNow_99 (gb_startsNow_104 ⟨hin, ?_⟩), fun h => absurd rfl h⟩⟩⟩
    rw [hc, hs n hn, gp_m_or]
    exact K
  induction t with
  | sepBy1 a s c b iha ihc =>
    intro n acc ht _ hq
    have hn := gm_tr_lt ht
    obtain ⟨_, h1, h2, m, h3, h4⟩ := ht
    refine one n acc hn ?_
    unfold gn_sany at hq
    rw [h3] at hq
    rw [gm_nx_some h3]
    refine ihc m _ h4 h2 ?_
    simpa [Bool.or_assoc] using hq
  | sepBy a s c b iha ihc => intro n acc _ h; cases h
  | _ =>
    intro n acc ht h9 hq
    have hx := gm_nx_none (gn_tr_list ht h9 rfl).2
    exact one n acc (gm_tr_lt ht) (gb_startsNow_63 ⟨fun _ => gb_startsNow_118 hq, fun h => absurd hx h⟩)
/-- startsNow -/
theorem gm_startsNow {em : Nat → Bool} {st : Nat → Nat → Bool} (hb : ∀ n, n < 160 → S 12 n = gp_b (em n)) (hs : ∀ n, n < 160 → S 13 n = gp_m (st n)) {t : gt_T} {n : Nat} (ht : gm_tr S t false n) (hm : ∀ r, gt_nms t r = true → r < 4) {o2 o3 o4 o5 : Option Value} (hq : Q (.inl (some (.int (gp_m (fun r => gn_stN (fun n => gp_n (S 8 n)) (gm_nx S) em st r t n)))), gm_h S)) :
    gx_X gm_P (d + 1) 24 (0, [some (.ref 0), some (.int (nI n)), o2, o3, o4, o5], [], gm_h S, bc, bs) Q := by
  have hn := gm_tr_lt ht
  have hc : (nI n).toNatClampNeg = n := nI_clamp (by omega)
  have hin : vp_in (nI n) 200 := vp_in_nI (by omega) (by decide)
  refine gb_startsNow_0 ?_
  rw [hc]
  have wiF : ∀ {a : gt_T} {b : Bool}, gm_tr S a b (gp_n (S 8 n)) → gp_n (S 8 n) < 160 ∧ (S 8 n).toNatClampNeg = gp_n (S 8 n) ∧ vp_in (S 8 n) 200 := fun h => by
    have h1 := gm_tr_lt h
    have h2 : (S 8 n).toNatClampNeg = gp_n (S 8 n) := gp_cl (by omega)
    refine ⟨h1, h2, ?_⟩
    have h3 := vp_in_nI (n := gp_n (S 8 n)) (N := 200) (by omega) (by decide)
    rw [gp_nI] at h3
    exact h3
  have hz : Q (.inl (some (.int (gp_m (fun _ => false)))), gm_h S) → Q (.inl (some (.int 0)), gm_h S) := fun h => by rw [gp_m_zero] at h; exact h
  cases t with
  | cat l hi =>
    have hk : S 7 n = 0 := gp_lit ht.2.2.1
    simp (decide := true) only [hk, not_false_eq_true, true_implies, false_implies, and_true, true_and, implies_true, not_true_eq_false]
    exact ⟨hin, gb_startsNow_16 (hz hq)⟩
  | parser r =>
    have hk : S 7 n = 1 := gp_lit ht.2.2.1
    have hw : gp_n (S 8 n) = gt_nm r := ht.2.2.2
    have hr : gt_nm r < 4 := hm _ (by simp [gt_nms])
    have hw2 : S 8 n = nI (gt_nm r) := gp_of hw
    simp (decide := true) only [hk, hw2, not_false_eq_true, true_implies, false_implies, and_true, true_and, implies_true, not_true_eq_false]
    rw [gp_m_one hr]
    exact ⟨hin, hin, hq⟩
  | const r =>
    have hk : S 7 n = 2 := gp_lit ht.2.2
    simp (decide := true) only [hk, not_false_eq_true, true_implies, false_implies, and_true, true_and, implies_true, not_true_eq_false]
    exact ⟨hin, gb_startsNow_16 (hz hq)⟩
  | unary m a =>
    have hk : S 7 n = 3 := gp_lit ht.2.2.1
    obtain ⟨w1, w2, w3⟩ := wiF ht.2.2.2
    simp (decide := true) only [hk, not_false_eq_true, true_implies, false_implies, and_true, true_and, implies_true, not_true_eq_false]
    rw [w2, hs _ w1]
    exact ⟨hin, hin, w3, hq⟩
  | node m k a =>
    have hk := ht.2.2.2.1
    have hk3 := ht.2.2.1
    obtain ⟨w1, w2, w3⟩ := wiF ht.2.2.2.2
    have : k = 0 ∨ k = 1 ∨ k = 2 := by omega
    rcases this with rfl | rfl | rfl
    · have hk : S 7 n = 4 := gp_lit hk
      simp (decide := true) only [hk, not_false_eq_true, true_implies, false_implies, and_true, true_and, implies_true, not_true_eq_false]
      rw [w2, hs _ w1]
      exact ⟨hin, hin, w3, hq⟩
    · have hk : S 7 n = 5 := gp_lit hk
      simp (decide := true) only [hk, not_false_eq_true, true_implies, false_implies, and_true, true_and, implies_true, not_true_eq_false]
      rw [w2, hs _ w1]
      exact ⟨hin, hin, w3, hq⟩
    · have hk : S 7 n = 6 := gp_lit hk
      simp (decide := true) only [hk, not_false_eq_true, true_implies, false_implies, and_true, true_and, implies_true, not_true_eq_false]
      rw [w2, hs _ w1]
      exact ⟨hin, hin, w3, hq⟩
  | trailingNode m k l a =>
    have hk := ht.2.2.1
    obtain ⟨w1, w2, w3⟩ := wiF ht.2.2.2
    by_cases k1 : k = 1
    · rw [if_pos k1] at hk
      have hk : S 7 n = 7 := gp_lit hk
      simp (decide := true) only [hk, not_false_eq_true, true_implies, false_implies, and_true, true_and, implies_true, not_true_eq_false]
      rw [w2, hs _ w1]
      exact ⟨hin, hin, w3, hq⟩
    · rw [if_neg k1] at hk
      have hk : S 7 n = 8 := gp_lit hk
      simp (decide := true) only [hk, not_false_eq_true, true_implies, false_implies, and_true, true_and, implies_true, not_true_eq_false]
      rw [w2, hs _ w1]
      exact ⟨hin, hin, w3, hq⟩
  | nodeWithAntiquot s k a =>
    obtain ⟨_, _, hk, hta, hl⟩ := ht
    have hw : S 8 n = nI (gp_n (S 8 n)) := (gp_nI _).symm
    simp only [gn_stN] at hq
    have h0 : (0 : Int32) = gp_m (fun _ => false) := gp_m_zero.symm
    rcases hl with ⟨h9, hl⟩ | ⟨h9, hl⟩
    · rw [h9] at hk
      simp only [if_pos h9] at hq
      have hk : S 7 n = 9 := gp_lit hk
      simp (decide := true) only [hk, not_false_eq_true, true_implies, false_implies, and_true, true_and, implies_true, not_true_eq_false]
      refine ⟨hin, hin, ?_⟩
      rw [hw, h0]
      exact gm_sN9 hb hs a _ _ hta hl (by simpa using hq)
    · rw [h9] at hk
      simp only [if_neg (show ¬ gt_nm k = 9 by omega)] at hq
      have hk : S 7 n = 10 := gp_lit hk
      simp (decide := true) only [hk, not_false_eq_true, true_implies, false_implies, and_true, true_and, implies_true, not_true_eq_false]
      refine ⟨hin, hin, ?_⟩
      rw [hw, h0]
      exact gm_sN10 hs a _ _ hta hl (by simpa using hq)
  | sepBy a s c b => cases ht.1
  | sepBy1 a s c b => cases ht.1
  | _ => exact False.elim ht
theorem gp_div {n : Nat} (h : n < 160) : nI n / 40 = nI (n / 40) ∧ nI n - nI n / 40 * 40 = nI (n % 40) := by
  have aux : ∀ n : Fin 160, nI n.val / 40 = nI (n.val / 40) ∧ nI n.val - nI n.val / 40 * 40 = nI (n.val % 40) := by decide +kernel
  exact aux ⟨n, h⟩
/-- isNode -/
theorem gm_isNode (hm : ∀ r, r < 4 → gp_n (S 6 r) ≤ 40) (hd : ∀ r, r < 4 → S 3 r = gp_b (gm_dfn S r)) {n : Nat} (hn : n < 200) (hq : ∀ b : Bool, (b = true ↔ gm_D S n) → Q (.inl (some (.int (gp_b b))), gm_h S)) : gx_X gm_P (d + 1) 22 (0, [some (.ref 0), some (.int (nI n))], [], gm_h S, bc, bs) Q := by
  have no : ¬ gm_D S n → gx_X gm_P (d + 1) 22 (39, [some (.ref 0), some (.int (nI n))], [], gm_h S, bc, bs) Q := fun h => gb_isNode_39 (gb_isNode_40 ⟨rfl, hq false ⟨(fun h' => by cases h'), fun h' => absurd h' h⟩⟩)
  refine gb_isNode_0 ⟨fun h => no (fun hD => h (nI_lt (b := 160) hD.1 (by decide))), fun h => ?_⟩
  have h160 : n < 160 := (nI_ltI (b := 160) (by omega) (by decide)).mp h
  obtain ⟨e1, e2⟩ := gp_div h160
  have h4 : n / 40 < 4 := by omega
  have hc : (nI (n / 40)).toNatClampNeg = n / 40 := nI_clamp (by omega)
  rw [e1, hc]
  have e3 : nI n - nI (n / 40) * 40 = nI (n % 40) := by rw [← e2, e1]
  rw [e3]
  have h6 : S 6 (n / 40) = nI (gp_n (S 6 (n / 40))) := (gp_nI _).symm
  have h640 := hm _ h4
  refine ⟨vp_in_nI h4 (by decide), fun h0 => no (fun hD => ?_), fun h0 => ⟨vp_in_nI (by omega) (by decide), fun h1 => no (fun hD => ?_), fun h1 => gb_isNode_40 ⟨rfl, hq true ⟨fun _ => ⟨h160, ?_, ?_⟩, fun _ => rfl⟩⟩⟩⟩
  · rw [hd _ h4] at h0
    have := (gp_b_0 _).mp h0
    rw [hD.2.1] at this
    cases this
  · rw [h6] at h1
    exact h1 (nI_lt hD.2.2 (by omega))
  · rw [hd _ h4] at h0
    cases h : gm_dfn S (n / 40) with
    | true => rfl
    | false => exact absurd ((gp_b_0 _).mpr h) h0
  · rw [h6] at h1
    exact (nI_ltI (by omega) (by omega)).mp h1
end GMD
