/-! The model's ends: roundFrom, sequenceFrom, choiceFrom, endNow. -/
def gp_e : Option (Option Nat) → Int32
  | none => -2
  | some none => -1
  | some (some q) => nI q
theorem gp_13 {n p : Nat} (hn : n < 160) (hp : p < 13) : (13 : Int32) * nI n + nI p = nI (13 * n + p) ∧ (nI (13 * n + p)).toNatClampNeg = 13 * n + p ∧ vp_in (nI (13 * n + p)) 2600 := by
  refine ⟨?_, nI_clamp (by omega), vp_in_nI (by omega) (by decide)⟩
  rw [show (13 : Int32) * nI n = nI (13 * n) from (Int32.ofNat_mul 13 n).symm, nI_add]
section GMI
variable {S : Nat → Nat → Int32} {d bc bs : Nat} {Q : gx_R → Prop} {L : Nat} {x : Nat → Nat} {tab : Nat → Nat → Option (Option Nat)}
/-- the ends in the model's row are tab -/
def gm_tab (S : Nat → Nat → Int32) (L : Nat) (tab : Nat → Nat → Option (Option Nat)) : Prop := (∀ n p, n < 160 → p ≤ L → S 20 (13 * n + p) = gp_e (tab n p)) ∧ gn_rng L tab ∧ L ≤ 9
theorem gm_rF (ht : gm_tab S L tab) {c : Nat} (hc : c < 160) {o2 : Option Value} : ∀ (f p : Nat), p ≤ L → L < f + p → Q (.inl (some (.int (gp_e (gn_rd tab c f p)))), gm_h S) →
    gx_X gm_P (d + 1) 29 (15, [some (.ref 0), some (.int (nI c)), o2, some (.int (nI p)), some (.int (gp_e (tab c p)))], [], gm_h S, bc, bs) Q := by
  obtain ⟨h1, h2, h9⟩ := ht
  intro f
  induction f with
  | zero => intro p hp hf; omega
  | succ f ih =>
    intro p hp hf hq
    unfold gn_rd at hq
    cases h5 : tab c p with
    | none =>
      rw [h5] at hq
      refine gb_roundFrom_15 ⟨fun _ => ⟨fun h => absurd rfl h, fun _ => gb_roundFrom_53 hq⟩, fun h => absurd h ?_⟩
      have : p = 0 ∨ p = 1 ∨ p = 2 ∨ p = 3 ∨ p = 4 ∨ p = 5 ∨ p = 6 ∨ p = 7 ∨ p = 8 ∨ p = 9 := by omega
      rcases this with rfl | rfl | rfl | rfl | rfl | rfl | rfl | rfl | rfl | rfl <;> decide +kernel
    | some v =>
      rw [h5] at hq
      cases v with
      | none =>
        refine gb_roundFrom_15 ⟨fun _ => ⟨fun _ => gb_roundFrom_53 hq, fun h => absurd h (by decide)⟩, fun h => absurd h ?_⟩
        have : p = 0 ∨ p = 1 ∨ p = 2 ∨ p = 3 ∨ p = 4 ∨ p = 5 ∨ p = 6 ∨ p = 7 ∨ p = 8 ∨ p = 9 := by omega
        rcases this with rfl | rfl | rfl | rfl | rfl | rfl | rfl | rfl | rfl | rfl <;> decide +kernel
      | some q =>
        have hq2 := h2 c p q hp h5
        have hne : ¬ nI q = -2 := fun h => by
          have h0 := nI_pos (n := q) (by omega)
          rw [h] at h0
          exact h0 (by decide)
        refine gb_roundFrom_15 ⟨fun h => ⟨fun _ => gb_roundFrom_53 ?_, fun h => absurd h hne⟩, fun h => ?_⟩
        · have : ¬ p < q := fun h' => h (nI_lt h' (by omega))
          simp only [this, if_false] at hq
          exact hq
        · have hlt : p < q := (nI_ltI (by omega) (by omega)).mp h
          simp only [hlt, if_true] at hq
          obtain ⟨g1, g2, g3⟩ := gp_13 hc (show q < 13 by omega)
          have e : gp_e (some (some q)) = nI q := rfl
          rw [e, g1, g2, h1 c q hc hq2.2]
          exact ⟨g3, ih q hq2.2 (by omega) hq⟩
/-- roundFrom -/
theorem gm_roundFrom (ht : gm_tab S L tab) {c p : Nat} (hc : c < 160) (hp : p ≤ L) {o3 o4 : Option Value} (hq : Q (.inl (some (.int (gp_e (gn_rd tab c (L + 1 - p) p)))), gm_h S)) :
    gx_X gm_P (d + 1) 29 (0, [some (.ref 0), some (.int (nI c)), some (.int (nI p)), o3, o4], [], gm_h S, bc, bs) Q := by
  obtain ⟨h1, h2, h9⟩ := id ht
  obtain ⟨g1, g2, g3⟩ := gp_13 hc (show p < 13 by omega)
  refine gb_roundFrom_0 ?_
  rw [g1, g2, h1 c p hc hp]
  exact ⟨g3, gm_rF ht hc _ p hp (by omega) hq⟩
/-- sequenceFrom: the items -/
theorem gm_sF (ht : gm_tab S L tab) {o1 o2 : Option Value} (t : gt_T) : ∀ (n p : Nat), gm_tr S t true n → gt_isl 10 t = false → p ≤ L → Q (.inl (some (.int (gp_e (gn_sq (gm_nx S) tab t n p)))), gm_h S) →
    gx_X gm_P (d + 1) 30 (10, [some (.ref 0), o1, o2, some (.int (nI p)), some (.int (nI n))], [], gm_h S, bc, bs) Q := by
  obtain ⟨h1, h2, h9⟩ := id ht
  have one : ∀ (n p : Nat), n < 160 → p ≤ L → (∀ q, tab n p = some (some q) → q ≤ L → gx_X gm_P (d + 1) 30 (10, [some (.ref 0), o1, o2, some (.int (nI q)), some (.int (S 10 n))], [], gm_h S, bc, bs) Q) → (tab n p = none → Q (.inl (some (.int (-2))), gm_h S)) → (tab n p = some none → Q (.inl (some (.int (-1))), gm_h S)) → gx_X gm_P (d + 1) 30 (10, [some (.ref 0), o1, o2, some (.int (nI p)), some (.int (nI n))], [], gm_h S, bc, bs) Q := fun n p hn hp K K2 K1 => by
    obtain ⟨g1, g2, g3⟩ := gp_13 hn (show p < 13 by omega)
    have hc : (nI n).toNatClampNeg = n := nI_clamp (by omega)
    refine gb_sequenceFrom_10 ⟨fun h => absurd h (nI_pos (by omega)), fun _ => ?_⟩
    rw [g1, g2, h1 n p hn hp, hc]
    cases h5 : tab n p with
    | none => exact ⟨g3, fun h => absurd (by decide) h, fun _ => K2 h5⟩
    | some v =>
      cases v with
      | none => exact ⟨g3, fun h => absurd (by decide) h, fun _ => K1 h5⟩
      | some q =>
        have hq2 := h2 n p q hp h5
        exact ⟨g3, fun _ => ⟨vp_in_nI (by omega) (by decide), K q h5 hq2.2⟩, fun h => absurd h (nI_pos (by omega))⟩
  have last : ∀ (t : gt_T) (n p : Nat), gm_tr S t true n → gt_isl 9 t = false → gt_isl 10 t = false → p ≤ L → Q (.inl (some (.int (gp_e (tab n p)))), gm_h S) → gx_X gm_P (d + 1) 30 (10, [some (.ref 0), o1, o2, some (.int (nI p)), some (.int (nI n))], [], gm_h S, bc, bs) Q := fun t n p ht h9 h10 hp hq => by
    have hx := gm_nx_none (gn_tr_list ht h9 h10).2
    refine one n p (gm_tr_lt ht) hp (fun q hq1 _ => gb_sequenceFrom_10 ⟨fun _ => ?_, fun h => absurd hx h⟩) (fun h => ?_) (fun h => ?_)
    · rw [hq1] at hq; exact hq
    · rw [h] at hq; exact hq
    · rw [h] at hq; exact hq
  induction t with
  | sepBy a s c b iha ihc =>
    intro n p ht _ hp hq
    have hn := gm_tr_lt ht
    obtain ⟨_, k1, k2, m, k3, k4⟩ := ht
    unfold gn_sq at hq
    refine one n p hn hp (fun q hq1 hqL => ?_) (fun h => ?_) (fun h => ?_)
    · rw [hq1, k3] at hq
      rw [gm_nx_some k3]
      exact ihc m q k4 k2 hqL hq
    · rw [h] at hq; exact hq
    · rw [h] at hq; exact hq
  | sepBy1 a s c b iha ihc => intro n p _ h; cases h
  | _ => exact fun n p ht h10 hp hq => last _ n p ht rfl h10 hp hq
/-- choiceFrom: the sequences -/
theorem gm_cF (ht : gm_tab S L tab) {o1 : Option Value} {p : Nat} (hp : p ≤ L) (t : gt_T) : ∀ (n : Nat) (o4 : Option Value), gm_tr S t true n → gt_isl 9 t = false → Q (.inl (some (.int (gp_e (gn_cs (gm_nx S) tab t n p)))), gm_h S) →
    gx_X gm_P (d + 1) 31 (7, [some (.ref 0), o1, some (.int (nI p)), some (.int (nI n)), o4], [], gm_h S, bc, bs) Q := by
  obtain ⟨h1, h2, h9⟩ := id ht
  have one : ∀ (n : Nat) (o4 : Option Value), n < 160 → (∀ v, tab n p = v → v ≠ some none → Q (.inl (some (.int (gp_e v))), gm_h S)) → (tab n p = some none → ∀ o4, gx_X gm_P (d + 1) 31 (7, [some (.ref 0), o1, some (.int (nI p)), some (.int (S 10 n)), o4], [], gm_h S, bc, bs) Q) → gx_X gm_P (d + 1) 31 (7, [some (.ref 0), o1, some (.int (nI p)), some (.int (nI n)), o4], [], gm_h S, bc, bs) Q := fun n o4 hn K K1 => by
    obtain ⟨g1, g2, g3⟩ := gp_13 hn (show p < 13 by omega)
    have hc : (nI n).toNatClampNeg = n := nI_clamp (by omega)
    refine gb_choiceFrom_7 ⟨fun h => absurd h (nI_pos (by omega)), fun _ => ?_⟩
    rw [g1, g2, h1 n p hn hp, hc]
    cases h5 : tab n p with
    | none => exact ⟨g3, fun h => absurd h (by decide), fun _ => K none h5 (fun h => by cases h)⟩
    | some v =>
      cases v with
      | none => exact ⟨g3, fun _ => ⟨vp_in_nI (by omega) (by decide), K1 h5 _⟩, fun h => absurd rfl h⟩
      | some q =>
        have hq2 := h2 n p q hp h5
        refine ⟨g3, fun h => ?_, fun _ => K _ h5 (fun h => by cases h)⟩
        have h0 := nI_pos (n := q) (by omega)
        have h : nI q = -1 := h
        rw [h] at h0
        exact absurd (by decide) h0
  have last : ∀ (t : gt_T) (n : Nat) (o4 : Option Value), gm_tr S t true n → gt_isl 9 t = false → gt_isl 10 t = false → Q (.inl (some (.int (gp_e (tab n p)))), gm_h S) → gx_X gm_P (d + 1) 31 (7, [some (.ref 0), o1, some (.int (nI p)), some (.int (nI n)), o4], [], gm_h S, bc, bs) Q := fun t n o4 ht h9 h10 hq => by
    have hx := gm_nx_none (gn_tr_list ht h9 h10).2
    refine one n o4 (gm_tr_lt ht) (fun v hv _ => ?_) (fun h o4 => gb_choiceFrom_7 ⟨fun _ => ?_, fun h => absurd hx h⟩)
    · rw [hv] at hq; exact hq
    · rw [h] at hq; exact hq
  induction t with
  | sepBy1 a s c b iha ihc =>
    intro n o4 ht _ hq
    have hn := gm_tr_lt ht
    obtain ⟨_, k1, k2, m, k3, k4⟩ := ht
    unfold gn_cs at hq
    refine one n o4 hn (fun v hv hne => ?_) (fun h o4 => ?_)
    · rw [hv] at hq
      cases v with
      | none => exact hq
      | some w =>
        cases w with
        | none => exact absurd rfl hne
        | some q => exact hq
    · rw [h, k3] at hq
      rw [gm_nx_some k3]
      exact ihc m o4 k4 k2 hq
  | sepBy a s c b iha ihc => intro n o4 _ h; cases h
  | _ => exact fun n o4 ht h9 hq => last _ n o4 ht h9 rfl hq
/-- the text -/
def gm_tx (S : Nat → Nat → Int32) (L : Nat) (x : Nat → Nat) : Prop := S 0 4 = nI L ∧ L ≤ 9 ∧ ∀ p, p < L → S 2 p = nI (x p) ∧ x p ≤ 126
/-- endNow -/
theorem gm_endNow (hg : ∀ r, r < 4 → S 3 r = gp_b (gm_dfn S r)) (htb : gm_tab S L tab) (hx : gm_tx S L x) {t : gt_T} {n p : Nat} (ht : gm_tr S t false n) (hm : ∀ r, gt_nms t r = true → r < 4) (hp : p ≤ L) {o3 o4 : Option Value} (hq : Q (.inl (some (.int (gp_e (gn_now L x (gm_dfn S) (fun n => gp_n (S 8 n)) (gm_nx S) tab t n p)))), gm_h S)) :
    gx_X gm_P (d + 2) 32 (0, [some (.ref 0), some (.int (nI n)), some (.int (nI p)), o3, o4], [], gm_h S, bc, bs) Q := by
  obtain ⟨h1, h2, h9⟩ := id htb
  obtain ⟨x1, _, x2⟩ := hx
  have hn := gm_tr_lt ht
  have hc : (nI n).toNatClampNeg = n := nI_clamp (by omega)
  have hin : vp_in (nI n) 200 := vp_in_nI (by omega) (by decide)
  refine gb_endNow_0 ?_
  rw [hc]
  have wiF : ∀ {a : gt_T} {b : Bool}, gm_tr S a b (gp_n (S 8 n)) → gp_n (S 8 n) < 160 ∧ (13 : Int32) * S 8 n + nI p = nI (13 * gp_n (S 8 n) + p) ∧ (nI (13 * gp_n (S 8 n) + p)).toNatClampNeg = 13 * gp_n (S 8 n) + p ∧ vp_in (nI (13 * gp_n (S 8 n) + p)) 2600 ∧ S 20 (13 * gp_n (S 8 n) + p) = gp_e (tab (gp_n (S 8 n)) p) ∧ S 8 n = nI (gp_n (S 8 n)) := fun h => by
    have k1 := gm_tr_lt h
    obtain ⟨g1, g2, g3⟩ := gp_13 k1 (show p < 13 by omega)
    rw [gp_nI] at g1
    exact ⟨k1, g1, g2, g3, h1 _ p k1 hp, (gp_nI _).symm⟩
  have ne2 : ∀ v : Option Nat, (∀ q, v = some q → q ≤ L) → ¬ gp_e (some v) = -2 := fun v hv h => by
    cases v with
    | none => exact absurd h (by decide)
    | some q =>
      have h0 := nI_pos (n := q) (by have := hv q rfl; omega)
      have h : nI q = -2 := h
      rw [h] at h0
      exact h0 (by decide)
  cases t with
  | cat l hi =>
    obtain ⟨_, _, hk, hw, hmo, hl5, hh5⟩ := ht
    have hk : S 7 n = 0 := gp_lit hk
    have hw : S 8 n = nI (gt_nm l) := gp_of hw
    have hmo : gp_n (S 9 n) = hi ∨ (hi = 255 ∧ gp_n (S 9 n) = 127) := hmo
    simp (decide := true) only [hk, not_false_eq_true, true_implies, false_implies, and_true, true_and, implies_true, not_true_eq_false]
    simp only [gn_now] at hq
    refine ⟨hin, fun h => gb_endNow_55 (gb_endNow_56 ?_), fun h => ?_⟩
    · have hno : ¬ (p < L ∧ gt_nm l ≤ x p ∧ x p ≤ hi) := fun hh => h (by rw [x1]; exact nI_lt hh.1 (by omega))
      rw [if_neg hno] at hq
      exact hq
    · rw [x1] at h
      have hpL : p < L := (nI_ltI (by omega) (by omega)).mp h
      obtain ⟨x3, x4⟩ := x2 p hpL
      have hcp : (nI p).toNatClampNeg = p := nI_clamp (by omega)
      have hinp : vp_in (nI p) 12 := vp_in_nI (by omega) (by decide)
      rw [hcp, x3, hw]
      refine ⟨hinp, hin, fun h => gb_endNow_55 (gb_endNow_56 ?_), fun h => ⟨hinp, hin, fun h' => gb_endNow_55 (gb_endNow_56 ?_), fun h' => gb_endNow_56 ?_⟩⟩
      · have h := (nI_ltI (by omega) (by omega)).mp h
        rw [if_neg (fun hh => by omega)] at hq
        exact hq
      · have hmo2 : gp_n (S 9 n) ≤ 255 := by rcases hmo with h | h <;> omega
        rw [← gp_nI (S 9 n)] at h'
        have h' := (nI_ltI (by omega) (by omega)).mp h'
        rw [if_neg (fun hh => by rcases hmo with h | h <;> omega)] at hq
        exact hq
      · have hmo2 : gp_n (S 9 n) ≤ 255 := by rcases hmo with h | h <;> omega
        have h3 : gt_nm l ≤ x p := Nat.le_of_not_lt (fun z => h (nI_lt z (by omega)))
        have h4 : x p ≤ gp_n (S 9 n) := Nat.le_of_not_lt (fun z => h' (by rw [← gp_nI (S 9 n)]; exact nI_lt z (by omega)))
        rw [if_pos ⟨hpL, h3, by rcases hmo with h | h <;> omega⟩] at hq
        rw [show nI p + 1 = nI (p + 1) from nI_1 p]
        exact hq
  | parser r =>
    have hk : S 7 n = 1 := gp_lit ht.2.2.1
    have hr : gt_nm r < 4 := hm _ (by simp [gt_nms])
    have hw2 : S 8 n = nI (gt_nm r) := gp_of ht.2.2.2
    have hcr : (nI (gt_nm r)).toNatClampNeg = gt_nm r := nI_clamp (by omega)
    have h520 : (520 : Int32) * nI (gt_nm r) + nI p = nI (13 * (40 * gt_nm r) + p) := by
      rw [show (520 : Int32) * nI (gt_nm r) = nI (520 * gt_nm r) from (Int32.ofNat_mul 520 (gt_nm r)).symm, nI_add, show 520 * gt_nm r = 13 * (40 * gt_nm r) by omega]
    obtain ⟨g1, g2, g3⟩ := gp_13 (n := 40 * gt_nm r) (by omega) (show p < 13 by omega)
    simp (decide := true) only [hk, hw2, hcr, h520, g2, not_false_eq_true, true_implies, false_implies, and_true, true_and, implies_true, not_true_eq_false]
    rw [hg _ hr, h1 _ p (by omega) hp]
    simp only [gn_now] at hq
    refine ⟨hin, hin, vp_in_nI hr (by decide), fun h0 => gb_endNow_105 ?_, fun h0 => ⟨hin, g3, gb_endNow_105 ?_⟩⟩
    · rw [(gp_b_0 _).mp h0] at hq
      exact hq
    · cases hd : gm_dfn S (gt_nm r) with
      | true => rw [hd] at hq; exact hq
      | false => rw [hd] at h0; exact absurd rfl h0
  | const r =>
    have hk : S 7 n = 2 := gp_lit ht.2.2
    simp (decide := true) only [hk, not_false_eq_true, true_implies, false_implies, and_true, true_and, implies_true, not_true_eq_false]
    exact ⟨hin, hq⟩
  | unary m a =>
    have hk : S 7 n = 3 := gp_lit ht.2.2.1
    obtain ⟨w1, w2, w3, w4, w5, w6⟩ := wiF ht.2.2.2
    simp (decide := true) only [hk, w2, w3, w5, not_false_eq_true, true_implies, false_implies, and_true, true_and, implies_true, not_true_eq_false]
    exact ⟨hin, hin, w4, fun _ => gb_endNow_179 hq, fun _ => gb_endNow_179 hq⟩
  | node m k a =>
    have hk := ht.2.2.2.1
    have hk3 := ht.2.2.1
    obtain ⟨w1, w2, w3, w4, w5, w6⟩ := wiF ht.2.2.2.2
    simp only [gn_now] at hq
    have : k = 0 ∨ k = 1 ∨ k = 2 := by omega
    rcases this with rfl | rfl | rfl
    · have hk : S 7 n = 4 := gp_lit hk
      simp (decide := true) only [hk, not_false_eq_true, true_implies, false_implies, and_true, true_and, implies_true, not_true_eq_false]
      refine ⟨hin, hin, ?_⟩
      rw [w6]
      exact gm_roundFrom htb w1 hp (gb_endNow_148 hq)
    · have hk : S 7 n = 5 := gp_lit hk
      simp (decide := true) only [hk, w2, w3, w5, not_false_eq_true, true_implies, false_implies, and_true, true_and, implies_true, not_true_eq_false]
      refine ⟨hin, hin, w4, fun h => ?_, fun h => ?_⟩
      · cases h5 : tab (gp_n (S 8 n)) p with
        | none => rw [h5] at hq; exact gb_endNow_179 hq
        | some v =>
          rw [h5] at h
          exact absurd h (ne2 v (fun q hq' => by subst hq'; exact (h2 _ p q hp h5).2))
      · cases h5 : tab (gp_n (S 8 n)) p with
        | none => rw [h5] at h; exact absurd rfl h
        | some v =>
          rw [h5] at hq
          cases v with
          | none => exact ⟨fun h => absurd (by decide) h, fun _ => gb_endNow_208 hq⟩
          | some q =>
            have hq2 := h2 _ p q hp h5
            refine ⟨fun _ => ⟨hin, ?_⟩, fun h => absurd h (nI_pos (by omega))⟩
            rw [w6]
            exact gm_roundFrom htb w1 hq2.2 (gb_endNow_208 hq)
    · have hk : S 7 n = 6 := gp_lit hk
      simp (decide := true) only [hk, w2, w3, w5, not_false_eq_true, true_implies, false_implies, and_true, true_and, implies_true, not_true_eq_false]
      refine ⟨hin, hin, w4, fun h => ?_, fun h => ?_⟩
      · cases h5 : tab (gp_n (S 8 n)) p with
        | none => rw [h5] at hq; exact gb_endNow_179 hq
        | some v =>
          rw [h5] at h
          exact absurd h (ne2 v (fun q hq' => by subst hq'; exact (h2 _ p q hp h5).2))
      · cases h5 : tab (gp_n (S 8 n)) p with
        | none => rw [h5] at h; exact absurd rfl h
        | some v =>
          rw [h5] at hq
          cases v with
          | none => exact ⟨fun h => absurd (by decide) h, fun _ => gb_endNow_226 hq⟩
          | some q =>
            have hq2 := h2 _ p q hp h5
            exact ⟨fun _ => gb_endNow_226 hq, fun h => absurd h (nI_pos (by omega))⟩
  | trailingNode m k l a =>
    have hk := ht.2.2.1
    obtain ⟨w1, w2, w3, w4, w5, w6⟩ := wiF ht.2.2.2
    simp only [gn_now] at hq
    by_cases k1 : k = 1
    · rw [if_pos k1] at hk
      have hk : S 7 n = 7 := gp_lit hk
      simp (decide := true) only [hk, w2, w3, w5, not_false_eq_true, true_implies, false_implies, and_true, true_and, implies_true, not_true_eq_false]
      refine ⟨hin, hin, w4, fun h => ?_, fun h => ?_⟩
      · cases h5 : tab (gp_n (S 8 n)) p with
        | none => rw [h5] at hq; exact gb_endNow_179 hq
        | some v =>
          rw [h5] at h
          exact absurd h (ne2 v (fun q hq' => by subst hq'; exact (h2 _ p q hp h5).2))
      · cases h5 : tab (gp_n (S 8 n)) p with
        | none => rw [h5] at h; exact absurd rfl h
        | some v =>
          rw [h5] at hq
          cases v with
          | none =>
            refine ⟨fun _ => gb_endNow_237 ⟨fun h => absurd rfl h, fun _ => gb_endNow_248 ⟨fun _ => gb_endNow_256 ?_, fun h => absurd h (by decide)⟩⟩, fun h => absurd (by decide) h⟩
            simpa [k1, gp_e] using hq
          | some q =>
            have hq2 := h2 _ p q hp h5
            refine ⟨fun h => absurd h (nI_pos (by omega)), fun _ => gb_endNow_237 ⟨fun h => absurd rfl h, fun _ => gb_endNow_248 ⟨fun h => absurd rfl h, fun _ => gb_endNow_256 ?_⟩⟩⟩
            simpa [k1, gp_e] using hq
    · rw [if_neg k1] at hk
      have hk : S 7 n = 8 := gp_lit hk
      simp (decide := true) only [hk, w2, w3, w5, not_false_eq_true, true_implies, false_implies, and_true, true_and, implies_true, not_true_eq_false]
      refine ⟨hin, hin, w4, fun h => ?_, fun h => ?_⟩
      · cases h5 : tab (gp_n (S 8 n)) p with
        | none => rw [h5] at hq; exact gb_endNow_179 hq
        | some v =>
          rw [h5] at h
          exact absurd h (ne2 v (fun q hq' => by subst hq'; exact (h2 _ p q hp h5).2))
      · cases h5 : tab (gp_n (S 8 n)) p with
        | none => rw [h5] at h; exact absurd rfl h
        | some v =>
          rw [h5] at hq
          cases v with
          | none =>
            refine ⟨fun _ => gb_endNow_237 ⟨fun _ => gb_endNow_248 ⟨fun h => absurd rfl h, fun _ => gb_endNow_256 ?_⟩, fun h => absurd h (by decide)⟩, fun h => absurd (by decide) h⟩
            simpa [k1, gp_e] using hq
          | some q =>
            have hq2 := h2 _ p q hp h5
            refine ⟨fun h => absurd h (nI_pos (by omega)), fun _ => gb_endNow_237 ⟨fun _ => gb_endNow_248 ⟨fun _ => gb_endNow_256 ?_, fun h => absurd h (by decide)⟩, fun h => absurd h (by decide)⟩⟩
            simpa [k1, gp_e] using hq
  | nodeWithAntiquot s k a =>
    obtain ⟨_, _, hk, hta, hl⟩ := ht
    obtain ⟨w1, w2, w3, w4, w5, w6⟩ := wiF hta
    simp only [gn_now] at hq
    rcases hl with ⟨h9', hl⟩ | ⟨h9', hl⟩
    · rw [h9'] at hk
      rw [if_pos h9'] at hq
      have hk : S 7 n = 9 := gp_lit hk
      simp (decide := true) only [hk, not_false_eq_true, true_implies, false_implies, and_true, true_and, implies_true, not_true_eq_false]
      refine ⟨hin, gb_sequenceFrom_0 ⟨hin, ?_⟩⟩
      rw [hc, w6]
      exact gm_sF htb a _ p hta hl hp (gb_endNow_118 hq)
    · rw [h9'] at hk
      rw [if_neg (by omega)] at hq
      have hk : S 7 n = 10 := gp_lit hk
      simp (decide := true) only [hk, not_false_eq_true, true_implies, false_implies, and_true, true_and, implies_true, not_true_eq_false]
      refine ⟨hin, gb_choiceFrom_0 ⟨hin, ?_⟩⟩
      rw [hc, w6]
      exact gm_cF htb hp a _ _ hta hl (gb_endNow_131 hq)
  | sepBy a s c b => cases ht.1
  | sepBy1 a s c b => cases ht.1
  | _ => exact False.elim ht
end GMI
