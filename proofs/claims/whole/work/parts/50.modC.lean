/-! Numbers of the model's arrays as natural numbers; nodes; empty-able nodes and what nodes start with. -/
def gp_n (x : Int32) : Nat := x.toBitVec.toNat
theorem gp_nI (x : Int32) : nI (gp_n x) = x := by
  unfold nI gp_n
  apply Int32.toBitVec_inj.mp
  simp [Int32.ofNat]
theorem gp_In {k : Nat} (h : k < 2 ^ 32) : gp_n (nI k) = k := by
  have e : (nI k).toBitVec = BitVec.ofNat 32 k := rfl
  unfold gp_n
  rw [e, BitVec.toNat_ofNat]
  omega
theorem gp_of {x : Int32} {k : Nat} (h : gp_n x = k) : x = nI k := by rw [← h, gp_nI]
theorem gp_cl {x : Int32} (h : gp_n x < 2 ^ 31) : x.toNatClampNeg = gp_n x := by
  have h1 := gp_nI x
  rw [← h1, nI_clamp h, h1]
def gp_b (b : Bool) : Int32 := if b then 1 else 0
theorem gp_b_nar (b : Bool) : narrow .boolean (.int (gp_b b)) = .int (gp_b b) := by cases b <;> rfl
theorem gp_b_0 (b : Bool) : gp_b b = 0 ↔ b = false := by cases b <;> decide
section GMC
variable {d bc bs : Nat} {Q : gx_R → Prop} {S : Nat → Nat → Int32}
abbrev gm_nx (S : Nat → Nat → Int32) (n : Nat) : Option Nat := if S 10 n < 0 then none else some (gp_n (S 10 n))
abbrev gm_dfn (S : Nat → Nat → Int32) (r : Nat) : Bool := decide (r < 4) && (S 3 r != 0)
/-- n is a node of a rule -/
def gm_D (S : Nat → Nat → Int32) (n : Nat) : Prop := n < 160 ∧ gm_dfn S (n / 40) = true ∧ n % 40 < gp_n (S 6 (n / 40))
/-- node n is the tree t -/
abbrev gm_tr (S : Nat → Nat → Int32) (t : gt_T) (b : Bool) (n : Nat) : Prop := gn_tr (gm_D S) (fun n => gp_n (S 7 n)) (fun n => gp_n (S 8 n)) (fun n => gp_n (S 9 n)) (gm_nx S) t b n
theorem gn_tr_D {D : Nat → Prop} {kd wi mo : Nat → Nat} {nx : Nat → Option Nat} (t : gt_T) : ∀ (b : Bool) (n : Nat), gn_tr D kd wi mo nx t b n → D n := by
  induction t with
  | sepBy a s c b' iha ihc => exact fun b n h => iha false n h.2.1
  | sepBy1 a s c b' iha ihc => exact fun b n h => iha false n h.2.1
  | cat l hi => exact fun b n h => h.1
  | parser r => exact fun b n h => h.1
  | const r => exact fun b n h => h.1
  | unary m a => exact fun b n h => h.1
  | node m k a => exact fun b n h => h.1
  | trailingNode m k l a => exact fun b n h => h.1
  | nodeWithAntiquot s k a => exact fun b n h => h.1
  | _ => exact fun b n h => False.elim h
theorem gm_tr_lt {t : gt_T} {b : Bool} {n : Nat} (h : gm_tr S t b n) : n < 160 := (gn_tr_D t b n h).1
theorem gm_nx_none {n : Nat} (h : gm_nx S n = none) : S 10 n < 0 := by
  unfold gm_nx at h
  split at h
  · assumption
  · cases h
theorem gm_nx_some {n m : Nat} (h : gm_nx S n = some m) : S 10 n = nI m := by
  unfold gm_nx at h
  split at h
  · cases h
  · exact gp_of (Option.some.inj h)
-- emptyNow: a sequence's items
theorem gm_eN93s {em : Nat → Bool} (hb : ∀ n, n < 160 → S 12 n = gp_b (em n)) {n : Nat} (hn : n < 160) {acc : Bool} {o1 o2 : Option Value} (K : gx_X gm_P (d + 1) 23 (93, [some (.ref 0), o1, o2, some (.int (gp_b (acc && em n))), some (.int (S 10 n))], [], gm_h S, bc, bs) Q) :
    gx_X gm_P (d + 1) 23 (93, [some (.ref 0), o1, o2, some (.int (gp_b acc)), some (.int (nI n))], [], gm_h S, bc, bs) Q := by
  have hc : (nI n).toNatClampNeg = n := nI_clamp (by omega)
  have h0 : ¬ nI n < 0 := nI_pos (by omega)
  have hin : vp_in (nI n) 200 := vp_in_nI (by omega) (by decide)
  refine gb_emptyNow_93 ⟨fun h => absurd h h0, fun _ => ⟨fun h => gb_emptyNow_116 (gb_emptyNow_117 ⟨hin, ?_⟩), fun h => ⟨hin, fun h1 => gb_emptyNow_116 (gb_emptyNow_117 ⟨hin, ?_⟩), fun h1 => gb_emptyNow_117 ⟨hin, ?_⟩⟩⟩⟩
  · have e := (gp_b_0 _).mp h
    rw [e] at K
    rw [hc]
    exact K
  · rw [hc, hb n hn] at h1
    have e := (gp_b_0 _).mp h1
    rw [e, Bool.and_false] at K
    rw [hc]
    exact K
  · rw [hc, hb n hn] at h1
    have e : em n = true := by
      cases h2 : em n with
      | true => rfl
      | false => exact absurd ((gp_b_0 _).mpr h2) h1
    have e2 : acc = true := by
      cases h2 : acc with
      | true => rfl
      | false => exact absurd ((gp_b_0 _).mpr h2) h
    rw [e, e2] at K
    rw [hc]
    exact K
theorem gm_eN93 {em : Nat → Bool} (hb : ∀ n, n < 160 → S 12 n = gp_b (em n)) {o1 o2 : Option Value} (t : gt_T) : ∀ (n : Nat) (acc : Bool), gm_tr S t true n → gt_isl 10 t = false → Q (.inl (some (.int (gp_b (acc && gn_eall em (gm_nx S) t n)))), gm_h S) →
    gx_X gm_P (d + 1) 23 (93, [some (.ref 0), o1, o2, some (.int (gp_b acc)), some (.int (nI n))], [], gm_h S, bc, bs) Q := by
  have last : ∀ (t : gt_T) (n : Nat) (acc : Bool), gm_tr S t true n → gt_isl 9 t = false → gt_isl 10 t = false → Q (.inl (some (.int (gp_b (acc && em n)))), gm_h S) → gx_X gm_P (d + 1) 23 (93, [some (.ref 0), o1, o2, some (.int (gp_b acc)), some (.int (nI n))], [], gm_h S, bc, bs) Q := fun t n acc ht h9 h10 hq => by
    have hx := gm_nx_none (gn_tr_list ht h9 h10).2
    exact gm_eN93s hb (gm_tr_lt ht) (gb_emptyNow_93 ⟨fun _ => ⟨gp_b_nar _, hq⟩, fun h => absurd hx h⟩)
  induction t with
  | sepBy a s c b iha ihc =>
    intro n acc ht _ hq
    have hn := gm_tr_lt ht
    obtain ⟨_, h1, h2, m, h3, h4⟩ := ht
    refine gm_eN93s hb hn ?_
    rw [gm_nx_some h3]
    refine ihc m _ h4 h2 ?_
    unfold gn_eall at hq
    rw [h3] at hq
    rw [Bool.and_assoc]
    exact hq
  | sepBy1 a s c b iha ihc => intro n acc _ h; cases h
  | _ => exact fun n acc ht h10 hq => last _ n acc ht rfl h10 hq
-- a choice's sequences
theorem gm_eN152s {em : Nat → Bool} (hb : ∀ n, n < 160 → S 12 n = gp_b (em n)) {n : Nat} (hn : n < 160) {acc : Bool} {o1 : Option Value} (K : gx_X gm_P (d + 1) 23 (152, [some (.ref 0), o1, some (.int 10), some (.int (gp_b (acc || em n))), some (.int (S 10 n))], [], gm_h S, bc, bs) Q) :
    gx_X gm_P (d + 1) 23 (152, [some (.ref 0), o1, some (.int 10), some (.int (gp_b acc)), some (.int (nI n))], [], gm_h S, bc, bs) Q := by
  have hc : (nI n).toNatClampNeg = n := nI_clamp (by omega)
  have h0 : ¬ nI n < 0 := nI_pos (by omega)
  have hin : vp_in (nI n) 200 := vp_in_nI (by omega) (by decide)
  refine gb_emptyNow_152 ⟨fun h => absurd h h0, fun _ => ⟨fun h => absurd rfl h, fun _ => ⟨fun h => gb_emptyNow_177 (gb_emptyNow_182 ⟨hin, ?_⟩), fun h => ⟨hin, fun h1 => gb_emptyNow_182 ⟨hin, ?_⟩, fun h1 => gb_emptyNow_177 (gb_emptyNow_182 ⟨hin, ?_⟩)⟩⟩⟩⟩
  · have e2 : acc = true := by
      cases h2 : acc with
      | true => rfl
      | false => exact absurd ((gp_b_0 _).mpr h2) h
    rw [e2] at K
    rw [hc]
    exact K
  · rw [hc, hb n hn] at h1
    have e := (gp_b_0 _).mp h1
    have e2 := (gp_b_0 _).mp h
    rw [e, e2] at K
    rw [hc]
    exact K
  · rw [hc, hb n hn] at h1
    have e : em n = true := by
      cases h2 : em n with
      | true => rfl
      | false => exact absurd ((gp_b_0 _).mpr h2) h1
    rw [e, Bool.or_true] at K
    rw [hc]
    exact K
theorem gm_eN152 {em : Nat → Bool} (hb : ∀ n, n < 160 → S 12 n = gp_b (em n)) {o1 : Option Value} (t : gt_T) : ∀ (n : Nat) (acc : Bool), gm_tr S t true n → gt_isl 9 t = false → Q (.inl (some (.int (gp_b (acc || gn_eany em (gm_nx S) t n)))), gm_h S) →
    gx_X gm_P (d + 1) 23 (152, [some (.ref 0), o1, some (.int 10), some (.int (gp_b acc)), some (.int (nI n))], [], gm_h S, bc, bs) Q := by
  have last : ∀ (t : gt_T) (n : Nat) (acc : Bool), gm_tr S t true n → gt_isl 9 t = false → gt_isl 10 t = false → Q (.inl (some (.int (gp_b (acc || em n)))), gm_h S) → gx_X gm_P (d + 1) 23 (152, [some (.ref 0), o1, some (.int 10), some (.int (gp_b acc)), some (.int (nI n))], [], gm_h S, bc, bs) Q := fun t n acc ht h9 h10 hq => by
    have hx := gm_nx_none (gn_tr_list ht h9 h10).2
    exact gm_eN152s hb (gm_tr_lt ht) (gb_emptyNow_152 ⟨fun _ => gb_emptyNow_195 ⟨gp_b_nar _, hq⟩, fun h => absurd hx h⟩)
  induction t with
  | sepBy1 a s c b iha ihc =>
    intro n acc ht _ hq
    have hn := gm_tr_lt ht
    obtain ⟨_, h1, h2, m, h3, h4⟩ := ht
    refine gm_eN152s hb hn ?_
    rw [gm_nx_some h3]
    refine ihc m _ h4 h2 ?_
    unfold gn_eany at hq
    rw [h3] at hq
    rw [Bool.or_assoc]
    exact hq
  | sepBy a s c b iha ihc => intro n acc _ h; cases h
  | _ => exact fun n acc ht h9 hq => last _ n acc ht h9 rfl hq
theorem gm_D_lt {n : Nat} (h : gm_D S n) : n < 160 := h.1
theorem gp_lit {x : Int32} {k : Nat} (h : gp_n x = k) : x = Int32.ofNat k := gp_of h
/-- emptyNow -/
theorem gm_emptyNow {em : Nat → Bool} (hb : ∀ n, n < 160 → S 12 n = gp_b (em n)) (hd : ∀ r, r < 4 → S 3 r = gp_b (gm_dfn S r)) {t : gt_T} {n : Nat} (ht : gm_tr S t false n) (hm : ∀ r, gt_nms t r = true → r < 4) {o2 o3 o4 : Option Value} (hq : Q (.inl (some (.int (gp_b (gn_emN (gm_dfn S) (fun n => gp_n (S 8 n)) (gm_nx S) em t n)))), gm_h S)) :
    gx_X gm_P (d + 1) 23 (0, [some (.ref 0), some (.int (nI n)), o2, o3, o4], [], gm_h S, bc, bs) Q := by
  have hn := gm_tr_lt ht
  have hc : (nI n).toNatClampNeg = n := nI_clamp (by omega)
  have hin : vp_in (nI n) 200 := vp_in_nI (by omega) (by decide)
  refine gb_emptyNow_0 ?_
  rw [hc]
  have wiF : ∀ {a : gt_T} {b : Bool}, gm_tr S a b (gp_n (S 8 n)) → gp_n (S 8 n) < 160 ∧ (S 8 n).toNatClampNeg = gp_n (S 8 n) ∧ vp_in (S 8 n) 200 := fun h => by
    have h1 := gm_tr_lt h
    have h2 : (S 8 n).toNatClampNeg = gp_n (S 8 n) := gp_cl (by omega)
    refine ⟨h1, h2, ?_⟩
    have h3 := vp_in_nI (n := gp_n (S 8 n)) (N := 200) (by omega) (by decide)
    rw [gp_nI] at h3
    exact h3
  cases t with
  | cat l hi =>
    have hk : S 7 n = 0 := gp_lit ht.2.2.1
    simp (decide := true) only [hk, not_false_eq_true, true_implies, false_implies, and_true, true_and, implies_true, not_true_eq_false]
    exact ⟨hin, hq⟩
  | parser r =>
    have hk : S 7 n = 1 := gp_lit ht.2.2.1
    have hw : gp_n (S 8 n) = gt_nm r := ht.2.2.2
    have hr : gt_nm r < 4 := hm _ (by simp [gt_nms])
    have hw2 : S 8 n = nI (gt_nm r) := gp_of hw
    have hcr : (nI (gt_nm r)).toNatClampNeg = gt_nm r := nI_clamp (by omega)
    have h40 : (40 : Int32) * nI (gt_nm r) = nI (40 * gt_nm r) := (Int32.ofNat_mul 40 (gt_nm r)).symm
    have hc40 : (nI (40 * gt_nm r)).toNatClampNeg = 40 * gt_nm r := nI_clamp (by omega)
    simp (decide := true) only [hk, hw2, hcr, h40, hc40, not_false_eq_true, true_implies, false_implies, and_true, true_and, implies_true, not_true_eq_false]
    refine ⟨hin, hin, vp_in_nI hr (by decide), fun h0 => gb_emptyNow_53 (gb_emptyNow_54 ⟨rfl, ?_⟩), fun h0 => ⟨hin, vp_in_nI (by omega) (by decide), fun h1 => gb_emptyNow_53 (gb_emptyNow_54 ⟨rfl, ?_⟩), fun h1 => gb_emptyNow_54 ⟨rfl, ?_⟩⟩⟩
    · rw [hd _ hr] at h0
      have e : gn_emN (gm_dfn S) (fun n => gp_n (S 8 n)) (gm_nx S) em (.parser r) n = false := Bool.and_eq_false_iff.mpr (.inl ((gp_b_0 _).mp h0))
      rw [e] at hq
      exact hq
    · rw [hb _ (by omega)] at h1
      have e : gn_emN (gm_dfn S) (fun n => gp_n (S 8 n)) (gm_nx S) em (.parser r) n = false := Bool.and_eq_false_iff.mpr (.inr ((gp_b_0 _).mp h1))
      rw [e] at hq
      exact hq
    · rw [hd _ hr] at h0
      rw [hb _ (by omega)] at h1
      have e0 : gm_dfn S (gt_nm r) = true := by
        cases h : gm_dfn S (gt_nm r) with
        | true => rfl
        | false => exact absurd ((gp_b_0 _).mpr h) h0
      have e1 : em (40 * gt_nm r) = true := by
        cases h : em (40 * gt_nm r) with
        | true => rfl
        | false => exact absurd ((gp_b_0 _).mpr h) h1
      have e : gn_emN (gm_dfn S) (fun n => gp_n (S 8 n)) (gm_nx S) em (.parser r) n = true := Bool.and_eq_true_iff.mpr ⟨e0, e1⟩
      rw [e] at hq
      exact hq
  | const r =>
    have hk : S 7 n = 2 := gp_lit ht.2.2
    simp (decide := true) only [hk, not_false_eq_true, true_implies, false_implies, and_true, true_and, implies_true, not_true_eq_false]
    refine ⟨hin, gb_emptyNow_143 ⟨hin, gb_emptyNow_152 ⟨fun _ => gb_emptyNow_195 ⟨rfl, hq⟩, fun _ => ⟨fun _ => gb_emptyNow_195 ⟨rfl, hq⟩, fun h => absurd h (by decide)⟩⟩⟩⟩
  | unary m a =>
    have hk : S 7 n = 3 := gp_lit ht.2.2.1
    obtain ⟨w1, w2, w3⟩ := wiF ht.2.2.2
    simp (decide := true) only [hk, not_false_eq_true, true_implies, false_implies, and_true, true_and, implies_true, not_true_eq_false]
    refine ⟨hin, gb_emptyNow_65 ?_⟩
    rw [hc, w2, hb _ w1]
    exact ⟨hin, w3, gp_b_nar _, hq⟩
  | node m k a =>
    have hk := ht.2.2.2.1
    have hk3 := ht.2.2.1
    obtain ⟨w1, w2, w3⟩ := wiF ht.2.2.2.2
    have : k = 0 ∨ k = 1 ∨ k = 2 := by omega
    rcases this with rfl | rfl | rfl
    · have hk : S 7 n = 4 := gp_lit hk
      simp (decide := true) only [hk, not_false_eq_true, true_implies, false_implies, and_true, true_and, implies_true, not_true_eq_false]
      refine ⟨hin, gb_emptyNow_143 ⟨hin, gb_emptyNow_152 ⟨fun _ => gb_emptyNow_195 ⟨rfl, hq⟩, fun _ => ⟨fun _ => gb_emptyNow_195 ⟨rfl, hq⟩, fun h => absurd h (by decide)⟩⟩⟩⟩
    · have hk : S 7 n = 5 := gp_lit hk
      simp (decide := true) only [hk, not_false_eq_true, true_implies, false_implies, and_true, true_and, implies_true, not_true_eq_false]
      refine ⟨hin, gb_emptyNow_65 ?_⟩
      rw [hc, w2, hb _ w1]
      exact ⟨hin, w3, gp_b_nar _, hq⟩
    · have hk : S 7 n = 6 := gp_lit hk
      simp (decide := true) only [hk, not_false_eq_true, true_implies, false_implies, and_true, true_and, implies_true, not_true_eq_false]
      refine ⟨hin, gb_emptyNow_143 ⟨hin, gb_emptyNow_152 ⟨fun _ => gb_emptyNow_195 ⟨rfl, hq⟩, fun _ => ⟨fun _ => gb_emptyNow_195 ⟨rfl, hq⟩, fun h => absurd h (by decide)⟩⟩⟩⟩
  | trailingNode m k l a =>
    have hk := ht.2.2.1
    by_cases k1 : k = 1
    · rw [if_pos k1] at hk
      have hk : S 7 n = 7 := gp_lit hk
      simp (decide := true) only [hk, not_false_eq_true, true_implies, false_implies, and_true, true_and, implies_true, not_true_eq_false]
      refine ⟨hin, gb_emptyNow_143 ⟨hin, gb_emptyNow_152 ⟨fun _ => gb_emptyNow_195 ⟨rfl, hq⟩, fun _ => ⟨fun _ => gb_emptyNow_195 ⟨rfl, hq⟩, fun h => absurd h (by decide)⟩⟩⟩⟩
    · rw [if_neg k1] at hk
      have hk : S 7 n = 8 := gp_lit hk
      simp (decide := true) only [hk, not_false_eq_true, true_implies, false_implies, and_true, true_and, implies_true, not_true_eq_false]
      refine ⟨hin, gb_emptyNow_143 ⟨hin, gb_emptyNow_152 ⟨fun _ => gb_emptyNow_195 ⟨rfl, hq⟩, fun _ => ⟨fun _ => gb_emptyNow_195 ⟨rfl, hq⟩, fun h => absurd h (by decide)⟩⟩⟩⟩
  | nodeWithAntiquot s k a =>
    obtain ⟨_, _, hk, hta, hl⟩ := ht
    obtain ⟨w1, w2, w3⟩ := wiF hta
    have hw : S 8 n = nI (gp_n (S 8 n)) := (gp_nI _).symm
    simp only [gn_emN] at hq
    rcases hl with ⟨h9, hl⟩ | ⟨h9, hl⟩
    · rw [h9] at hk
      rw [if_pos h9] at hq
      have hk : S 7 n = 9 := gp_lit hk
      simp (decide := true) only [hk, not_false_eq_true, true_implies, false_implies, and_true, true_and, implies_true, not_true_eq_false]
      refine ⟨hin, hin, ?_⟩
      rw [hw]
      exact gm_eN93 hb a _ true hta hl (by simpa using hq)
    · rw [h9] at hk
      rw [if_neg (by omega)] at hq
      have hk : S 7 n = 10 := gp_lit hk
      simp (decide := true) only [hk, not_false_eq_true, true_implies, false_implies, and_true, true_and, implies_true, not_true_eq_false]
      refine ⟨hin, gb_emptyNow_143 ⟨hin, ?_⟩⟩
      rw [hc, hw]
      exact gm_eN152 hb a _ false hta hl (by simpa using hq)
  | sepBy a s c b => cases ht.1
  | sepBy1 a s c b => cases ht.1
  | _ => exact False.elim ht
end GMC
