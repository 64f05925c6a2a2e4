/-! The model's checking. -/
theorem gp_40 {r : Nat} (hr : r < 4) : (40 : Int32) * nI r = nI (40 * r) := (Int32.ofNat_mul 40 r).symm
section GMH
variable {S : Nat → Nat → Int32} {R : Nat → Option gt_T} {d bc bs : Nat} {Q : gx_R → Prop}
/-- what work leaves -/
def gm_wk (S : Nat → Nat → Int32) (R : Nat → Option gt_T) : Prop := gm_gr S R ∧ (∀ t n, gm_tr S t false n → S 12 n = gp_b (gt_emp (gt_Em R) t)) ∧ (∀ r t, R r = some t → S 13 (40 * r) = gp_m (gt_ST R r)) ∧ (∀ r, r < 4 → S 14 r = gp_m (gt_U R r))
/-- reached: by what rules use (0), by what they start with (1) -/
theorem gm_reached1 (hw : gm_wk S R) {by' : Int32} {U : Nat → Nat → Bool} (hU : by' = 0 ∧ U = gt_U R ∨ by' = 1 ∧ U = gt_ST R) {v : Nat → Bool} {r : Nat} (hr : r < 4) {o1 : Option Value} {a4 : Int32}
    (K : gx_X gm_P (d + 1) 26 (14, [some (.ref 0), o1, some (.int by'), some (.int (gp_m (gt_s1 U r v))), some (.int a4), some (.int (nI (r + 1)))], [], gm_h S, bc, bs) Q) :
    gx_X gm_P (d + 1) 26 (14, [some (.ref 0), o1, some (.int by'), some (.int (gp_m v)), some (.int a4), some (.int (nI r))], [], gm_h S, bc, bs) Q := by
  obtain ⟨hg, _, h13, h14⟩ := hw
  have hcr : (nI r).toNatClampNeg = r := nI_clamp (by omega)
  have hin : vp_in (nI r) 4 := vp_in_nI hr (by decide)
  have hc40 : (nI (40 * r)).toNatClampNeg = 40 * r := nI_clamp (by omega)
  have e1 : nI r + Int32.ofInt 1 = nI (r + 1) := nI_1 r
  have stay : gt_s1 U r v = v → gx_X gm_P (d + 1) 26 (67, [some (.ref 0), o1, some (.int by'), some (.int (gp_m v)), some (.int a4), some (.int (nI r))], [], gm_h S, bc, bs) Q := fun h => by
    rw [h] at K
    refine gb_reached_67 ?_
    rw [e1]
    exact K
  refine gb_reached_14 ⟨fun h => absurd (nI_lt (b := 4) hr (by decide)) h, fun _ => ⟨fun h => stay ?_, fun h => ⟨hin, fun h0 => stay ?_, fun h0 => ?_⟩⟩⟩
  · have : ¬ v r = true := fun hv => h ((gp_m_bit v hr).mpr hv)
    funext k
    simp [gt_s1, this]
  · rw [hcr, hg.1 r hr] at h0
    have hn : R r = none := by
      cases ht : R r with
      | none => rfl
      | some t => rw [ht] at h0; exact absurd h0 (show ¬ gp_b true = 0 by decide)
    funext k
    rcases hU with ⟨_, rfl⟩ | ⟨_, rfl⟩
    · simp [gt_s1, gt_U, hn]
    · simp [gt_s1, gt_ST, hn]
  · have hv : v r = true := (gp_m_bit v hr).mp h
    rw [hcr, hg.1 r hr] at h0
    obtain ⟨t, ht⟩ : ∃ t, R r = some t := by
      cases ht : R r with
      | none => rw [ht] at h0; exact absurd rfl h0
      | some t => exact ⟨t, rfl⟩
    have es : gt_s1 U r v = fun k => v k || U r k := by funext k; simp [gt_s1, hv]
    rw [es] at K
    rcases hU with ⟨rfl, rfl⟩ | ⟨rfl, rfl⟩
    · refine ⟨fun h => absurd rfl h, fun _ => ⟨hin, gb_reached_65 (gb_reached_67 ?_)⟩⟩
      rw [hcr, h14 r hr, gp_m_or, e1]
      exact K
    · refine ⟨fun _ => ?_, fun h => absurd h (by decide)⟩
      rw [gp_40 hr, hc40, h13 r t ht]
      refine ⟨vp_in_nI (by omega) (by decide), gb_reached_65 (gb_reached_67 ?_)⟩
      rw [gp_m_or, e1]
      exact K
theorem gm_reached4 (hw : gm_wk S R) {by' : Int32} {U : Nat → Nat → Bool} (hU : by' = 0 ∧ U = gt_U R ∨ by' = 1 ∧ U = gt_ST R) {v : Nat → Bool} {o1 o5 : Option Value} {j : Nat} (hj : j < 4)
    (K : ∀ o5, gx_X gm_P (d + 1) 26 (5, [some (.ref 0), o1, some (.int by'), some (.int (gp_m (gt_s4 U v))), some (.int (nI (j + 1))), o5], [], gm_h S, bc, bs) Q) :
    gx_X gm_P (d + 1) 26 (5, [some (.ref 0), o1, some (.int by'), some (.int (gp_m v)), some (.int (nI j)), o5], [], gm_h S, bc, bs) Q := by
  refine gb_reached_5 ⟨fun h => absurd (nI_lt (b := 4) hj (by decide)) h, fun _ => ?_⟩
  refine gm_reached1 hw hU (r := 0) (by omega) (gm_reached1 hw hU (r := 1) (by omega) (gm_reached1 hw hU (r := 2) (by omega) (gm_reached1 hw hU (r := 3) (by omega) ?_)))
  refine gb_reached_14 ⟨fun _ => ?_, fun h => absurd h (by decide)⟩
  rw [show nI j + Int32.ofInt 1 = nI (j + 1) from nI_1 j]
  exact K _
theorem gm_reached (hw : gm_wk S R) {by' : Int32} {U : Nat → Nat → Bool} (hU : by' = 0 ∧ U = gt_U R ∨ by' = 1 ∧ U = gt_ST R) {v : Nat → Bool} {o3 o4 o5 : Option Value} (hq : Q (.inl (some (.int (gp_m (gt_clo U v)))), gm_h S)) :
    gx_X gm_P (d + 1) 26 (0, [some (.ref 0), some (.int (gp_m v)), some (.int by'), o3, o4, o5], [], gm_h S, bc, bs) Q := by
  refine gb_reached_0 (gm_reached4 hw hU (j := 0) (by omega) fun _ => gm_reached4 hw hU (j := 1) (by omega) fun _ => gm_reached4 hw hU (j := 2) (by omega) fun _ => gm_reached4 hw hU (j := 3) (by omega) fun _ => ?_)
  exact gb_reached_5 ⟨fun _ => hq, fun h => absurd h (by decide)⟩
/-- a node that repeats something empty-able -/
def gm_lp (S : Nat → Nat → Int32) (_ : Nat → Option gt_T) (n : Nat) : Prop := gm_D S n ∧ (gp_n (S 7 n) = 4 ∨ gp_n (S 7 n) = 5) ∧ S 12 (gp_n (S 8 n)) ≠ 0
theorem gm_star (hg : gm_gr S R) {n : Nat} (hD : gm_D S n) (hk : gp_n (S 7 n) = 4 ∨ gp_n (S 7 n) = 5) : ∃ r t m k a, R r = some t ∧ gm_Dr S r n ∧ k ≠ 2 ∧ (∀ E, gt_grd E (.node m k a) = true → gt_grd E t = true) ∧ gm_tr S a false (gp_n (S 8 n)) := by
  obtain ⟨r, t, hr, ht, hDr⟩ := gm_D_Dr hg hD
  obtain ⟨t', ht', _, hgr⟩ := (hg.2.2 r t ht).2.2.2.2 n hDr
  have h1 : gp_n (S 7 n) = gt_kd t' := gn_tr_kd ht'
  cases t' with
  | node m k a => exact ⟨r, t, m, k, a, ht, hDr, (by simp only [gt_kd] at h1; omega), hgr, gm_trr_tr hg ht ht'.2.2.2.2⟩
  | trailingNode m k l a => simp only [gt_kd] at h1; split at h1 <;> omega
  | nodeWithAntiquot s k a =>
    have := ht'.2.2.2.2
    simp only [gt_kd] at h1
    omega
  | sepBy a s c b => cases ht'.1
  | sepBy1 a s c b => cases ht'.1
  | cat l hi => simp only [gt_kd] at h1; omega
  | parser q => simp only [gt_kd] at h1; omega
  | const q => simp only [gt_kd] at h1; omega
  | unary m a => simp only [gt_kd] at h1; omega
  | _ => exact False.elim ht'
theorem gm_lp_GR (hw : gm_wk S R) {r : Nat} (hr : r < 4) : (∃ m, m < 40 ∧ gm_lp S R (40 * r + m)) ↔ gt_GR R r = true := by
  obtain ⟨hg, h12, _, _⟩ := hw
  constructor
  · rintro ⟨m, hm, hD, hk, he⟩
    obtain ⟨r', t, m', k, a, ht, hDr, hk2, hgr, hta⟩ := gm_star hg hD hk
    have hr' := (hg.2.2 r' t ht).1
    have h40 := hg.2.1 r' hr'
    have e : r' = r := by
      obtain ⟨q1, q2⟩ := hDr
      omega
    subst e
    unfold gt_GR
    rw [ht]
    refine hgr _ ?_
    rw [h12 a _ hta] at he
    have hea : gt_emp (gt_Em R) a = true := by
      cases h : gt_emp (gt_Em R) a with
      | true => rfl
      | false => rw [h] at he; exact absurd rfl he
    simp [gt_grd, hk2, hea]
  · intro h
    unfold gt_GR at h
    cases ht : R r with
    | none => rw [ht] at h; cases h
    | some t =>
      rw [ht] at h
      obtain ⟨n, a, hn, hk, hta, hea⟩ := gn_tr_grd t _ _ (hg.2.2 r t ht).2.2.2.1 h
      have h40 := hg.2.1 r hr
      have hD := gm_Dr_D hg ht n hn
      obtain ⟨q1, q2⟩ := hn
      refine ⟨n - 40 * r, by omega, ?_⟩
      rw [show 40 * r + (n - 40 * r) = n by omega]
      refine ⟨hD, hk, ?_⟩
      rw [h12 a _ (gm_trr_tr hg ht hta), hea]
      decide
/-- the nodes of a rule are gone through -/
theorem gm_chk_in (hw : gm_wk S R) {r : Nat} (hr : r < 4) {o1 : Option Value} {a2 a3 a4 : Int32} {b0 : Bool}
    (K : ∀ (b : Bool) (o7 : Option Value), (b = true ↔ b0 = true ∨ ∃ m, m < 40 ∧ gm_lp S R (40 * r + m)) → gx_X gm_P (d + 2) 27 (190, [some (.ref 0), o1, some (.int a2), some (.int a3), some (.int a4), some (.int (gp_b b)), some (.int (nI r)), o7], [], gm_h S, bc, bs) Q) :
    ∀ (f n : Nat) (b : Bool), n + f = 40 → (b = true ↔ b0 = true ∨ ∃ m, m < n ∧ gm_lp S R (40 * r + m)) →
    gx_X gm_P (d + 2) 27 (113, [some (.ref 0), o1, some (.int a2), some (.int a3), some (.int a4), some (.int (gp_b b)), some (.int (nI r)), some (.int (nI (40 * r + n)))], [], gm_h S, bc, bs) Q := by
  obtain ⟨hg, h12, _, _⟩ := id hw
  have e40 : (40 : Int32) * nI r + 40 = nI (40 * r + 40) := by
    have : r = 0 ∨ r = 1 ∨ r = 2 ∨ r = 3 := by omega
    rcases this with rfl | rfl | rfl | rfl <;> decide +kernel
  intro f
  induction f with
  | zero =>
    intro n b hn hb
    refine gb_checked_113 ⟨fun _ => ?_, fun h => ?_⟩
    · have e : n = 40 := by omega
      subst e
      exact K b _ hb
    · rw [e40] at h
      have := (nI_ltI (by omega) (by omega)).mp h
      omega
  | succ f ih =>
    intro n b hn hb
    have hc : (nI (40 * r + n)).toNatClampNeg = 40 * r + n := nI_clamp (by omega)
    have hin : vp_in (nI (40 * r + n)) 200 := vp_in_nI (by omega) (by decide)
    have e1 : nI (40 * r + n) + Int32.ofInt 1 = nI (40 * r + (n + 1)) := nI_1 _
    have up : ∀ b' : Bool, (b' = true ↔ b = true ∨ gm_lp S R (40 * r + n)) → (b' = true ↔ b0 = true ∨ ∃ m, m < n + 1 ∧ gm_lp S R (40 * r + m)) := fun b' h => by
      rw [h, hb]
      constructor
      · rintro ((h | ⟨m, h1, h2⟩) | h)
        · exact .inl h
        · exact .inr ⟨m, by omega, h2⟩
        · exact .inr ⟨n, by omega, h⟩
      · rintro (h | ⟨m, h1, h2⟩)
        · exact .inl (.inl h)
        · by_cases e : m = n
          · subst e; exact .inr h2
          · exact .inl (.inr ⟨m, by omega, h2⟩)
    have no : ∀ o5 : Option Value, b = false → ¬ gm_lp S R (40 * r + n) → gx_X gm_P (d + 2) 27 (181, [some (.ref 0), o1, some (.int a2), some (.int a3), some (.int a4), o5, some (.int (nI r)), some (.int (nI (40 * r + n)))], [], gm_h S, bc, bs) Q := fun o5 hb0 hn' => by
      refine gb_checked_181 (gb_checked_182 ?_)
      rw [e1]
      exact ih (n + 1) false (by omega) (up false ⟨(fun h => by cases h), fun h => by
        rcases h with h | h
        · rw [hb0] at h; cases h
        · exact absurd h hn'⟩)
    have yes : ∀ o5 : Option Value, (b = true ∨ gm_lp S R (40 * r + n)) → gx_X gm_P (d + 2) 27 (177, [some (.ref 0), o1, some (.int a2), some (.int a3), some (.int a4), o5, some (.int (nI r)), some (.int (nI (40 * r + n)))], [], gm_h S, bc, bs) Q := fun o5 h => by
      refine gb_checked_177 (gb_checked_182 ?_)
      rw [e1]
      exact ih (n + 1) true (by omega) (up true ⟨fun _ => h, fun _ => rfl⟩)
    refine gb_checked_113 ⟨fun h => ?_, fun _ => ⟨fun h => yes _ (.inl ?_), fun h => gm_isNode hg.2.1 (gm_gr_S3 hg) (by omega) (fun c hc' => ?_)⟩⟩
    · rw [e40] at h
      exact absurd (nI_lt (by omega) (by omega)) h
    · cases hbb : b with
      | true => rfl
      | false => rw [hbb] at h; exact absurd rfl h
    · have hb0 : b = false := (gp_b_0 _).mp h
      cases hcc : c with
      | false =>
        refine gb_checked_137 ⟨fun _ => no _ hb0 (fun h => ?_), fun h => absurd rfl h⟩
        have := hc'.mpr h.1
        rw [hcc] at this
        cases this
      | true =>
        have hD := hc'.mp hcc
        have star : (gp_n (S 7 (40 * r + n)) = 4 ∨ gp_n (S 7 (40 * r + n)) = 5) → gx_X gm_P (d + 2) 27 (162, [some (.ref 0), o1, some (.int a2), some (.int a3), some (.int a4), some (.int (gp_b b)), some (.int (nI r)), some (.int (nI (40 * r + n)))], [], gm_h S, bc, bs) Q := fun hk => by
          obtain ⟨r', t, m', k, a, ht, hDr, hk2, hgr, hta⟩ := gm_star hg hD hk
          have hlt := gm_tr_lt hta
          have hcl : (S 8 (40 * r + n)).toNatClampNeg = gp_n (S 8 (40 * r + n)) := gp_cl (by omega)
          have hin8 : vp_in (S 8 (40 * r + n)) 200 := by
            have := vp_in_nI (n := gp_n (S 8 (40 * r + n))) (N := 200) (by omega) (by decide)
            rw [gp_nI] at this
            exact this
          refine gb_checked_162 ?_
          rw [hc, hcl]
          exact ⟨hin, hin8, fun h => no _ hb0 (fun hl => hl.2.2 h), fun h => yes _ (.inr ⟨hD, hk, h⟩)⟩
        refine gb_checked_137 ⟨fun h => absurd h (by decide), fun _ => ?_⟩
        rw [hc]
        refine ⟨hin, fun h => star (.inl (by rw [h]; rfl)), fun h4 => ⟨hin, fun h5 => no _ hb0 (fun hl => ?_), fun h => star (.inr (by rw [h]; rfl))⟩⟩
        rcases hl.2.1 with hk | hk
        · exact h4 (gp_of hk)
        · exact h5 (gp_of hk)
/-- one of the first r -/
def gt_an (f : Nat → Bool) : Nat → Bool
  | 0 => false
  | r + 1 => gt_an f r || f r
theorem gt_an_4 (f : Nat → Bool) : gt_an f 4 = gt_any f := by
  simp [gt_an, gt_any]
theorem gm_chk_loop (hw : gm_wk S R) {N : Nat → Bool} {o1 : Option Value}
    (hq : Q (.inl (some (.int (if gt_any (fun k => N k && (R k).isNone) then 1 else if gt_any (fun k => N k && gt_clo (gt_ST R) (gt_ST R k) k) then 2 else if gt_any (fun k => N k && gt_GR R k) then 3 else 0))), gm_h S)) :
    ∀ (f r : Nat) (o7 : Option Value), r + f = 4 →
    gx_X gm_P (d + 2) 27 (24, [some (.ref 0), o1, some (.int (gp_m N)), some (.int (gp_b (gt_an (fun k => N k && (R k).isNone) r))), some (.int (gp_b (gt_an (fun k => N k && gt_clo (gt_ST R) (gt_ST R k) k) r))), some (.int (gp_b (gt_an (fun k => N k && gt_GR R k) r))), some (.int (nI r)), o7], [], gm_h S, bc, bs) Q := by
  obtain ⟨hg, h12, h13, h14⟩ := id hw
  intro f
  induction f with
  | zero =>
    intro r o7 hr
    have e : r = 4 := by omega
    subst e
    rw [gt_an_4, gt_an_4, gt_an_4]
    refine gb_checked_24 ⟨fun _ => ⟨fun h1 => ⟨fun h2 => ⟨fun h3 => gb_checked_223 ?_, fun h3 => gb_checked_223 ?_⟩, fun h2 => gb_checked_223 ?_⟩, fun h1 => gb_checked_223 ?_⟩, fun h => absurd h (by decide)⟩
    · simpa only [(gp_b_0 _).mp h1, (gp_b_0 _).mp h2, (gp_b_0 _).mp h3, if_false, Bool.false_eq_true] using hq
    · have e3 : gt_any (fun k => N k && gt_GR R k) = true := by
        cases h : gt_any (fun k => N k && gt_GR R k) with
        | true => rfl
        | false => rw [h] at h3; exact absurd rfl h3
      simpa only [(gp_b_0 _).mp h1, (gp_b_0 _).mp h2, e3, if_false, Bool.false_eq_true, if_true] using hq
    · have e3 : gt_any (fun k => N k && gt_clo (gt_ST R) (gt_ST R k) k) = true := by
        cases h : gt_any (fun k => N k && gt_clo (gt_ST R) (gt_ST R k) k) with
        | true => rfl
        | false => rw [h] at h2; exact absurd rfl h2
      simpa only [(gp_b_0 _).mp h1, e3, if_false, Bool.false_eq_true, if_true] using hq
    · have e3 : gt_any (fun k => N k && (R k).isNone) = true := by
        cases h : gt_any (fun k => N k && (R k).isNone) with
        | true => rfl
        | false => rw [h] at h1; exact absurd rfl h1
      simpa only [e3, if_true] using hq
  | succ f ih =>
    intro r o7 hr
    have hr4 : r < 4 := by omega
    have hcr : (nI r).toNatClampNeg = r := nI_clamp (by omega)
    have hin : vp_in (nI r) 4 := vp_in_nI hr4 (by decide)
    have hc40 : (nI (40 * r)).toNatClampNeg = 40 * r := nI_clamp (by omega)
    have e1 : nI r + Int32.ofInt 1 = nI (r + 1) := nI_1 r
    refine gb_checked_24 ⟨fun h => absurd (nI_lt (b := 4) hr4 (by decide)) h, fun _ => ⟨fun h => ?_, fun h => ?_⟩⟩
    · have hN : N r = false := by
        cases hN : N r with
        | false => rfl
        | true => exact absurd ((gp_m_bit N hr4).mpr hN) h
      refine gb_checked_190 ?_
      rw [e1]
      have := ih (r + 1) o7 (by omega)
      simpa only [gt_an, hN, Bool.false_and, Bool.or_false] using this
    · have hN : N r = true := (gp_m_bit N hr4).mp h
      -- behind 'round'
      have s104 : ∀ o4 : Option Value, gx_X gm_P (d + 2) 27 (104, [some (.ref 0), o1, some (.int (gp_m N)), some (.int (gp_b (gt_an (fun k => N k && (R k).isNone) (r + 1)))), o4, some (.int (gp_b (gt_an (fun k => N k && gt_GR R k) r))), some (.int (nI r)), o7], [.int (gp_b (gt_an (fun k => N k && gt_clo (gt_ST R) (gt_ST R k) k) (r + 1)))], gm_h S, bc, bs) Q := fun o4 => by
        refine gb_checked_104 ?_
        rw [gp_40 hr4, show 40 * r = 40 * r + 0 from rfl]
        refine gm_chk_in hw hr4 (b0 := gt_an (fun k => N k && gt_GR R k) r) (fun b o7' hb => ?_) 40 0 _ rfl ⟨fun h => .inl h, fun h => by
          rcases h with h | ⟨m, h1, _⟩
          · exact h
          · exact absurd h1 (Nat.not_lt_zero _)⟩
        refine gb_checked_190 ?_
        rw [e1]
        have eb : b = gt_an (fun k => N k && gt_GR R k) (r + 1) := by
          refine Bool.eq_iff_iff.mpr (hb.trans ?_)
          rw [gm_lp_GR hw hr4]
          simp [gt_an, hN]
        rw [eb]
        exact ih (r + 1) o7' (by omega)
      have s103 : ∀ o4 : Option Value, gt_an (fun k => N k && gt_clo (gt_ST R) (gt_ST R k) k) (r + 1) = false → gx_X gm_P (d + 2) 27 (103, [some (.ref 0), o1, some (.int (gp_m N)), some (.int (gp_b (gt_an (fun k => N k && (R k).isNone) (r + 1)))), o4, some (.int (gp_b (gt_an (fun k => N k && gt_GR R k) r))), some (.int (nI r)), o7], [], gm_h S, bc, bs) Q := fun o4 h => by
        have := s104 o4
        rw [h] at this
        exact gb_checked_103 this
      have s99 : ∀ o4 : Option Value, gt_an (fun k => N k && gt_clo (gt_ST R) (gt_ST R k) k) (r + 1) = true → gx_X gm_P (d + 2) 27 (99, [some (.ref 0), o1, some (.int (gp_m N)), some (.int (gp_b (gt_an (fun k => N k && (R k).isNone) (r + 1)))), o4, some (.int (gp_b (gt_an (fun k => N k && gt_GR R k) r))), some (.int (nI r)), o7], [], gm_h S, bc, bs) Q := fun o4 h => by
        have := s104 o4
        rw [h] at this
        exact gb_checked_99 this
      have s59 : ∀ o3 : Option Value, gx_X gm_P (d + 2) 27 (59, [some (.ref 0), o1, some (.int (gp_m N)), o3, some (.int (gp_b (gt_an (fun k => N k && gt_clo (gt_ST R) (gt_ST R k) k) r))), some (.int (gp_b (gt_an (fun k => N k && gt_GR R k) r))), some (.int (nI r)), o7], [.int (gp_b (gt_an (fun k => N k && (R k).isNone) (r + 1)))], gm_h S, bc, bs) Q := fun o3 => by
        refine gb_checked_59 ⟨fun h => s99 _ ?_, fun h => ⟨hin, fun h0 => s103 _ ?_, fun h0 => ?_⟩⟩
        · cases hx : gt_an (fun k => N k && gt_clo (gt_ST R) (gt_ST R k) k) r with
          | true => simp [gt_an, hx]
          | false => rw [hx] at h; exact absurd rfl h
        · have hx := (gp_b_0 _).mp h
          rw [hcr, hg.1 r hr4] at h0
          have hn : R r = none := by
            cases ht : R r with
            | none => rfl
            | some t => rw [ht] at h0; exact absurd h0 (show ¬ gp_b true = 0 by decide)
          have hno : gt_clo (gt_ST R) (gt_ST R r) r = false := by
            cases hcl : gt_clo (gt_ST R) (gt_ST R r) r with
            | false => rfl
            | true =>
              have := gt_clo_least (U := gt_ST R) (S := gt_ST R r) (P := fun _ => False) (fun k hk => by
                simp [gt_ST, hn] at hk) (fun _ _ h _ => h) r hcl
              exact False.elim this
          simp [gt_an, hx, hno]
        · have hx := (gp_b_0 _).mp h
          rw [hcr, hg.1 r hr4] at h0
          obtain ⟨t, ht⟩ : ∃ t, R r = some t := by
            cases ht : R r with
            | none => rw [ht] at h0; exact absurd rfl h0
            | some t => exact ⟨t, rfl⟩
          rw [gp_40 hr4, hc40, h13 r t ht]
          refine ⟨vp_in_nI (by omega) (by decide), gm_reached hw (.inr ⟨rfl, rfl⟩) (gb_checked_90 ⟨fun hb => s103 _ ?_, fun hb => s99 _ ?_⟩)⟩
          · have hno : gt_clo (gt_ST R) (gt_ST R r) r = false := by
              cases hcl : gt_clo (gt_ST R) (gt_ST R r) r with
              | false => rfl
              | true => exact absurd ((gp_m_bit _ hr4).mpr hcl) hb
            simp [gt_an, hx, hno]
          · have hyes := (gp_m_bit _ hr4).mp hb
            simp [gt_an, hN, hyes]
      have s54 : ∀ o3 : Option Value, gt_an (fun k => N k && (R k).isNone) (r + 1) = true → gx_X gm_P (d + 2) 27 (54, [some (.ref 0), o1, some (.int (gp_m N)), o3, some (.int (gp_b (gt_an (fun k => N k && gt_clo (gt_ST R) (gt_ST R k) k) r))), some (.int (gp_b (gt_an (fun k => N k && gt_GR R k) r))), some (.int (nI r)), o7], [], gm_h S, bc, bs) Q := fun o3 h => by
        have := s59 o3
        rw [h] at this
        exact gb_checked_54 this
      refine ⟨fun h0 => s54 _ ?_, fun h0 => ⟨hin, fun h1 => ?_, fun h1 => s54 _ ?_⟩⟩
      · cases hx : gt_an (fun k => N k && (R k).isNone) r with
        | true => simp [gt_an, hx]
        | false => rw [hx] at h0; exact absurd rfl h0
      · have hx := (gp_b_0 _).mp h0
        rw [hcr, hg.1 r hr4] at h1
        have e : gt_an (fun k => N k && (R k).isNone) (r + 1) = false := by
          cases ht : R r with
          | none => rw [ht] at h1; exact absurd rfl h1
          | some t => simp [gt_an, hx, ht]
        have := s59 (some (.int (gp_b (gt_an (fun k => N k && (R k).isNone) r))))
        rw [e] at this
        exact this
      · rw [hcr, hg.1 r hr4] at h1
        have hn : R r = none := by
          cases ht : R r with
          | none => rfl
          | some t => rw [ht] at h1; exact absurd h1 (show ¬ gp_b true = 0 by decide)
        simp [gt_an, hN, hn]
/-- checked -/
theorem gm_checked (hg : gm_gr S R) {r : Nat} (hr : r < 4) {o2 o3 o4 o5 o6 o7 : Option Value} (hq : ∀ S', gm_eqr [12, 13, 14] S S' → Q (.inl (some (.int (nI (gt_chk R r)))), gm_h S')) :
    gx_X gm_P (d + 3) 27 (0, [some (.ref 0), some (.int (nI r)), o2, o3, o4, o5, o6, o7], [], gm_h S, bc, bs) Q := by
  refine gb_checked_0 (gm_work hg (fun S' h1 h2 h3 h4 => gb_checked_4 ?_))
  have hg' : gm_gr S' R := gm_eqr_gr h1 (by simp) (by simp) (by simp) (by simp) (by simp) (by simp) hg
  obtain ⟨a1, _⟩ := gm_eqr_tr h1 (by simp) (by simp) (by simp) (by simp) (by simp) (by simp)
  have hw : gm_wk S' R := ⟨hg', fun t n ht => h2 t n (by rw [← a1]; exact ht), h3, h4⟩
  rw [gp_m_one hr]
  refine gm_reached hw (.inl ⟨rfl, rfl⟩) (gb_checked_12 ?_)
  refine gm_chk_loop hw ?_ 4 0 o7 rfl
  have e : (if gt_any (fun k => gt_clo (gt_U R) (fun k => k == r) k && (R k).isNone) then (1 : Int32) else if gt_any (fun k => gt_clo (gt_U R) (fun k => k == r) k && gt_clo (gt_ST R) (gt_ST R k) k) then 2 else if gt_any (fun k => gt_clo (gt_U R) (fun k => k == r) k && gt_GR R k) then 3 else 0) = nI (gt_chk R r) := by
    unfold gt_chk gt_open gt_circ gt_loop gt_N
    split
    · rfl
    · split
      · rfl
      · split <;> rfl
  rw [e]
  exact hq S' h1
theorem gm_gr_u0 {j : Nat} {v : Int32} (hg : gm_gr S R) : gm_gr (gm_u S 0 j v) R := gm_eqr_gr (l := [0]) (gm_eqr.refl.u (by simp) _ _) (by simp) (by simp) (by simp) (by simp) (by simp) (by simp) hg
theorem gp_rule {x : Int32} (h : ¬ x < 0 ∧ x < 4) : ∃ r, r < 4 ∧ x = nI r := by
  obtain ⟨j, hj, rfl⟩ := nI_of h.1
  exact ⟨j, (nI_ltI (b := 4) hj (by decide)).mp h.2, rfl⟩
/-- check -/
theorem gm_check (hg : gm_gr S R) {x : Int32} (h1 : ∀ r, r < 4 → x = nI r → ∀ S', gm_eqr [12, 13, 14] (gm_u S 0 0 0) S' → Q (.inl (some (.int (nI (gt_chk R r)))), gm_h S')) (h0 : ¬ (¬ x < 0 ∧ x < 4) → Q (.inl (some (.int 0)), gm_h (gm_u S 0 0 1))) :
    gx_X gm_P (d + 4) 28 (0, [some (.ref 0), some (.int x)], [], gm_h S, bc, bs) Q := by
  refine gb_check_0 (gm_isRule ?_)
  by_cases hx : ¬ x < 0 ∧ x < 4
  · rw [if_pos hx]
    obtain ⟨r, hr, rfl⟩ := gp_rule hx
    refine gb_check_5 ⟨fun h => absurd h (by decide), fun _ => gb_check_13 ⟨fun _ => gm_checked (gm_gr_u0 hg) hr (fun S' h => gb_check_32 (h1 r hr rfl S' h)), fun h => absurd h (by decide)⟩⟩
  · rw [if_neg hx]
    exact gb_check_5 ⟨fun _ => gb_check_13 ⟨fun h => absurd (by decide) h, fun _ => gb_check_32 (h0 hx)⟩, fun h => absurd rfl h⟩
end GMH
