/-! The class GrammarMachine: check, match, find, and what is asked of the latest match. -/
theorem gt_kN_1 {T : Nat → Option gt_T} {N : Nat → Bool} {a : (Nat → Bool) × List Nat} (h : gt_kI T N a) (hn : a.2.Nodup) {r : Nat} : (gt_k1 T r a).2.Nodup := by
  unfold gt_k1
  split
  · rename_i hf
    rw [List.nodup_append]
    refine ⟨hn, by simp, fun k hk j hj hkj => ?_⟩
    have hj : j = r := by simpa using hj
    rw [hkj, hj] at hk
    have h1 := (h.2.2.1 r hk).2.1
    unfold gt_free at hf
    rw [h1] at hf
    cases hf
  · exact hn
theorem gt_kN_4 {T : Nat → Option gt_T} {N : Nat → Bool} {a : (Nat → Bool) × List Nat} (h : gt_kI T N a) (hn : a.2.Nodup) : (gt_k4 T a).2.Nodup := by
  have h0 := gt_kI_1 h (r := 0) (by omega)
  have h1 := gt_kI_1 h0 (r := 1) (by omega)
  have h2 := gt_kI_1 h1 (r := 2) (by omega)
  exact gt_kN_1 h2 (gt_kN_1 h1 (gt_kN_1 h0 (gt_kN_1 h hn)))
theorem gt_kahn_nd {T : Nat → Option gt_T} (N : Nat → Bool) : (gt_kahn T N).2.Nodup :=
  gt_kN_4 (gt_kI_4 (gt_kI_4 (gt_kI_4 (gt_kI_0 N)))) (gt_kN_4 (gt_kI_4 (gt_kI_4 (gt_kI_0 N))) (gt_kN_4 (gt_kI_4 (gt_kI_0 N)) (gt_kN_4 (gt_kI_0 N) List.nodup_nil)))
theorem gt_idx_nd {l : List Nat} (h : l.Nodup) : ∀ j r, l[j]? = some r → gt_o l r = j := by
  induction l with
  | nil => intro j r hj; cases hj
  | cons a l ih =>
    intro j r hj
    rw [List.nodup_cons] at h
    unfold gt_o
    cases j with
    | zero =>
      have hj : a = r := by simpa using hj
      rw [hj, List.idxOf_cons_self]
    | succ j =>
      have hj : l[j]? = some r := by simpa using hj
      have hm := List.mem_of_getElem? hj
      have hne : ¬ a = r := fun e => h.1 (e ▸ hm)
      have := ih h.2 j r hj
      unfold gt_o at this
      rw [List.idxOf_cons, show (a == r) = false by simp [hne], this]
      rfl
/-- the text typed -/
def gc_xt (S : Nat → Nat → Int32) (L : Nat) (x : Nat → Nat) : Prop := S 0 6 = nI L ∧ L ≤ 9 ∧ ∀ p, p < L → S 2 p = nI (x p) ∧ x p ≤ 126
/-- the latest match -/
def gc_lt (S : Nat → Nat → Int32) (R : Nat → Int64) (cp : List (Nat × Nat)) (f : Nat) (v : Nat → Bool) : Prop :=
  (S 0 7 = -1 ∧ cp = [] ∧ f = 0 ∧ v = fun _ => false) ∨ ∃ w, w < 40 ∧ S 0 7 = nI w ∧ S 12 w = nI f + -1 ∧ f ≤ 10 ∧ gp_L (R w) v ∧ S 14 w = nI cp.length ∧ cp.length ≤ 40 ∧ gc_cp S w 0 cp
theorem gc_lt.of {S : Nat → Nat → Int32} {R : Nat → Int64} {w f : Nat} {e : Option Nat} {v : Nat → Bool} {c : List (Nat × Nat)} (hw : w < 40) (h7 : S 0 7 = nI w) (h : gc_row S R w e f v c) : gc_lt S R (c.take 40) f v := by
  obtain ⟨h1, h2, h3, h4, h5, h6⟩ := h
  refine .inr ⟨w, hw, h7, h2, h3, h4, by rw [List.length_take]; exact h5, by rw [List.length_take]; omega, fun j a b hj hj' => h6 j a b ?_ hj'⟩
  rw [List.getElem?_take, if_pos (by omega)] at hj
  exact hj
/-- alike but for what check, match and find change -/
def gc_eqX (S S' : Nat → Nat → Int32) : Prop := ∀ k j, (k = 0 → j ≠ 7) → (k = 5 → j ≠ 3) → k < 8 ∨ 16 < k → S' k j = S k j
section GCN
variable {d bc bs : Nat} {S : Nat → Nat → Int32} {P : Nat → Option Nat} {R : Nat → Int64} {E : gx_H} {Q : gx_R → Prop} {L : Nat} {x : Nat → Nat} {T : Nat → Option gt_T} {ch : Nat → Nat → Nat}
theorem gc_lt_ea {S' : Nat → Nat → Int32} (h : gc_ea S S') : gc_lt S' R = gc_lt S R := by
  funext cp f v
  unfold gc_lt gc_cp
  have e : ∀ k j, k ≠ 8 → k ≠ 5 → S' k j = S k j := fun k j h1 h2 => h k j h1 (fun h => absurd h h2)
  simp only [e 0 7 (by omega) (by omega), e 12 _ (by omega) (by omega), e 14 _ (by omega) (by omega), e 15 _ (by omega) (by omega), e 16 _ (by omega) (by omega)]
theorem gc_isRule {a : Int32} (hq : Q (.inl (some (.int (if ¬ a < 0 ∧ a < 4 then 1 else 0))), gc_h S P R E)) : gx_X gc_P (d + 1) 5 (0, [some (.int a)], [], gc_h S P R E, bc, bs) Q := by
  refine gd_M_isRule_0 ⟨fun h => gd_M_isRule_13 (gd_M_isRule_14 ⟨rfl, ?_⟩), fun h => ⟨fun h1 => gd_M_isRule_13 (gd_M_isRule_14 ⟨rfl, ?_⟩), fun h1 => gd_M_isRule_14 ⟨rfl, ?_⟩⟩⟩
  · simpa [h] using hq
  · simpa [h, h1] using hq
  · simpa [h, h1] using hq
theorem gc_refuse {a : Int32} (hbc : 1 ≤ bc) (hbs : 6 ≤ bs) (h1 : ¬ (¬ a < 0 ∧ a < 4) → Q (.inr "java/lang/IndexOutOfBoundsException", gc_h S P R E)) (h0 : ¬ a < 0 ∧ a < 4 → Q (.inl none, gc_h S P R E)) :
    gx_X gc_P (d + 2) 47 (0, [some (.int a)], [], gc_h S P R E, bc, bs) Q := by
  refine gd_M_refuseUnlessRule_0 ⟨0, 0, ⟨Nat.zero_le _, Nat.zero_le _⟩, gc_isRule (gd_M_refuseUnlessRule_4 ⟨fun h => ?_, fun h => ⟨⟨hbc, hbs⟩, ?_⟩⟩)⟩
  · by_cases hr : ¬ a < 0 ∧ a < 4
    · exact h0 hr
    · rw [if_neg hr] at h; exact absurd rfl h
  · by_cases hr : ¬ a < 0 ∧ a < 4
    · rw [if_pos hr] at h; exact absurd h (by decide)
    · exact h1 hr
/-- check -/
theorem gc_check (hg : gc_gr S P E T ch) {a : Int32} (hbc : 1 ≤ bc) (hbs : 6 ≤ bs) (h1 : ¬ (¬ a < 0 ∧ a < 4) → Q (.inr "java/lang/IndexOutOfBoundsException", gc_h S P R E))
    (h0 : ∀ r, r < 4 → a = nI r → ∀ S', gc_gr S' P E T ch → gc_ea S S' → Q (.inl (some (.int (nI (gt_chk T r)))), gc_h S' P R E)) :
    gx_X gc_P (d + 109) 49 (0, [some (.ref 0), some (.int a)], [], gc_h S P R E, bc, bs) Q := by
  refine gd_M_check_0 ⟨1, 6, ⟨hbc, hbs⟩, gc_refuse (d := d + 106) (Nat.le_refl _) (Nat.le_refl _) h1 (fun hr => gd_M_check_4 ⟨0, 0, ⟨Nat.zero_le _, Nat.zero_le _⟩, ?_⟩)⟩
  obtain ⟨r, hr4, rfl⟩ := gp_rule hr
  exact gc_fault hg hr4 (fun S' g' e' _ => gd_M_check_12 (h0 r hr4 rfl S' g' e'))
theorem gt_chk_le (r : Nat) : gt_chk T r ≤ 3 := by
  unfold gt_chk
  split
  · omega
  · split
    · omega
    · split <;> omega
/-- refuseUnlessSound -/
theorem gc_sound (hg : gc_gr S P E T ch) {r : Nat} (hr : r < 4) (hbc : 1 ≤ bc) (hbs : 6 ≤ bs)
    (h1 : gt_chk T r ≠ 0 → ∀ S', gc_gr S' P E T ch → gc_ea S S' → Q (.inr "java/lang/IllegalStateException", gc_h S' P R E))
    (h0 : gt_chk T r = 0 → ∀ S', gc_gr S' P E T ch → gc_ea S S' → gc_ar S' (gt_kahn T (gt_N T r)).2 → Q (.inl none, gc_h S' P R E)) :
    gx_X gc_P (d + 109) 80 (0, [some (.ref 0), some (.int (nI r))], [], gc_h S P R E, bc, bs) Q := by
  refine gd_M_refuseUnlessSound_0 ⟨0, 0, ⟨Nat.zero_le _, Nat.zero_le _⟩, gc_fault hg hr (fun S' g' e' ar' => gd_M_refuseUnlessSound_8 ⟨fun h => ?_, fun h => ⟨⟨hbc, hbs⟩, ?_⟩⟩)⟩
  · have hc : gt_chk T r = 0 := (nI_eq (b := 0) (by have := gt_chk_le (T := T) r; omega) (by decide)).mp h
    exact h0 hc S' g' e' (ar' hc)
  · exact h1 (fun hc => h (by rw [hc]; rfl)) S' g' e'
/-- fill, after the check -/
theorem gc_fillR (hg : gc_gr S P E T ch) (hx : gc_xt S L x) {r : Nat} (hr : r < 4) (hc : gt_chk T r = 0) (ha : gc_ar S (gt_kahn T (gt_N T r)).2) {first : Nat} (hf : first ≤ L) {o5 o6 o7 o8 : Option Value}
    (hq : ∀ S' R', (∀ k, k < 9 ∨ 16 < k → S' k = S k) → (∀ p, first ≤ p → p ≤ L → ∃ f v, gc_row S' R' (10 * r + p) (gt_Ed L x T r p) f v (gt_Cd L x T r p) ∧ gt_isF L x T (r, p) f ∧ gt_isV L x T (r, p) v) → Q (.inl none, gc_h S' P R' E)) :
    gx_X gc_P (d + 107) 81 (0, [some (.ref 9), some (.ref 5), some (.ref 2), some (.int (nI L)), some (.int (nI first)), o5, o6, o7, o8], [], gc_h S P R E, bc, bs) Q := by
  obtain ⟨g1, g2⟩ := gt_chk_good hg.2.2.1 hr hc
  have hA : (fun k => gt_N T r k = true) = (fun k => k ∈ (gt_kahn T (gt_N T r)).2) := by funext k; exact propext (g2 k)
  rw [hA] at g1
  have hI := gt_kahn_I (R := T) (gt_N T r)
  refine gc_fill g1 (gt_idx_nd (gt_kahn_nd _)) (by have := hI.2.2.2.1; omega) hg ha hx.2.1 hx.2.2 hf (fun S' R' tc' hd' => hq S' R' tc' (fun p hp hpL => ?_))
  obtain ⟨F, V, hFV⟩ := hd'
  obtain ⟨k1, k2, k3, k4, k5⟩ := hFV r p ⟨(g2 r).mp (gt_N_self r), hpL, hp⟩
  exact ⟨F r p, V r p, k3, k4, k5⟩
/-- match -/
theorem gc_match (hg : gc_gr S P E T ch) (hx : gc_xt S L x) {a1 a2 : Int32} (hbc : 3 ≤ bc) (hbs : 18 ≤ bs)
    (h1 : ¬ ((¬ a1 < 0 ∧ a1 < 4) ∧ ¬ a2 < 0 ∧ ¬ nI L < a2) → Q (.inr "java/lang/IndexOutOfBoundsException", gc_h S P R E))
    (h2 : ∀ r p, r < 4 → p ≤ L → a1 = nI r → a2 = nI p → gt_chk T r ≠ 0 → ∀ S', gc_gr S' P E T ch → gc_ea S S' → Q (.inr "java/lang/IllegalStateException", gc_h S' P R E))
    (h0 : ∀ r p, r < 4 → p ≤ L → a1 = nI r → a2 = nI p → gt_chk T r = 0 → ∀ S' R' f v, gc_gr S' P E T ch → gc_eqX S S' → gc_lt S' R' ((gt_Cd L x T r p).take 40) f v → gt_isF L x T (r, p) f → gt_isV L x T (r, p) v → Q (.inl (some (.int (gc_e (gt_Ed L x T r p)))), gc_h S' P R' E)) :
    gx_X gc_P (d + 110) 79 (0, [some (.ref 0), some (.int a1), some (.int a2)], [], gc_h S P R E, bc, bs) Q := by
  refine gd_M_match_0 ⟨1, 6, ⟨by omega, by omega⟩, gc_refuse (d := d + 107) (Nat.le_refl _) (Nat.le_refl _) (fun h => h1 (fun hh => h hh.1)) (fun hr' => gd_M_match_4 ⟨fun h => gd_M_match_16 ⟨⟨by omega, by omega⟩, h1 (fun hh => hh.2.1 h)⟩, fun hp0 => ⟨fun hpL => ?_, fun h => gd_M_match_16 ⟨⟨by omega, by omega⟩, h1 (fun hh => hh.2.2 (by rw [hx.1] at h; exact h))⟩⟩⟩)⟩
  rw [hx.1] at hpL
  obtain ⟨r, hr, rfl⟩ := gp_rule hr'
  obtain ⟨p, hp31, rfl⟩ := nI_of hp0
  have hL9 := hx.2.1
  have hp : p ≤ L := Nat.le_of_not_lt (fun z => hpL (nI_lt z hp31))
  refine ⟨1, 6, ⟨by omega, by omega⟩, gc_sound (d := d) hg hr (Nat.le_refl _) (Nat.le_refl _) (fun hc S' g' e' => h2 r p hr hp rfl rfl hc S' g' e') (fun hc S1 g1 e1 a1 => gd_M_match_29 ?_)⟩
  have hx1 : gc_xt S1 L x := ⟨by rw [e1 0 6 (by omega) (by omega)]; exact hx.1, hL9, fun p hp => by rw [e1 2 p (by omega) (by omega)]; exact hx.2.2 p hp⟩
  rw [hx1.1]
  refine ⟨0, 0, ⟨Nat.zero_le _, Nat.zero_le _⟩, gc_fillR (d := d + 2) g1 hx1 hr hc a1 hp (fun S2 R2 t2 q2 => gd_M_match_49 ⟨0, 0, ⟨Nat.zero_le _, Nat.zero_le _⟩, gd_C_rowOf_0 (gd_M_match_55 ⟨0, 0, ⟨Nat.zero_le _, Nat.zero_le _⟩, gd_C_endOf_0 ?_⟩)⟩)⟩
  have ew : nI r * 10 + nI p = nI (10 * r + p) := by
    rw [show nI r * 10 = nI (r * 10) from (Int32.ofNat_mul r 10).symm, show nI (r * 10) + nI p = nI (r * 10 + p) from (Int32.ofNat_add (r * 10) p).symm, Nat.mul_comm]
  obtain ⟨f, v, row, hF, hV⟩ := q2 p (Nat.le_refl _) hp
  rw [ew, nI_clamp (show 10 * r + p < 2 ^ 31 by omega)]
  have row' : gc_row (gm_u S2 0 7 (nI (10 * r + p))) R2 (10 * r + p) (gt_Ed L x T r p) f v (gt_Cd L x T r p) := by
    obtain ⟨r1, r2, r3, r4, r5, r6⟩ := row
    refine ⟨?_, ?_, r3, r4, ?_, fun j a b hj hj' => ?_⟩
    · rw [gm_u_at, if_neg (by omega)]; exact r1
    · rw [gm_u_at, if_neg (by omega)]; exact r2
    · rw [gm_u_at, if_neg (by omega)]; exact r5
    · rw [gm_u_at, if_neg (by omega), gm_u_at, if_neg (by omega)]; exact r6 j a b hj hj'
  rw [show gm_u S2 0 7 (nI (10 * r + p)) 11 (10 * r + p) = gc_e (gt_Ed L x T r p) from row'.1]
  refine ⟨vp_in_nI (by omega) (by decide), gd_M_match_69 (h0 r p hr hp rfl rfl hc _ R2 f v (gc_gr_S (fun j => ?_) hg) (fun k j k1 k2 k3 => ?_) (gc_lt.of (by omega) (by rw [gm_u_at, if_pos ⟨rfl, rfl⟩]) row') hF hV)⟩
  · rw [gm_u_at, if_neg (by omega), t2 7 (by omega), e1 7 j (by omega) (by omega)]
  · rw [gm_u_at, if_neg (by omega), t2 k (by omega), e1 k j (by omega) k2]
/-- find -/
theorem gc_find (hg : gc_gr S P E T ch) (hx : gc_xt S L x) {a1 : Int32} {o2 : Option Value} (hbc : 3 ≤ bc) (hbs : 18 ≤ bs)
    (h1 : ¬ (¬ a1 < 0 ∧ a1 < 4) → Q (.inr "java/lang/IndexOutOfBoundsException", gc_h S P R E))
    (h2 : ∀ r, r < 4 → a1 = nI r → gt_chk T r ≠ 0 → ∀ S', gc_gr S' P E T ch → gc_ea S S' → Q (.inr "java/lang/IllegalStateException", gc_h S' P R E))
    (h0 : ∀ r, r < 4 → a1 = nI r → gt_chk T r = 0 → ∀ S' R' p f v, (gt_fst (gt_Ed L x T r) (L + 1) 0 = some p ∨ gt_fst (gt_Ed L x T r) (L + 1) 0 = none ∧ p = L) → p ≤ L → gc_gr S' P E T ch → gc_eqX S S' → gc_lt S' R' ((gt_Cd L x T r p).take 40) f v → gt_isF L x T (r, p) f → gt_isV L x T (r, p) v → Q (.inl (some (.int (gc_e (gt_fst (gt_Ed L x T r) (L + 1) 0)))), gc_h S' P R' E)) :
    gx_X gc_P (d + 110) 100 (0, [some (.ref 0), some (.int a1), o2], [], gc_h S P R E, bc, bs) Q := by
  refine gd_M_find_0 ⟨1, 6, ⟨by omega, by omega⟩, gc_refuse (d := d + 107) (Nat.le_refl _) (Nat.le_refl _) h1 (fun hr' => gd_M_find_4 ?_)⟩
  obtain ⟨r, hr, rfl⟩ := gp_rule hr'
  have hL9 := hx.2.1
  refine ⟨1, 6, ⟨by omega, by omega⟩, gc_sound (d := d) hg hr (Nat.le_refl _) (Nat.le_refl _) (fun hc S' g' e' => h2 r hr rfl hc S' g' e') (fun hc S1 g1 e1 a1 => gd_M_find_9 ?_)⟩
  have hx1 : gc_xt S1 L x := ⟨by rw [e1 0 6 (by omega) (by omega)]; exact hx.1, hL9, fun p hp => by rw [e1 2 p (by omega) (by omega)]; exact hx.2.2 p hp⟩
  rw [hx1.1]
  refine ⟨0, 0, ⟨Nat.zero_le _, Nat.zero_le _⟩, gc_fillR (d := d + 2) (first := 0) g1 hx1 hr hc a1 (Nat.zero_le _) (fun S2 R2 t2 q2 => gd_M_find_29 ?_)⟩
  have loop : ∀ (g p : Nat) (a7 : Int32), p + g = L + 1 → gt_fst (gt_Ed L x T r) (L + 1) 0 = gt_fst (gt_Ed L x T r) g p → (p = 0 ∨ a7 = nI (10 * r + (p - 1))) → (a7 = S2 0 7 ∨ p ≠ 0) →
      gx_X gc_P (d + 110) 100 (31, [some (.ref 0), some (.int (nI r)), some (.int (nI p))], [], gc_h (gm_u S2 0 7 a7) P R2 E, bc - 1 - 1 - 0, bs - 6 - 6 - 0) Q := by
    have ew : ∀ p, nI r * 10 + nI p = nI (10 * r + p) := fun p => by
      rw [show nI r * 10 = nI (r * 10) from (Int32.ofNat_mul r 10).symm, show nI (r * 10) + nI p = nI (r * 10 + p) from (Int32.ofNat_add (r * 10) p).symm, Nat.mul_comm]
    have gr2 : ∀ a, gc_gr (gm_u S2 0 7 a) P E T ch := fun a => gc_gr_S (fun j => by rw [gm_u_at, if_neg (by omega), t2 7 (by omega), e1 7 j (by omega) (by omega)]) hg
    have eq2 : ∀ a, gc_eqX S (gm_u S2 0 7 a) := fun a k j k1 k2 k3 => by rw [gm_u_at, if_neg (by omega), t2 k (by omega), e1 k j (by omega) k2]
    have h06 : ∀ a, gm_u S2 0 7 a 0 6 = nI L := fun a => by rw [gm_u_at, if_neg (by omega), t2 0 (by omega), hx1.1]
    have rowp : ∀ p a, p ≤ L → ∃ f v, gc_row (gm_u S2 0 7 a) R2 (10 * r + p) (gt_Ed L x T r p) f v (gt_Cd L x T r p) ∧ gt_isF L x T (r, p) f ∧ gt_isV L x T (r, p) v := fun p a hp => by
      obtain ⟨f, v, ⟨r1, r2, r3, r4, r5, r6⟩, hF, hV⟩ := q2 p (Nat.zero_le _) hp
      refine ⟨f, v, ⟨?_, ?_, r3, r4, ?_, fun j a b hj hj' => ?_⟩, hF, hV⟩
      · rw [gm_u_at, if_neg (by omega)]; exact r1
      · rw [gm_u_at, if_neg (by omega)]; exact r2
      · rw [gm_u_at, if_neg (by omega)]; exact r5
      · rw [gm_u_at, if_neg (by omega), gm_u_at, if_neg (by omega)]; exact r6 j a b hj hj'
    intro g
    induction g with
    | zero =>
      intro p a7 hp hf h7 h8
      have hpL : p = L + 1 := by omega
      subst hpL
      refine gd_M_find_31 ?_
      rw [h06]
      refine ⟨fun _ => ?_, fun h => absurd (nI_lt (by omega) (by omega)) h⟩
      rcases h7 with h | h
      · omega
      · obtain ⟨f, v, row, hF, hV⟩ := rowp L a7 (Nat.le_refl _)
        have hn : gt_fst (gt_Ed L x T r) (L + 1) 0 = none := hf
        have := h0 r hr rfl hc _ R2 L f v (.inr ⟨hn, rfl⟩) (Nat.le_refl _) (gr2 a7) (eq2 a7) (gc_lt.of (by omega) (by rw [gm_u_at, if_pos ⟨rfl, rfl⟩]; exact h) row) hF hV
        rw [hn] at this
        exact this
    | succ g ih =>
      intro p a7 hp hf h7 h8
      have hpL : p ≤ L := by omega
      refine gd_M_find_31 ?_
      rw [h06]
      refine ⟨fun h => absurd h (nI_nlt hpL (by omega)), fun _ => ⟨0, 0, ⟨Nat.zero_le _, Nat.zero_le _⟩, gd_C_rowOf_0 (gd_M_find_45 ⟨0, 0, ⟨Nat.zero_le _, Nat.zero_le _⟩, gd_C_endOf_0 ?_⟩)⟩⟩
      have euu : ∀ a b, gm_u (gm_u S2 0 7 a) 0 7 b = gm_u S2 0 7 b := fun a b => by
        funext k j
        rw [gm_u_at, gm_u_at, gm_u_at]
        split <;> rfl
      rw [ew, euu, nI_clamp (show 10 * r + p < 2 ^ 31 by omega)]
      obtain ⟨f, v, row, hF, hV⟩ := rowp p (nI (10 * r + p)) hpL
      rw [row.1]
      have hnn : gc_e (gt_Ed L x T r p) = -1 ↔ gt_Ed L x T r p = none := gc_e_none (fun q hq => by have := (gt_Ed_rng r p q trivial hpL hq).2.1; omega)
      refine ⟨vp_in_nI (by omega) (by decide), gd_M_find_59 ⟨fun h => ?_, fun h => ?_⟩⟩
      · have hn := hnn.mp h
        rw [show nI p + Int32.ofInt 1 = nI (p + 1) from nI_1 p]
        refine ih (p + 1) _ (by omega) ?_ (.inr (by rw [Nat.add_sub_cancel])) (.inr (by omega))
        rw [hf, gt_fst, hn]
        rfl
      · have hs : (gt_Ed L x T r p).isSome = true := by
          cases hh : gt_Ed L x T r p with
          | none => exact absurd (hnn.mpr hh) h
          | some q => rfl
        have hfst : gt_fst (gt_Ed L x T r) (L + 1) 0 = some p := by rw [hf, gt_fst, if_pos hs]
        have := h0 r hr rfl hc _ R2 p f v (.inl hfst) hpL (gr2 _) (eq2 _) (gc_lt.of (by omega) (by rw [gm_u_at, if_pos ⟨rfl, rfl⟩]) row) hF hV
        rw [hfst] at this
        exact this
  have e7 : gm_u S2 0 7 (S2 0 7) = S2 := by
    funext k j
    rw [gm_u_at]
    split
    · rename_i h; rw [h.1, h.2]
    · rfl
  have := loop (L + 1) 0 (S2 0 7) (by omega) rfl (.inl rfl) (.inl rfl)
  rw [e7] at this
  exact this
/-- captures -/
theorem gc_captures {cp : List (Nat × Nat)} {f : Nat} {v : Nat → Bool} (hl : gc_lt S R cp f v) (hq : Q (.inl (some (.int (nI cp.length))), gc_h S P R E)) : gx_X gc_P (d + 2) 8 (0, [some (.ref 0)], [], gc_h S P R E, bc, bs) Q := by
  rcases hl with ⟨h7, rfl, rfl, rfl⟩ | ⟨w, hw, h7, h2, h3, h4, h5, h6, h8⟩
  · exact gd_M_captures_0 ⟨fun h => absurd h7 h, fun _ => gd_M_captures_23 hq⟩
  · refine gd_M_captures_0 ⟨fun _ => ⟨0, 0, ⟨Nat.zero_le _, Nat.zero_le _⟩, gd_C_keptIn_0 ?_⟩, fun h => ?_⟩
    · rw [h7, nI_clamp (show w < 2 ^ 31 by omega), h5]
      exact ⟨vp_in_nI hw (by decide), gd_M_captures_23 hq⟩
    · rw [h7] at h
      have := nI_pos (n := w) (by omega)
      rw [h] at this
      exact absurd (by decide) this
/-- farthest -/
theorem gc_farthest {cp : List (Nat × Nat)} {f : Nat} {v : Nat → Bool} (hl : gc_lt S R cp f v) (hq : Q (.inl (some (.int (nI f + -1))), gc_h S P R E)) : gx_X gc_P (d + 2) 10 (0, [some (.ref 0)], [], gc_h S P R E, bc, bs) Q := by
  rcases hl with ⟨h7, rfl, rfl, rfl⟩ | ⟨w, hw, h7, h2, h3, h4, h5, h6, h8⟩
  · exact gd_M_farthest_0 ⟨fun h => absurd h7 h, fun _ => gd_M_farthest_23 hq⟩
  · refine gd_M_farthest_0 ⟨fun _ => ⟨0, 0, ⟨Nat.zero_le _, Nat.zero_le _⟩, gd_C_farthestOf_0 ?_⟩, fun h => ?_⟩
    · rw [h7, nI_clamp (show w < 2 ^ 31 by omega), h2]
      exact ⟨vp_in_nI hw (by decide), gd_M_farthest_23 hq⟩
    · rw [h7] at h
      have := nI_pos (n := w) (by omega)
      rw [h] at this
      exact absurd (by decide) this
/-- capture -/
theorem gc_capture {cp : List (Nat × Nat)} {f : Nat} {v : Nat → Bool} (hl : gc_lt S R cp f v) {a1 a2 : Int32} (hbc : 1 ≤ bc) (hbs : 6 ≤ bs)
    (h1 : ¬ (¬ a1 < 0 ∧ a1 < nI cp.length ∧ ¬ a2 < 0 ∧ ¬ 1 < a2) → Q (.inr "java/lang/IndexOutOfBoundsException", gc_h S P R E))
    (h0 : ∀ k a b, a1 = nI k → cp[k]? = some (a, b) → ¬ a2 < 0 → ¬ 1 < a2 → Q (.inl (some (.int (if a2 = 0 then nI a else nI b))), gc_h S P R E)) :
    gx_X gc_P (d + 3) 101 (0, [some (.ref 0), some (.int a1), some (.int a2)], [], gc_h S P R E, bc, bs) Q := by
  have bad : ¬ (¬ a1 < 0 ∧ a1 < nI cp.length ∧ ¬ a2 < 0 ∧ ¬ 1 < a2) → gx_X gc_P (d + 3) 101 (21, [some (.ref 0), some (.int a1), some (.int a2)], [], gc_h S P R E, bc, bs) Q := fun h => gd_M_capture_21 ⟨⟨hbc, hbs⟩, h1 h⟩
  refine gd_M_capture_0 ⟨fun h => bad (fun hh => hh.1 h), fun hp => ⟨0, 0, ⟨Nat.zero_le _, Nat.zero_le _⟩, gc_captures hl (gd_M_capture_9 ⟨fun h => bad (fun hh => h hh.2.1), fun hlt => ⟨fun h => bad (fun hh => hh.2.2.1 h), fun hw0 => ⟨fun hw1 => ?_, fun h => bad (fun hh => hh.2.2.2 h)⟩⟩⟩)⟩⟩
  obtain ⟨k, hk31, rfl⟩ := nI_of hp
  have hk : k < cp.length := by
    rcases hl with ⟨_, rfl, _⟩ | ⟨w, hw, h7, h2, h3, h4, h5, h6, h8⟩
    · exact absurd hlt (nI_nlt (Nat.zero_le _) hk31)
    · exact (nI_ltI hk31 (by omega)).mp hlt
  rcases hl with ⟨_, rfl, _⟩ | ⟨w, hw, h7, h2, h3, h4, h5, h6, h8⟩
  · exact absurd hk (Nat.not_lt_zero _)
  · have ew : nI w * 40 + nI k = nI (40 * w + k) := by
      rw [show nI w * 40 = nI (w * 40) from (Int32.ofNat_mul w 40).symm, show nI (w * 40) + nI k = nI (w * 40 + k) from (Int32.ofNat_add (w * 40) k).symm, Nat.mul_comm]
    have hcl : (nI (40 * w + k)).toNatClampNeg = 40 * w + k := nI_clamp (by omega)
    obtain ⟨c1, c2⟩ := h8 k _ _ (List.getElem?_eq_getElem hk) (by omega)
    rw [Nat.zero_add] at c1 c2
    have hh := h0 k _ _ rfl (List.getElem?_eq_getElem hk) hw0 hw1
    refine ⟨fun hz => ⟨0, 0, ⟨Nat.zero_le _, Nat.zero_le _⟩, gd_C_captureEnd_0 ?_⟩, fun hz => ⟨0, 0, ⟨Nat.zero_le _, Nat.zero_le _⟩, gd_C_captureBegin_0 ?_⟩⟩
    · rw [h7, ew, hcl, c2]
      rw [if_neg hz] at hh
      exact ⟨vp_in_nI (by omega) (by decide), gd_M_capture_60 hh⟩
    · rw [h7, ew, hcl, c1]
      rw [if_pos hz] at hh
      exact ⟨vp_in_nI (by omega) (by decide), gd_M_capture_45 (gd_M_capture_60 hh)⟩
end GCN
