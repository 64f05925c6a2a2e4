/-! Class Grammar: arranging the rules, faults. -/
theorem gp_and_aux : ∀ a b c d e f g h : Bool, nI (a.toNat + 2 * b.toNat + 4 * c.toNat + 8 * d.toNat) &&& nI (e.toNat + 2 * f.toNat + 4 * g.toNat + 8 * h.toNat) = nI ((a && e).toNat + 2 * (b && f).toNat + 4 * (c && g).toNat + 8 * (d && h).toNat) := by decide +kernel
theorem gp_m_and (v w : Nat → Bool) : gp_m v &&& gp_m w = gp_m (fun k => v k && w k) := gp_and_aux _ _ _ _ _ _ _ _
theorem gp_out_aux : ∀ a b c d e f g h : Bool, nI (a.toNat + 2 * b.toNat + 4 * c.toNat + 8 * d.toNat) &&& (nI (e.toNat + 2 * f.toNat + 4 * g.toNat + 8 * h.toNat) ^^^ (-1)) = nI ((a && !e).toNat + 2 * (b && !f).toNat + 4 * (c && !g).toNat + 8 * (d && !h).toNat) := by decide +kernel
theorem gp_m_out (v w : Nat → Bool) : gp_m v &&& (gp_m w ^^^ (-1)) = gp_m (fun k => v k && !(w k)) := gp_out_aux _ _ _ _ _ _ _ _
theorem gp_m_0 {v : Nat → Bool} : gp_m v = 0 ↔ gt_any v = false := by
  constructor
  · intro h
    rw [← gp_m_zero] at h
    have h0 := fun k hk => gp_m_inj h (k := k) hk
    simp only [gt_any, h0 0 (by omega), h0 1 (by omega), h0 2 (by omega), h0 3 (by omega), Bool.or_self]
  · intro h
    rw [← gp_m_zero]
    refine gp_m_congr (fun k hk => ?_)
    cases hv : v k with
    | false => rfl
    | true => rw [gt_any_iff.mpr ⟨k, hk, hv⟩] at h; cases h
section GCH
variable {d bc bs : Nat} {S : Nat → Nat → Int32} {P : Nat → Option Nat} {R : Nat → Int64} {E : gx_H} {Q : gx_R → Prop} {T : Nat → Option gt_T} {ch : Nat → Nat → Nat}
theorem gc_gr_S {S' : Nat → Nat → Int32} (h : ∀ j, S' 7 j = S 7 j) (hg : gc_gr S P E T ch) : gc_gr S' P E T ch :=
  ⟨hg.1, hg.2.1, hg.2.2.1, fun r j hr hj => by rw [h]; exact hg.2.2.2.1 r j hr hj, hg.2.2.2.2⟩
/-- only what is arranged may differ -/
def gc_ea (S S' : Nat → Nat → Int32) : Prop := ∀ k j, k ≠ 8 → (k = 5 → j ≠ 3) → S' k j = S k j
/-- the rules stand arranged -/
def gc_ar (S : Nat → Nat → Int32) (l : List Nat) : Prop := S 5 3 = nI l.length ∧ ∀ i r, l[i]? = some r → S 8 i = nI r
theorem gc_arr1 {S0 : Nat → Nat → Int32} (hg : gc_gr S P E T ch) {N : Nat → Bool} {a : (Nat → Bool) × List Nat} (hI : gt_kI T N a) (hs : gc_ar S a.2) (he : gc_ea S0 S) {k : Nat} (hk : k < 4) {o1 o6 : Option Value} {a4 : Int32}
    (x : ∀ (S' : Nat → Nat → Int32) (o6 : Option Value), gc_gr S' P E T ch → gt_kI T N (gt_k1 T k a) → gc_ar S' (gt_k1 T k a).2 → gc_ea S0 S' → gx_X gc_P (d + 107) 63 (19, [some (.ref 5), o1, some (.int (gp_m (gt_Em T))), some (.int (gp_m (gt_k1 T k a).1)), some (.int a4), some (.int (nI (k + 1))), o6], [], gc_h S' P R E, bc, bs) Q) :
    gx_X gc_P (d + 107) 63 (19, [some (.ref 5), o1, some (.int (gp_m (gt_Em T))), some (.int (gp_m a.1)), some (.int a4), some (.int (nI k)), o6], [], gc_h S P R E, bc, bs) Q := by
  have e1 : nI k + Int32.ofInt 1 = nI (k + 1) := nI_1 k
  have hcl : (nI k).toNatClampNeg = k := nI_clamp (by omega)
  have hI' := gt_kI_1 hI hk
  have no : gt_free T a.1 k = false → ∀ o6 : Option Value, gx_X gc_P (d + 107) 63 (89, [some (.ref 5), o1, some (.int (gp_m (gt_Em T))), some (.int (gp_m a.1)), some (.int a4), some (.int (nI k)), o6], [], gc_h S P R E, bc, bs) Q := fun hf o6 => by
    have e : gt_k1 T k a = a := by unfold gt_k1; rw [hf]; rfl
    refine gd_G_arrange_89 ?_
    rw [e1]
    rw [e] at x hI'
    exact x S o6 hg hI' hs he
  refine gd_G_arrange_19 ⟨fun h => absurd (nI_lt (b := 4) hk (by decide)) h, fun _ => ?_⟩
  rw [hcl]
  refine ⟨vp_in_nI hk (by decide), fun hp => ⟨0, 0, ⟨Nat.zero_le _, Nat.zero_le _⟩, gc_has hk ?_⟩, fun p hp => ⟨0, 0, ⟨Nat.zero_le _, Nat.zero_le _⟩, gc_has hk ?_⟩⟩
  · have hf : gt_free T a.1 k = false := by
      cases ht : T k with
      | none => simp [gt_free, ht]
      | some t =>
        obtain ⟨w, hw, _⟩ := hg.2.1 k t ht
        rw [hw] at hp
        cases hp
    exact gd_G_arrange_40z ⟨fun _ => no hf _, fun _ => no hf _⟩
  · cases ht : T k with
    | none => rw [hg.1 k hk ht] at hp; cases hp
    | some t =>
      obtain ⟨w, hw, htr, hht⟩ := hg.2.1 k t ht
      rw [hw] at hp
      cases hp
      refine gd_G_arrange_40 ⟨fun h => no (by simp [gt_free, (gp_b_0 _).mp h]) _, fun h => ?_⟩
      have hv := gp_b_1 h
      have ha := (gc_starts (S := S) (P := P) (R := R) (Em := gt_Em T) t).1 p (d + 100) htr (by omega)
      have hst : gt_ST T k = gt_sts (gt_Em T) t := by funext j; simp [gt_ST, ht]
      refine gc_an_call ha (by decide) (gd_G_arrange_54 ?_)
      rw [gp_m_and, gp_m_one hk, gp_m_out]
      refine ⟨fun h' => no ?_ _, fun h' => ?_⟩
      · have : gt_any (fun k => gt_sts (gt_Em T) t k && a.1 k) = true := by
          cases hh : gt_any (fun k => gt_sts (gt_Em T) t k && a.1 k) with
          | true => rfl
          | false => exact absurd (gp_m_0.mpr hh) h'
        simp [gt_free, hst, this]
      · have hf : gt_free T a.1 k = true := by simp [gt_free, hv, ht, hst, gp_m_0.mp h']
        have e : gt_k1 T k a = (fun j => a.1 j && !(j == k), a.2 ++ [k]) := by unfold gt_k1; rw [hf]; rfl
        have hlen : a.2.length < 4 := by
          have := hI.2.2.2.1
          have h2 := gt_cnt_lt (S := fun _ => false) (T := a.1) (fun _ h => by cases h) hk rfl hv
          omega
        have hc2 : (nI a.2.length).toNatClampNeg = a.2.length := nI_clamp (by omega)
        rw [hs.1, hc2]
        refine ⟨vp_in_nI hlen (by decide), gd_G_arrange_89 ?_⟩
        rw [e1]
        rw [e] at x hI'
        refine x _ _ (gc_gr_S (fun j => ?_) hg) hI' ⟨?_, fun i r hi => ?_⟩ (fun k' j' h1 h2 => ?_)
        · rw [gm_u_at, if_neg (by omega), gm_u_at, if_neg (by omega)]
        · rw [gm_u_at, if_pos ⟨rfl, rfl⟩, List.length_append]
          exact (Int32.ofNat_add a.2.length 1).symm
        · rw [gm_u_at, if_neg (by omega), gm_u_at]
          rcases Nat.lt_or_ge i a.2.length with h | h
          · rw [if_neg (by omega)]
            rw [List.getElem?_append_left h] at hi
            exact hs.2 i r hi
          · rw [List.getElem?_append_right h] at hi
            have hi1 := (List.getElem?_eq_some_iff.mp hi).1
            have hi0 : i - a.2.length = 0 := by simp at hi1; omega
            rw [hi0] at hi
            cases hi
            rw [if_pos ⟨rfl, by omega⟩]
        · rw [gm_u_at, if_neg (by omega), gm_u_at, if_neg (by omega)]
          exact he k' j' h1 h2
theorem gc_arr4 {S0 : Nat → Nat → Int32} (hg : gc_gr S P E T ch) {N : Nat → Bool} {a : (Nat → Bool) × List Nat} (hI : gt_kI T N a) (hs : gc_ar S a.2) (he : gc_ea S0 S) {i : Nat} (hi : i < 4) {o1 o5 o6 : Option Value}
    (x : ∀ (S' : Nat → Nat → Int32) (o5 o6 : Option Value), gc_gr S' P E T ch → gt_kI T N (gt_k4 T a) → gc_ar S' (gt_k4 T a).2 → gc_ea S0 S' → gx_X gc_P (d + 107) 63 (10, [some (.ref 5), o1, some (.int (gp_m (gt_Em T))), some (.int (gp_m (gt_k4 T a).1)), some (.int (nI (i + 1))), o5, o6], [], gc_h S' P R E, bc, bs) Q) :
    gx_X gc_P (d + 107) 63 (10, [some (.ref 5), o1, some (.int (gp_m (gt_Em T))), some (.int (gp_m a.1)), some (.int (nI i)), o5, o6], [], gc_h S P R E, bc, bs) Q := by
  refine gd_G_arrange_10 ⟨fun h => absurd (nI_lt (b := 4) hi (by decide)) h, fun _ => gc_arr1 (k := 0) hg hI hs he (by omega) (fun S1 _ g1 i1 s1 e1 => gc_arr1 (k := 1) g1 i1 s1 e1 (by omega) (fun S2 _ g2 i2 s2 e2 => gc_arr1 (k := 2) g2 i2 s2 e2 (by omega) (fun S3 _ g3 i3 s3 e3 => gc_arr1 (k := 3) g3 i3 s3 e3 (by omega) (fun S4 _ g4 i4 s4 e4 => gd_G_arrange_19 ⟨fun _ => ?_, fun h => absurd h (by decide)⟩))))⟩
  rw [show nI i + Int32.ofInt 1 = nI (i + 1) from nI_1 i]
  exact x S4 _ _ g4 i4 s4 e4
theorem gc_arrange (hg : gc_gr S P E T ch) {N : Nat → Bool} {o3 o4 o5 o6 : Option Value}
    (hq : ∀ S', gc_gr S' P E T ch → gc_ar S' (gt_kahn T N).2 → gc_ea S S' → Q (.inl (some (.int (gp_b (!(gt_any (gt_kahn T N).1))))), gc_h S' P R E)) :
    gx_X gc_P (d + 107) 63 (0, [some (.ref 5), some (.int (gp_m N)), some (.int (gp_m (gt_Em T))), o3, o4, o5, o6], [], gc_h S P R E, bc, bs) Q := by
  refine gd_G_arrange_0 ?_
  refine gc_arr4 (S0 := S) (a := (N, [])) (i := 0) (gc_gr_S (fun j => ?_) hg) (gt_kI_0 N) ⟨?_, fun i r h => ?_⟩ (fun k j h1 h2 => ?_) (by omega) (fun S1 _ _ g1 i1 s1 e1 => gc_arr4 (i := 1) g1 i1 s1 e1 (by omega) (fun S2 _ _ g2 i2 s2 e2 => gc_arr4 (i := 2) g2 i2 s2 e2 (by omega) (fun S3 _ _ g3 i3 s3 e3 => gc_arr4 (i := 3) g3 i3 s3 e3 (by omega) (fun S4 _ _ g4 i4 s4 e4 => gd_G_arrange_10 ⟨fun _ => ⟨fun h => gd_G_arrange_110 ⟨rfl, ?_⟩, fun h => gd_G_arrange_110 ⟨rfl, ?_⟩⟩, fun h => absurd h (by decide)⟩))))
  · rw [gm_u_at, if_neg (by omega)]
  · rw [gm_u_at, if_pos ⟨rfl, rfl⟩]
    rfl
  · cases h
  · rw [gm_u_at, if_neg (by omega)]
  · have := hq S4 g4 s4 e4
    have hn : gt_any (gt_kahn T N).1 = true := by
      cases hh : gt_any (gt_kahn T N).1 with
      | true => rfl
      | false => exact absurd (gp_m_0.mpr hh) h
    rw [hn] at this
    exact this
  · have := hq S4 g4 s4 e4
    rw [show gt_any (gt_kahn T N).1 = false from gp_m_0.mp h] at this
    exact this
/-- someGoesRound -/
theorem gc_some1 (hg : gc_gr S P E T ch) {k : Nat} (hk : k < 4) {v : Nat → Bool} {o4 : Option Value} (h1 : v k = true → gt_GR T k = true → Q (.inl (some (.int 1)), gc_h S P R E))
    (x : ∀ o4 : Option Value, (v k && gt_GR T k) = false → gx_X gc_P (d + 107) 71 (2, [some (.ref 5), some (.int (gp_m v)), some (.int (gp_m (gt_Em T))), some (.int (nI (k + 1))), o4], [], gc_h S P R E, bc, bs) Q) :
    gx_X gc_P (d + 107) 71 (2, [some (.ref 5), some (.int (gp_m v)), some (.int (gp_m (gt_Em T))), some (.int (nI k)), o4], [], gc_h S P R E, bc, bs) Q := by
  have e1 : nI k + Int32.ofInt 1 = nI (k + 1) := nI_1 k
  have hcl : (nI k).toNatClampNeg = k := nI_clamp (by omega)
  have no : (v k && gt_GR T k) = false → ∀ o4 : Option Value, gx_X gc_P (d + 107) 71 (39, [some (.ref 5), some (.int (gp_m v)), some (.int (gp_m (gt_Em T))), some (.int (nI k)), o4], [], gc_h S P R E, bc, bs) Q := fun h o4 => gd_G_someGoesRound_39 (by rw [e1]; exact x o4 h)
  refine gd_G_someGoesRound_2 ⟨fun h => absurd (nI_lt (b := 4) hk (by decide)) h, fun _ => ?_⟩
  rw [hcl]
  refine ⟨vp_in_nI hk (by decide), fun hp => ⟨0, 0, ⟨Nat.zero_le _, Nat.zero_le _⟩, gc_has hk ?_⟩, fun p hp => ⟨0, 0, ⟨Nat.zero_le _, Nat.zero_le _⟩, gc_has hk ?_⟩⟩
  · have hf : (v k && gt_GR T k) = false := by
      cases ht : T k with
      | none => simp [gt_GR, ht]
      | some t =>
        obtain ⟨w, hw, _⟩ := hg.2.1 k t ht
        rw [hw] at hp
        cases hp
    exact gd_G_someGoesRound_20z ⟨fun _ => no hf _, fun _ => no hf _⟩
  · cases ht : T k with
    | none => rw [hg.1 k hk ht] at hp; cases hp
    | some t =>
      obtain ⟨w, hw, htr, hht⟩ := hg.2.1 k t ht
      rw [hw] at hp
      cases hp
      have hst : gt_GR T k = gt_grd (gt_Em T) t := by simp [gt_GR, ht]
      refine gd_G_someGoesRound_20 ⟨fun h => no (by rw [(gp_b_0 _).mp h]; rfl) _, fun h => ?_⟩
      have ha := (gc_goesRound (S := S) (P := P) (R := R) (Em := gt_Em T) t).1 p (d + 100) htr (by omega)
      refine gc_an_call ha (by decide) (gd_G_someGoesRound_34 ⟨fun h' => no ?_ _, fun h' => h1 (gp_b_1 h) ?_⟩)
      · rw [hst, (gp_b_0 _).mp h', Bool.and_false]
      · rw [hst, gp_b_1 h']
theorem gc_someRound (hg : gc_gr S P E T ch) {v : Nat → Bool} {o3 o4 : Option Value} (hq : Q (.inl (some (.int (gp_b (gt_any (fun k => v k && gt_GR T k))))), gc_h S P R E)) :
    gx_X gc_P (d + 107) 71 (0, [some (.ref 5), some (.int (gp_m v)), some (.int (gp_m (gt_Em T))), o3, o4], [], gc_h S P R E, bc, bs) Q := by
  have bad : ∀ k, k < 4 → v k = true → gt_GR T k = true → Q (.inl (some (.int 1)), gc_h S P R E) := fun k hk hv ht => by
    have : gt_any (fun k => v k && gt_GR T k) = true := gt_any_iff.mpr ⟨k, hk, by simp [hv, ht]⟩
    rw [this] at hq
    exact hq
  refine gd_G_someGoesRound_0 (gc_some1 (k := 0) hg (by omega) (bad 0 (by omega)) (fun _ h0 => gc_some1 (k := 1) hg (by omega) (bad 1 (by omega)) (fun _ h1 => gc_some1 (k := 2) hg (by omega) (bad 2 (by omega)) (fun _ h2 => gc_some1 (k := 3) hg (by omega) (bad 3 (by omega)) (fun _ h3 => gd_G_someGoesRound_2 ⟨fun _ => ?_, fun h => absurd h (by decide)⟩)))))
  have : gt_any (fun k => v k && gt_GR T k) = false := by simp only [gt_any, h0, h1, h2, h3, Bool.or_self]
  rw [this] at hq
  exact hq
/-- fault: as the document checks; where it is 0 the rules stand arranged -/
theorem gc_fault (hg : gc_gr S P E T ch) {r : Nat} (hr : r < 4) {o2 o3 : Option Value}
    (hq : ∀ S', gc_gr S' P E T ch → gc_ea S S' → (gt_chk T r = 0 → gc_ar S' (gt_kahn T (gt_N T r)).2) → Q (.inl (some (.int (nI (gt_chk T r)))), gc_h S' P R E)) :
    gx_X gc_P (d + 108) 50 (0, [some (.ref 5), some (.int (nI r)), o2, o3], [], gc_h S P R E, bc, bs) Q := by
  refine gd_G_fault_0 ⟨0, 0, ⟨Nat.zero_le _, Nat.zero_le _⟩, gc_neededBy (d := d + 105) hg hr (gd_G_fault_5 ⟨0, 0, ⟨Nat.zero_le _, Nat.zero_le _⟩, gc_allDefined (d := d + 105) hg (gd_G_fault_11 ⟨fun h => ?_, fun h => ?_⟩)⟩)⟩
  · have ho : gt_open T r = false := by
      have := gp_b_1 h
      cases hh : gt_open T r with
      | false => rfl
      | true => unfold gt_open at hh; rw [hh] at this; cases this
    refine ⟨0, 0, ⟨Nat.zero_le _, Nat.zero_le _⟩, gc_empties (d := d + 1) hg (gd_G_fault_20 ⟨0, 0, ⟨Nat.zero_le _, Nat.zero_le _⟩, gc_arrange (d := d) hg (fun S' g' ar' e' => gd_G_fault_27 ⟨fun h2 => ⟨0, 0, ⟨Nat.zero_le _, Nat.zero_le _⟩, gc_someRound (d := d) g' (gd_G_fault_38 ⟨fun h3 => gd_G_fault_46 ?_, fun h3 => gd_G_fault_46 ?_⟩)⟩, fun h2 => ?_⟩)⟩)⟩
    · have hc : gt_circ T r = false := gt_kahn_circ hg.2.2.1 (fun k => by
        have h4 := gp_b_1 h2
        cases hk : (gt_kahn T (gt_N T r)).1 k with
        | false => rfl
        | true =>
          have hkN := (gt_kahn_I (R := T) (gt_N T r)).1 k hk
          rw [gt_any_iff.mpr ⟨k, gt_N_lt hg.2.2.1 hr k hkN, hk⟩] at h4
          cases h4)
      have hl : gt_loop T r = false := (gp_b_0 _).mp h3
      have hh := hq S' g' e' (fun _ => ar')
      have ec : gt_chk T r = 0 := by unfold gt_chk; rw [ho, hc, hl]; rfl
      rw [ec] at hh
      exact hh
    · have hc : gt_circ T r = false := gt_kahn_circ hg.2.2.1 (fun k => by
        have h4 := gp_b_1 h2
        cases hk : (gt_kahn T (gt_N T r)).1 k with
        | false => rfl
        | true =>
          have hkN := (gt_kahn_I (R := T) (gt_N T r)).1 k hk
          rw [gt_any_iff.mpr ⟨k, gt_N_lt hg.2.2.1 hr k hkN, hk⟩] at h4
          cases h4)
      have hl : gt_loop T r = true := gp_b_1 h3
      have hh := hq S' g' e' (fun _ => ar')
      have ec : gt_chk T r = 3 := by unfold gt_chk; rw [ho, hc, hl]; rfl
      rw [ec] at hh
      exact hh
    · have hc : gt_circ T r = true := by
        cases hh : gt_circ T r with
        | true => rfl
        | false =>
          have h0 := gt_kahn_none hg.2.2.1 hr ho hh
          have h4 : (!(gt_any (gt_kahn T (gt_N T r)).1)) = false := (gp_b_0 _).mp h2
          simp only [gt_any, h0] at h4
          cases h4
      have hh := hq S' g' e' (fun _ => ar')
      have ec : gt_chk T r = 2 := by unfold gt_chk; rw [ho, hc]; rfl
      rw [ec] at hh
      exact hh
  · have ho : gt_open T r = true := by
      have h0 := (gp_b_0 _).mp h
      cases hh : gt_open T r with
      | true => rfl
      | false => unfold gt_open at hh; rw [hh] at h0; cases h0
    have ec : gt_chk T r = 1 := by unfold gt_chk; rw [ho]; rfl
    have hh := hq S hg (fun k j _ _ => rfl) (fun h => by rw [ec] at h; cases h)
    rw [ec] at hh
    exact hh
end GCH
