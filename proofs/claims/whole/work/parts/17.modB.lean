/-! The model: type, text, drop. Written by wip/tools/modA.py. -/
/-- all alike but the flag, the count in slot s, and the row c -/
def gm_eqx (c s : Nat) (S S' : Nat → Nat → Int32) : Prop := (∀ k j, k ≠ 0 → k ≠ c → S' k j = S k j) ∧ ∀ j, j ≠ 0 → j ≠ s → S' 0 j = S 0 j
section GMB
variable {d bc bs : Nat} {Q : gx_R → Prop} {S : Nat → Nat → Int32}
/-- the turns of the loop that puts characters -/
theorem gm_typeL {x : Int32} {l : List Nat} {n : Nat} {S0 : Nat → Nat → Int32} (hcs : gp_cs x = some l) (hle : n + l.length ≤ 20)
    (hq : ∀ S', gm_eqx 1 2 S0 S' → S' 0 0 = S0 0 0 → S' 0 2 = nI (n + l.length) → (∀ i, i < n → S' 1 i = S0 1 i) → (∀ i c, l[i]? = some c → S' 1 (n + i) = nI c) → Q (.inl (some (.int 1)), gm_h S')) :
    ∀ (f j : Nat) (S : Nat → Nat → Int32), j + f = l.length → gm_eqx 1 2 S0 S → S 0 0 = S0 0 0 → S 0 2 = nI (n + j) → (∀ i, i < n → S 1 i = S0 1 i) → (∀ i c, i < j → l[i]? = some c → S 1 (n + i) = nI c) →
    gx_X gm_P (d + 1) 4 (37, [some (.ref 0), some (.int x), some (.int (nI l.length)), some (.int (nI j))], [], gm_h S, bc, bs) Q
  | 0, j, S, hj, he, h0, hs, hlo, hhi => by
    have hl4 := gp_cs_len hcs
    refine gb_type_37 ⟨fun _ => hq S he h0 (by rw [hs, show n + j = n + l.length by omega]) hlo (fun i c hc => hhi i c ?_ hc), fun h => absurd h (nI_nlt (by omega) (by omega))⟩
    have := (List.getElem?_eq_some_iff.mp hc).1
    omega
  | f + 1, j, S, hj, he, h0, hs, hlo, hhi => by
    have hl4 := gp_cs_len hcs
    refine gb_type_37 ⟨fun h => absurd (nI_lt (by omega) (by omega)) h, fun _ => ⟨?_, ?_⟩⟩
    · rw [hs]; exact vp_in_nI (by omega) (by decide)
    · rw [hs, nI_clamp (by omega), gp_byte x (by omega), show nI j + Int32.ofInt 1 = nI (j + 1) from nI_1 j, show nI (n + j) + 1 = nI (n + (j + 1)) from nI_1 (n + j)]
      refine gm_typeL hcs hle hq f (j + 1) _ (by omega) ⟨fun k i hk0 hkc => ?_, fun i hi0 his => ?_⟩ ?_ ?_ (fun i hi => ?_) (fun i c hi hc => ?_)
      · rw [gm_u_at, gm_u_at, if_neg (by omega), if_neg (by omega)]; exact he.1 k i hk0 hkc
      · rw [gm_u_at, gm_u_at, if_neg (by omega), if_neg (by omega)]; exact he.2 i hi0 his
      · rw [gm_u_at, gm_u_at, if_neg (by omega), if_neg (by omega)]; exact h0
      · rw [gm_u_at, if_pos ⟨rfl, rfl⟩]
      · rw [gm_u_at, gm_u_at, if_neg (by omega), if_neg (by omega)]; exact hlo i hi
      · rw [gm_u_at, gm_u_at, if_neg (by omega)]
        by_cases hij : i = j
        · subst hij
          rw [if_pos ⟨rfl, rfl⟩, (gp_cs_at hcs hc).1]
        · rw [if_neg (by omega)]
          exact hhi i c (by omega) hc
/-- type -/
theorem gm_type {x : Int32} {n : Nat} {o2 o3 : Option Value} (hn : S 0 2 = nI n) (hle : n ≤ 20)
    (hq : match gp_cs x with
      | none => Q (.inl (some (.int 0)), gm_h (gm_u S 0 0 1))
      | some l => (20 < n + l.length → Q (.inl (some (.int 0)), gm_h (gm_u S 0 0 0))) ∧ (n + l.length ≤ 20 → ∀ S', gm_eqx 1 2 S S' → S' 0 0 = 0 → S' 0 2 = nI (n + l.length) → (∀ i, i < n → S' 1 i = S 1 i) → (∀ i c, l[i]? = some c → S' 1 (n + i) = nI c) → Q (.inl (some (.int 1)), gm_h S'))) :
    gx_X gm_P (d + 2) 4 (0, [some (.ref 0), some (.int x), o2, o3], [], gm_h S, bc, bs) Q := by
  refine gb_type_0 (gm_chars ?_)
  cases hcs : gp_cs x with
  | none =>
    rw [hcs] at hq
    refine gb_type_4 ⟨fun h => absurd (by decide) h, fun _ => gb_type_15 ⟨fun _ => gb_type_33 hq, fun h => absurd (by decide) h⟩⟩
  | some l =>
    rw [hcs] at hq
    have hl4 := gp_cs_len hcs
    have hge : ¬ nI l.length < 0 := nI_pos (by omega)
    refine gb_type_4 ⟨fun _ => gb_type_15 ⟨fun h => absurd h hge, fun _ => ⟨fun h => ?_, fun h => gb_type_33 (hq.1 ?_)⟩⟩, fun h => absurd h hge⟩
    · rw [hn, nI_add] at h
      have h2 : n + l.length ≤ 20 := Nat.le_of_not_lt (fun z => h (nI_lt (a := 20) z (by omega)))
      refine gm_typeL (S0 := gm_u S 0 0 0) hcs h2 (fun S' g1 g2 g3 g4 g5 => hq.2 h2 S' ⟨fun k j hk0 hkc => ?_, fun j hj0 hjs => ?_⟩ ?_ g3 (fun i hi => ?_) g5) l.length 0 _ (by omega) ⟨fun _ _ _ _ => rfl, fun _ _ _ => rfl⟩ rfl ?_ (fun _ _ => rfl) (fun i c hi _ => absurd hi (Nat.not_lt_zero _))
      · rw [g1.1 k j hk0 hkc, gm_u_at, if_neg (by omega)]
      · rw [g1.2 j hj0 hjs, gm_u_at, if_neg (by omega)]
      · rw [g2, gm_u_at, if_pos ⟨rfl, rfl⟩]
      · rw [g4 i hi, gm_u_at, if_neg (by omega)]
      · rw [gm_u_at, if_neg (by omega)]; exact hn
    · rw [hn, nI_add] at h
      exact (nI_ltI (a := 20) (by decide) (by omega)).mp h
/-- the turns of the loop that puts characters -/
theorem gm_textL {x : Int32} {l : List Nat} {n : Nat} {S0 : Nat → Nat → Int32} (hcs : gp_cs x = some l) (hle : n + l.length ≤ 9)
    (hq : ∀ S', gm_eqx 2 4 S0 S' → S' 0 0 = S0 0 0 → S' 0 4 = nI (n + l.length) → (∀ i, i < n → S' 2 i = S0 2 i) → (∀ i c, l[i]? = some c → S' 2 (n + i) = nI c) → Q (.inl (some (.int 1)), gm_h S')) :
    ∀ (f j : Nat) (S : Nat → Nat → Int32), j + f = l.length → gm_eqx 2 4 S0 S → S 0 0 = S0 0 0 → S 0 4 = nI (n + j) → (∀ i, i < n → S 2 i = S0 2 i) → (∀ i c, i < j → l[i]? = some c → S 2 (n + i) = nI c) →
    gx_X gm_P (d + 1) 5 (37, [some (.ref 0), some (.int x), some (.int (nI l.length)), some (.int (nI j))], [], gm_h S, bc, bs) Q
  | 0, j, S, hj, he, h0, hs, hlo, hhi => by
    have hl4 := gp_cs_len hcs
    refine gb_text_37 ⟨fun _ => hq S he h0 (by rw [hs, show n + j = n + l.length by omega]) hlo (fun i c hc => hhi i c ?_ hc), fun h => absurd h (nI_nlt (by omega) (by omega))⟩
    have := (List.getElem?_eq_some_iff.mp hc).1
    omega
  | f + 1, j, S, hj, he, h0, hs, hlo, hhi => by
    have hl4 := gp_cs_len hcs
    refine gb_text_37 ⟨fun h => absurd (nI_lt (by omega) (by omega)) h, fun _ => ⟨?_, ?_⟩⟩
    · rw [hs]; exact vp_in_nI (by omega) (by decide)
    · rw [hs, nI_clamp (by omega), gp_byte x (by omega), show nI j + Int32.ofInt 1 = nI (j + 1) from nI_1 j, show nI (n + j) + 1 = nI (n + (j + 1)) from nI_1 (n + j)]
      refine gm_textL hcs hle hq f (j + 1) _ (by omega) ⟨fun k i hk0 hkc => ?_, fun i hi0 his => ?_⟩ ?_ ?_ (fun i hi => ?_) (fun i c hi hc => ?_)
      · rw [gm_u_at, gm_u_at, if_neg (by omega), if_neg (by omega)]; exact he.1 k i hk0 hkc
      · rw [gm_u_at, gm_u_at, if_neg (by omega), if_neg (by omega)]; exact he.2 i hi0 his
      · rw [gm_u_at, gm_u_at, if_neg (by omega), if_neg (by omega)]; exact h0
      · rw [gm_u_at, if_pos ⟨rfl, rfl⟩]
      · rw [gm_u_at, gm_u_at, if_neg (by omega), if_neg (by omega)]; exact hlo i hi
      · rw [gm_u_at, gm_u_at, if_neg (by omega)]
        by_cases hij : i = j
        · subst hij
          rw [if_pos ⟨rfl, rfl⟩, (gp_cs_at hcs hc).1]
        · rw [if_neg (by omega)]
          exact hhi i c (by omega) hc
/-- text -/
theorem gm_text {x : Int32} {n : Nat} {o2 o3 : Option Value} (hn : S 0 4 = nI n) (hle : n ≤ 9)
    (hq : match gp_cs x with
      | none => Q (.inl (some (.int 0)), gm_h (gm_u S 0 0 1))
      | some l => (9 < n + l.length → Q (.inl (some (.int 0)), gm_h (gm_u S 0 0 0))) ∧ (n + l.length ≤ 9 → ∀ S', gm_eqx 2 4 S S' → S' 0 0 = 0 → S' 0 4 = nI (n + l.length) → (∀ i, i < n → S' 2 i = S 2 i) → (∀ i c, l[i]? = some c → S' 2 (n + i) = nI c) → Q (.inl (some (.int 1)), gm_h S'))) :
    gx_X gm_P (d + 2) 5 (0, [some (.ref 0), some (.int x), o2, o3], [], gm_h S, bc, bs) Q := by
  refine gb_text_0 (gm_chars ?_)
  cases hcs : gp_cs x with
  | none =>
    rw [hcs] at hq
    refine gb_text_4 ⟨fun h => absurd (by decide) h, fun _ => gb_text_15 ⟨fun _ => gb_text_33 hq, fun h => absurd (by decide) h⟩⟩
  | some l =>
    rw [hcs] at hq
    have hl4 := gp_cs_len hcs
    have hge : ¬ nI l.length < 0 := nI_pos (by omega)
    refine gb_text_4 ⟨fun _ => gb_text_15 ⟨fun h => absurd h hge, fun _ => ⟨fun h => ?_, fun h => gb_text_33 (hq.1 ?_)⟩⟩, fun h => absurd h hge⟩
    · rw [hn, nI_add] at h
      have h2 : n + l.length ≤ 9 := Nat.le_of_not_lt (fun z => h (nI_lt (a := 9) z (by omega)))
      refine gm_textL (S0 := gm_u S 0 0 0) hcs h2 (fun S' g1 g2 g3 g4 g5 => hq.2 h2 S' ⟨fun k j hk0 hkc => ?_, fun j hj0 hjs => ?_⟩ ?_ g3 (fun i hi => ?_) g5) l.length 0 _ (by omega) ⟨fun _ _ _ _ => rfl, fun _ _ _ => rfl⟩ rfl ?_ (fun _ _ => rfl) (fun i c hi _ => absurd hi (Nat.not_lt_zero _))
      · rw [g1.1 k j hk0 hkc, gm_u_at, if_neg (by omega)]
      · rw [g1.2 j hj0 hjs, gm_u_at, if_neg (by omega)]
      · rw [g2, gm_u_at, if_pos ⟨rfl, rfl⟩]
      · rw [g4 i hi, gm_u_at, if_neg (by omega)]
      · rw [gm_u_at, if_neg (by omega)]; exact hn
    · rw [hn, nI_add] at h
      exact (nI_ltI (a := 9) (by decide) (by omega)).mp h
theorem gp_in4 {x : Int32} (h : ¬ x < 0 ∧ x < 4) : vp_in x 4 := by
  obtain ⟨j, hj, rfl⟩ := nI_of h.1
  exact vp_in_nI ((nI_ltI (b := 4) hj (by decide)).mp h.2) (by decide)
/-- drop -/
theorem gm_drop {x : Int32} (hq : if ¬ x < 0 ∧ x < 4 then (if S 3 x.toNatClampNeg = 0 then Q (.inl (some (.int 0)), gm_h (gm_u S 0 0 0)) else Q (.inl (some (.int 1)), gm_h (gm_u (gm_u S 0 0 0) 3 x.toNatClampNeg 0))) else Q (.inl (some (.int 0)), gm_h (gm_u S 0 0 1))) :
    gx_X gm_P (d + 2) 20 (0, [some (.ref 0), some (.int x)], [], gm_h S, bc, bs) Q := by
  refine gb_drop_0 (gm_isRule ?_)
  by_cases hr : ¬ x < 0 ∧ x < 4
  · rw [if_pos hr] at hq ⊢
    have hin : vp_in x 4 := gp_in4 hr
    refine gb_drop_5 ⟨fun h => absurd h (by decide), fun _ => gb_drop_13 ⟨fun h => absurd h (by decide), fun _ => ⟨hin, fun h => ⟨hin, ?_⟩, fun h => gb_drop_32 ?_⟩⟩⟩
    · rwa [if_neg h] at hq
    · rwa [if_pos h] at hq
  · rw [if_neg hr] at hq ⊢
    exact gb_drop_5 ⟨fun _ => gb_drop_13 ⟨fun _ => gb_drop_32 hq, fun h => absurd (by decide) h⟩, fun h => absurd rfl h⟩
end GMB
