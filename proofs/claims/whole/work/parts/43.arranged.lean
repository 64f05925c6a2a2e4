/-! Arranged rules: there is no circle, and they are good for matching. -/
section GW
variable {R : Nat → Option gt_T}
theorem gt_N_lt (hw : gt_wf R) {r : Nat} (hr : r < 4) : ∀ k, gt_N R r k = true → k < 4 := gt_clo_least (fun k h => by
  have e : k = r := by simpa using h
  omega) (fun a b _ h => (gt_U_lt hw a b h).2)
theorem gt_N_self (r : Nat) : gt_N R r r = true := gt_clo_in (by simp)
theorem gt_N_closed (hw : gt_wf R) {r a b : Nat} (h : gt_N R r a = true) (hab : gt_U R a b = true) : gt_N R r b = true := gt_clo_closed (gt_U_lt hw) h hab
theorem gt_ST_lt (hw : gt_wf R) : ∀ r k, gt_ST R r k = true → r < 4 ∧ k < 4 := fun r k h => gt_U_lt hw r k (gt_ST_U r k h)
/-- the place of a rule among the arranged ones -/
def gt_o (ar : List Nat) (r : Nat) : Nat := ar.idxOf r
theorem gt_o_lt {N : Nat → Bool} {a : (Nat → Bool) × List Nat} (h : gt_kI R N a) {r k : Nat} (hr : r ∈ a.2) (hk : k < 4) (hs : gt_ST R r k = true) (hN : N k = true) : gt_o a.2 k < gt_o a.2 r := by
  obtain ⟨u, v, e, hu⟩ := List.eq_append_cons_of_mem hr
  have h1 : k ∈ u := h.2.2.2.2 u r v e k hk hs hN
  unfold gt_o
  rw [e, List.idxOf_append, if_pos h1, List.idxOf_append, if_neg hu, List.idxOf_cons_self]
  have := List.idxOf_lt_length_iff.mpr h1
  omega
theorem gt_pigeon {a b c d e : Nat} (ha : a < 4) (hb : b < 4) (hc : c < 4) (hd : d < 4) (he : e < 4) : a = b ∨ a = c ∨ a = d ∨ a = e ∨ b = c ∨ b = d ∨ b = e ∨ c = d ∨ c = e ∨ d = e := by omega
theorem gt_kahn_none (hw : gt_wf R) {r : Nat} (hr : r < 4) (hop : gt_open R r = false) (hc : gt_circ R r = false) : ∀ k, (gt_kahn R (gt_N R r)).1 k = false := fun k => by
  cases hk : (gt_kahn R (gt_N R r)).1 k with
  | false => rfl
  | true =>
    exfalso
    have hI := gt_kahn_I (R := R) (gt_N R r)
    have hst := gt_kahn_stuck (R := R) (gt_N R r)
    have hsucc : ∀ a, (gt_kahn R (gt_N R r)).1 a = true → ∃ b, (gt_kahn R (gt_N R r)).1 b = true ∧ gt_ST R a b = true := fun a ha => by
      have hNa := hI.1 a ha
      have h4 := gt_N_lt hw hr a hNa
      have hf := gt_f4_free hst h4
      have hs : (R a).isSome = true := by
        cases h : R a with
        | some t => rfl
        | none =>
          have : gt_open R r = true := gt_any_iff.mpr ⟨a, h4, by simp [hNa, h]⟩
          rw [this] at hop; cases hop
      unfold gt_free at hf
      rw [ha, hs] at hf
      simp at hf
      obtain ⟨b, hb, h5⟩ := gt_any_iff.mp hf
      obtain ⟨h6, h7⟩ := Bool.and_eq_true_iff.mp h5
      exact ⟨b, h7, h6⟩
    have hlt : ∀ a, (gt_kahn R (gt_N R r)).1 a = true → a < 4 := fun a ha => gt_N_lt hw hr a (hI.1 a ha)
    have hno : ∀ a, (gt_kahn R (gt_N R r)).1 a = true → gt_clo (gt_ST R) (gt_ST R a) a = true → False := fun a ha h => by
      have : gt_circ R r = true := gt_any_iff.mpr ⟨a, hlt a ha, by simp [hI.1 a ha, h]⟩
      rw [this] at hc; cases hc
    have cl : ∀ {a b c : Nat}, gt_clo (gt_ST R) (gt_ST R a) b = true → gt_ST R b c = true → gt_clo (gt_ST R) (gt_ST R a) c = true := fun h1 h2 => gt_clo_closed (gt_ST_lt hw) h1 h2
    obtain ⟨b, hb, kb⟩ := hsucc k hk
    obtain ⟨c, hc', bc⟩ := hsucc b hb
    obtain ⟨d, hd, cd⟩ := hsucc c hc'
    obtain ⟨e, he, de⟩ := hsucc d hd
    have K1 := gt_clo_in (U := gt_ST R) kb
    have K2 := cl K1 bc
    have K3 := cl K2 cd
    have K4 := cl K3 de
    have B1 := gt_clo_in (U := gt_ST R) bc
    have B2 := cl B1 cd
    have B3 := cl B2 de
    have C1 := gt_clo_in (U := gt_ST R) cd
    have C2 := cl C1 de
    have D1 := gt_clo_in (U := gt_ST R) de
    rcases gt_pigeon (hlt k hk) (hlt b hb) (hlt c hc') (hlt d hd) (hlt e he) with h | h | h | h | h | h | h | h | h | h
    · exact hno k hk (h ▸ K1)
    · exact hno k hk (h ▸ K2)
    · exact hno k hk (h ▸ K3)
    · exact hno k hk (h ▸ K4)
    · exact hno b hb (h ▸ B1)
    · exact hno b hb (h ▸ B2)
    · exact hno b hb (h ▸ B3)
    · exact hno c hc' (h ▸ C1)
    · exact hno c hc' (h ▸ C2)
    · exact hno d hd (h ▸ D1)
theorem gt_kahn_circ (hw : gt_wf R) {r : Nat} (hl : ∀ k, (gt_kahn R (gt_N R r)).1 k = false) : gt_circ R r = false := by
  cases hc : gt_circ R r with
  | false => rfl
  | true =>
    exfalso
    have hI := gt_kahn_I (R := R) (gt_N R r)
    have hin : ∀ a, gt_N R r a = true → a ∈ (gt_kahn R (gt_N R r)).2 := fun a ha => by
      rcases hI.2.1 a ha with h | h
      · rw [hl a] at h; cases h
      · exact h
    obtain ⟨k, hk, h1⟩ := gt_any_iff.mp hc
    obtain ⟨hN, hcl⟩ := Bool.and_eq_true_iff.mp h1
    have h2 := gt_clo_least (U := gt_ST R) (S := gt_ST R k) (P := fun j => gt_N R r j = true ∧ gt_o (gt_kahn R (gt_N R r)).2 j < gt_o (gt_kahn R (gt_N R r)).2 k) (fun j hj => ?_) (fun a b ha hab => ?_) k hcl
    · omega
    · have hNj := gt_N_closed hw hN (gt_ST_U k j hj)
      exact ⟨hNj, gt_o_lt hI (hin k hN) (gt_ST_lt hw k j hj).2 hj hNj⟩
    · have hNb := gt_N_closed hw ha.1 (gt_ST_U a b hab)
      have := gt_o_lt hI (hin a ha.1) (gt_ST_lt hw a b hab).2 hab hNb
      exact ⟨hNb, by omega⟩
/-- a rule whose check answers 0: it and those that it uses are good for matching, in the order in which they are arranged -/
theorem gt_chk_good (hw : gt_wf R) {r : Nat} (hr : r < 4) (h : gt_chk R r = 0) : gt_good R (gt_Em R) (fun k => gt_N R r k = true) (gt_o (gt_kahn R (gt_N R r)).2) ∧ ∀ k, gt_N R r k = true ↔ k ∈ (gt_kahn R (gt_N R r)).2 := by
  unfold gt_chk at h
  cases h1 : gt_open R r with
  | true => rw [h1] at h; cases h
  | false =>
    rw [h1] at h
    cases h2 : gt_circ R r with
    | true => rw [h2] at h; cases h
    | false =>
      rw [h2] at h
      cases h3 : gt_loop R r with
      | true => rw [h3] at h; cases h
      | false =>
        have hI := gt_kahn_I (R := R) (gt_N R r)
        have hl := gt_kahn_none hw hr h1 h2
        have hin : ∀ a, gt_N R r a = true → a ∈ (gt_kahn R (gt_N R r)).2 := fun a ha => by
          rcases hI.2.1 a ha with h | h
          · rw [hl a] at h; cases h
          · exact h
        refine ⟨fun a ha => ?_, fun k => ⟨hin k, fun hk => (hI.2.2.1 k hk).2.2⟩⟩
        have ha4 := gt_N_lt hw hr a ha
        have hlen : (gt_kahn R (gt_N R r)).2.length ≤ 4 := by have := hI.2.2.2.1; omega
        have hidx : gt_o (gt_kahn R (gt_N R r)).2 a < (gt_kahn R (gt_N R r)).2.length := List.idxOf_lt_length_iff.mpr (hin a ha)
        cases ht : R a with
        | none =>
          have : gt_open R r = true := gt_any_iff.mpr ⟨a, ha4, by simp [ha, ht]⟩
          rw [this] at h1; cases h1
        | some t =>
          refine ⟨by omega, t, rfl, fun he => gt_Em_closed hw ht he, fun b hb => gt_N_closed hw ha (by simp [gt_U, ht, hb]), fun b hb => ?_, ?_⟩
          · have hs : gt_ST R a b = true := by simp [gt_ST, ht, hb]
            exact gt_o_lt hI (hin a ha) (gt_ST_lt hw a b hs).2 hs (gt_N_closed hw ha (gt_ST_U a b hs))
          · cases hg : gt_grd (gt_Em R) t with
            | false => rfl
            | true =>
              have : gt_loop R r = true := gt_any_iff.mpr ⟨a, ha4, by simp [ha, gt_GR, ht, hg]⟩
              rw [this] at h3; cases h3
end GW
