/-! The model's methods: bytes and characters, type, text, clear, drop, shown, what is asked of the latest match. -/
theorem gm_u_at (S : Nat → Nat → Int32) (k j : Nat) (v : Int32) (k' j' : Nat) : gm_u S k j v k' j' = if k' = k ∧ j' = j then v else S k' j' := by
  unfold gm_u
  cases h : Nat.beq k' k with
  | true =>
    have e : k' = k := Nat.eq_of_beq_eq_true h
    subst e
    by_cases hj : j' = j
    · simp [upd, hj]
    · simp [upd, hj]
  | false =>
    have e : k' ≠ k := Nat.ne_of_beq_eq_false h
    simp [e]
theorem gm_u_row (S : Nat → Nat → Int32) {k k' : Nat} (j : Nat) (v : Int32) (h : k' ≠ k) : gm_u S k j v k' = S k' := by
  funext j'
  rw [gm_u_at]
  simp [h]
/-- byte n of a number -/
def gp_cb (x : Int32) (n : Nat) : Nat := x.toBitVec.toNat / 2 ^ (8 * n) % 256
theorem gp_cb_lt (x : Int32) (n : Nat) : gp_cb x n < 256 := Nat.mod_lt _ (by decide)
theorem gp_8n {n : Nat} (hn : n < 4) : ((8 * nI n) &&& 31 : Int32) = nI (8 * n) := by
  have h : n = 0 ∨ n = 1 ∨ n = 2 ∨ n = 3 := by omega
  rcases h with rfl | rfl | rfl | rfl <;> decide +kernel
theorem gp_sshr (x : Int32) {n : Nat} (hn : n < 4) : (x >>> (nI (8 * n))).toBitVec = x.toBitVec.sshiftRight (8 * n) := by
  have h : n = 0 ∨ n = 1 ∨ n = 2 ∨ n = 3 := by omega
  rcases h with rfl | rfl | rfl | rfl <;> rfl
theorem gp_byte (x : Int32) {n : Nat} (hn : n < 4) : ((x >>> ((8 * nI n) &&& 31)) &&& 255 : Int32) = nI (gp_cb x n) := by
  rw [gp_8n hn, pk_and _ 8 (by decide), gp_sshr x hn]
  congr 1
  unfold gp_cb
  refine Nat.eq_of_testBit_eq fun i => ?_
  rw [show (2 : Nat) ^ 8 = 256 by decide]
  rw [show (256 : Nat) = 2 ^ 8 by decide, Nat.testBit_mod_two_pow, Nat.testBit_mod_two_pow, Nat.testBit_div_two_pow]
  by_cases hi : i < 8
  · simp only [hi, decide_true, Bool.true_and]
    rw [BitVec.testBit_toNat, BitVec.testBit_toNat, BitVec.getLsbD_sshiftRight]
    have h1 : 8 * n + i < 32 := by omega
    have h2 : i < 32 := by omega
    simp [h1, Nat.add_comm, h2, show ¬ 32 ≤ i by omega]
    exact fun h => absurd h (by omega)
  · simp [hi]
/-- the characters of four: none where one isn't 32 .. 126 -/
def gp_go (x : Int32) : Nat → Nat → Option (List Nat)
  | 0, _ => some []
  | f + 1, n => if gp_cb x n = 0 then some [] else if gp_cb x n < 32 ∨ 126 < gp_cb x n then none else (gp_go x f (n + 1)).map (gp_cb x n :: ·)
def gp_cs (x : Int32) : Option (List Nat) := gp_go x 4 0
theorem gp_go_len (x : Int32) : ∀ (f n : Nat) (l : List Nat), gp_go x f n = some l → l.length ≤ f ∧ (∀ i c, l[i]? = some c → c = gp_cb x (n + i) ∧ 32 ≤ c ∧ c ≤ 126)
  | 0, n, l, h => by
    cases h
    exact ⟨Nat.le_refl _, fun i c hc => by simp at hc⟩
  | f + 1, n, l, h => by
    unfold gp_go at h
    split at h
    · cases h
      exact ⟨Nat.zero_le _, fun i c hc => by simp at hc⟩
    · rename_i h0
      split at h
      · cases h
      · rename_i h1
        cases hg : gp_go x f (n + 1) with
        | none => rw [hg] at h; cases h
        | some r =>
          rw [hg] at h
          cases h
          obtain ⟨g1, g2⟩ := gp_go_len x f (n + 1) r hg
          refine ⟨by simpa using g1, fun i c hc => ?_⟩
          cases i with
          | zero =>
            have e : gp_cb x n = c := by simpa using hc
            exact ⟨e.symm, by omega⟩
          | succ i =>
            have e : r[i]? = some c := by simpa using hc
            obtain ⟨q1, q2⟩ := g2 i c e
            exact ⟨by rw [q1]; congr 1; omega, q2⟩
theorem gp_cs_len {x : Int32} {l : List Nat} (h : gp_cs x = some l) : l.length ≤ 4 := (gp_go_len x 4 0 l h).1
theorem gp_cs_at {x : Int32} {l : List Nat} (h : gp_cs x = some l) {i c : Nat} (hc : l[i]? = some c) : c = gp_cb x i ∧ 32 ≤ c ∧ c ≤ 126 := by
  have h1 := (gp_go_len x 4 0 l h).2 i c hc
  rwa [Nat.zero_add] at h1
section GMA
variable {d bc bs : Nat} {Q : gx_R → Prop} {S : Nat → Nat → Int32}
theorem gm_charsL (x : Int32) : ∀ (f n : Nat) (o2 : Option Value), n + f = 4 → Q (.inl (some (.int (match gp_go x f n with | none => -1 | some l => nI (n + l.length)))), gm_h S) →
    gx_X gm_P (d + 1) 3 (2, [some (.int x), some (.int (nI n)), o2], [], gm_h S, bc, bs) Q
  | 0, n, o2, hn, hq => by
    have e : n = 4 := by omega
    subst e
    refine gb_charactersOf_2 ⟨fun _ => gb_charactersOf_51 hq, fun h => absurd h (by decide)⟩
  | f + 1, n, o2, hn, hq => by
    have hlt : n < 4 := by omega
    have hb := gp_byte x hlt
    have hc := gp_cb_lt x n
    have h4 : nI n < 4 := nI_lt (b := 4) hlt (by decide)
    unfold gp_go at hq
    refine gb_charactersOf_2 ⟨fun h => absurd h4 h, fun _ => ⟨fun h0 => gb_charactersOf_51 ?_, fun h0 => ⟨fun h1 => gb_charactersOf_43 ?_, fun h1 => ⟨fun h2 => ?_, fun h2 => gb_charactersOf_43 ?_⟩⟩⟩⟩
    · rw [hb] at h0
      have e0 : gp_cb x n = 0 := (nI_eq (b := 0) (by omega) (by decide)).mp h0
      simpa [e0] using hq
    · rw [hb] at h0 h1
      have e0 : ¬ gp_cb x n = 0 := fun z => h0 (by rw [z]; rfl)
      have e1 : gp_cb x n < 32 := (nI_ltI (b := 32) (by omega) (by decide)).mp h1
      simpa [e0, e1] using hq
    · rw [hb] at h0 h1 h2
      have e0 : ¬ gp_cb x n = 0 := fun z => h0 (by rw [z]; rfl)
      have e1 : ¬ gp_cb x n < 32 := fun z => h1 (nI_lt (b := 32) z (by decide))
      have e2 : ¬ 126 < gp_cb x n := fun z => h2 (nI_lt (a := 126) z (by omega))
      have e3 : nI n + Int32.ofInt 1 = nI (n + 1) := nI_1 n
      rw [e3]
      refine gm_charsL x f (n + 1) _ (by omega) ?_
      simp only [e0, if_false, e1, e2, or_self] at hq
      cases hg : gp_go x f (n + 1) with
      | none => rw [hg] at hq; exact hq
      | some l =>
        rw [hg] at hq
        simp only [Option.map_some, List.length_cons] at hq
        rw [show n + (l.length + 1) = n + 1 + l.length by omega] at hq
        exact hq
    · rw [hb] at h0 h1 h2
      have e0 : ¬ gp_cb x n = 0 := fun z => h0 (by rw [z]; rfl)
      have e2 : 126 < gp_cb x n := (nI_ltI (a := 126) (by decide) (by omega)).mp h2
      simpa [e0, e2] using hq
/-- charactersOf: how many characters, -1 where one isn't allowed -/
theorem gm_chars {x : Int32} {o1 o2 : Option Value} (hq : Q (.inl (some (.int (match gp_cs x with | none => -1 | some l => nI l.length))), gm_h S)) : gx_X gm_P (d + 1) 3 (0, [some (.int x), o1, o2], [], gm_h S, bc, bs) Q := by
  refine gb_charactersOf_0 (gm_charsL x 4 0 o2 rfl ?_)
  simp only [Nat.zero_add]
  exact hq
/-- isRule -/
theorem gm_isRule {x : Int32} (hq : Q (.inl (some (.int (if ¬ x < 0 ∧ x < 4 then 1 else 0))), gm_h S)) : gx_X gm_P (d + 1) 2 (0, [some (.int x)], [], gm_h S, bc, bs) Q := by
  refine gb_isRule_0 ⟨fun h => gb_isRule_13 (gb_isRule_14 ⟨rfl, ?_⟩), fun h => ⟨fun h1 => gb_isRule_13 (gb_isRule_14 ⟨rfl, ?_⟩), fun h1 => gb_isRule_14 ⟨rfl, ?_⟩⟩⟩
  · simpa [h] using hq
  · simpa [h, h1] using hq
  · simpa [h, h1] using hq
end GMA
