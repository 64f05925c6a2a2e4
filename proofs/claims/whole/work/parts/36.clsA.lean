/-! The class's methods: bytes and characters. -/
theorem gp_nar16 : ∀ m, m < 256 → ((nI m).toUInt32 % 65536).toInt32 = nI m := by decide +kernel
theorem gp_ubyte (x : Int32) {n : Nat} (hn : n < 4) : ((((x.toUInt32 >>> ((8 * nI n).toUInt32 &&& Int32.toUInt32 31)).toInt32) &&& 255).toUInt32 % 65536).toInt32 = nI (gp_cb x n) := by
  rw [pk_and _ 8 (by decide), gp_nar16 _ (Nat.mod_lt _ (by decide))]
  congr 1
  have h : n = 0 ∨ n = 1 ∨ n = 2 ∨ n = 3 := by omega
  rcases h with rfl | rfl | rfl | rfl
  · rw [show ((8 * nI 0).toUInt32 &&& Int32.toUInt32 31) = 0 by decide +kernel]
    show (x.toUInt32 >>> 0).toNat % 2 ^ 8 = _
    rw [UInt32.toNat_shiftRight]
    show x.toBitVec.toNat >>> 0 % 2 ^ 8 = _
    rw [Nat.shiftRight_eq_div_pow]
    rfl
  · rw [show ((8 * nI 1).toUInt32 &&& Int32.toUInt32 31) = 8 by decide +kernel]
    show (x.toUInt32 >>> 8).toNat % 2 ^ 8 = _
    rw [UInt32.toNat_shiftRight]
    show x.toBitVec.toNat >>> 8 % 2 ^ 8 = _
    rw [Nat.shiftRight_eq_div_pow]
    rfl
  · rw [show ((8 * nI 2).toUInt32 &&& Int32.toUInt32 31) = 16 by decide +kernel]
    show (x.toUInt32 >>> 16).toNat % 2 ^ 8 = _
    rw [UInt32.toNat_shiftRight]
    show x.toBitVec.toNat >>> 16 % 2 ^ 8 = _
    rw [Nat.shiftRight_eq_div_pow]
    rfl
  · rw [show ((8 * nI 3).toUInt32 &&& Int32.toUInt32 31) = 24 by decide +kernel]
    show (x.toUInt32 >>> 24).toNat % 2 ^ 8 = _
    rw [UInt32.toNat_shiftRight]
    show x.toBitVec.toNat >>> 24 % 2 ^ 8 = _
    rw [Nat.shiftRight_eq_div_pow]
    rfl
theorem gp_narC : ∀ m, m < 256 → (fun x : Int32 => (x.toUInt32 % 65536).toInt32) (nI m) = nI m := gp_nar16
section GCA
variable {d bc bs : Nat} {Q : gx_R → Prop} {S : Nat → Nat → Int32} {P : Nat → Option Nat} {R : Nat → Int64} {E : gx_H}
theorem gc_byteOf {x : Int32} {n : Nat} (hn : n < 4) (hq : Q (.inl (some (.int (nI (gp_cb x n)))), gc_h S P R E)) : gx_X gc_P (d + 1) 17 (0, [some (.int x), some (.int (nI n))], [], gc_h S P R E, bc, bs) Q := by
  refine gd_M_byteOf_0 ?_
  rw [gp_ubyte x hn]
  exact ⟨congrArg Value.int (gp_nar16 _ (gp_cb_lt x n)), hq⟩
theorem gc_charsL (x : Int32) (hbc : 1 ≤ bc) (hbs : 6 ≤ bs) : ∀ (f n : Nat) (o2 : Option Value), n + f = 4 → (match gp_go x f n with | none => Q (.inr "java/lang/IllegalArgumentException", gc_h S P R E) | some l => Q (.inl (some (.int (nI (n + l.length)))), gc_h S P R E)) →
    gx_X gc_P (d + 2) 16 (2, [some (.int x), some (.int (nI n)), o2], [], gc_h S P R E, bc, bs) Q
  | 0, n, o2, hn, hq => by
    have e : n = 4 := by omega
    subst e
    exact gd_M_charactersIn_2 ⟨fun _ => gd_M_charactersIn_47 hq, fun h => absurd h (by decide)⟩
  | f + 1, n, o2, hn, hq => by
    have hlt : n < 4 := by omega
    have hc := gp_cb_lt x n
    have h4 : nI n < 4 := nI_lt (b := 4) hlt (by decide)
    unfold gp_go at hq
    refine gd_M_charactersIn_2 ⟨fun h => absurd h4 h, fun _ => ⟨0, 0, ⟨Nat.zero_le _, Nat.zero_le _⟩, gc_byteOf hlt ?_⟩⟩
    show gx_X gc_P (d + 1 + 1) 16 (12, [some (.int x), some (.int (nI n)), o2], [.int (nI (gp_cb x n))], gc_h S P R E, bc, bs) Q
    refine gd_M_charactersIn_12 ⟨fun h0 => gd_M_charactersIn_47 ?_, fun h0 => ⟨0, 0, ⟨Nat.zero_le _, Nat.zero_le _⟩, gc_byteOf hlt ?_⟩⟩
    · have e0 : gp_cb x n = 0 := (nI_eq (b := 0) (by omega) (by decide)).mp h0
      simpa [e0] using hq
    · have e0 : ¬ gp_cb x n = 0 := fun z => h0 (by rw [z]; rfl)
      show gx_X gc_P (d + 1 + 1) 16 (20, [some (.int x), some (.int (nI n)), o2], [.int (nI (gp_cb x n))], gc_h S P R E, bc, bs) Q
      refine gd_M_charactersIn_20 ⟨fun h1 => gd_M_charactersIn_33 ⟨⟨hbc, hbs⟩, ?_⟩, fun h1 => ⟨fun h2 => ?_, fun h2 => gd_M_charactersIn_33 ⟨⟨hbc, hbs⟩, ?_⟩⟩⟩
      · have e1 : gp_cb x n < 32 := (nI_ltI (b := 32) (by omega) (by decide)).mp h1
        simpa [e0, e1] using hq
      · have e1 : ¬ gp_cb x n < 32 := fun z => h1 (nI_lt (b := 32) z (by decide))
        have e2 : ¬ 126 < gp_cb x n := fun z => h2 (nI_lt (a := 126) z (by omega))
        have e3 : nI n + Int32.ofInt 1 = nI (n + 1) := nI_1 n
        rw [e3]
        refine gc_charsL x hbc hbs f (n + 1) _ (by omega) ?_
        simp only [e0, if_false, e1, e2, or_self] at hq
        cases hg : gp_go x f (n + 1) with
        | none => rw [hg] at hq; exact hq
        | some l =>
          rw [hg] at hq
          simp only [Option.map_some, List.length_cons] at hq
          rw [show n + (l.length + 1) = n + 1 + l.length by omega] at hq
          exact hq
      · have e2 : 126 < gp_cb x n := (nI_ltI (a := 126) (by decide) (by omega)).mp h2
        simpa [e0, e2] using hq
/-- charactersIn: how many characters; it throws where one isn't allowed -/
theorem gc_chars {x : Int32} {o1 o2 : Option Value} (hbc : 1 ≤ bc) (hbs : 6 ≤ bs) (hq : match gp_cs x with | none => Q (.inr "java/lang/IllegalArgumentException", gc_h S P R E) | some l => Q (.inl (some (.int (nI l.length))), gc_h S P R E)) : gx_X gc_P (d + 2) 16 (0, [some (.int x), o1, o2], [], gc_h S P R E, bc, bs) Q := by
  refine gd_M_charactersIn_0 (gc_charsL x hbc hbs 4 0 o2 rfl ?_)
  simp only [Nat.zero_add]
  exact hq
end GCA
