/-! Class Reader: a whole sequence; choices. -/
section GCX
variable {d bc bs : Nat} {S : Nat → Nat → Int32} {P : Nat → Option Nat} {R : Nat → Int64} {E : gx_H} {Q : gx_R → Prop} {nn i k : Nat} {ch : Nat → Nat} {f : Option (Nat → Option (gt_T × Nat))}
theorem gq_sw_ok (hb : gc_lb S nn ch) (hok : ∀ g, f = some g → ∀ i t q, g i = some (t, q) → gq_ok ch nn i t q) {t : gt_T} {q : Nat} (h : gq_sw ch f i = some (t, q)) : i < q ∧ q ≤ nn ∧ gt_isl 9 t = false ∧ gt_isl 10 t = false := by
  unfold gq_sw at h
  cases hr : gq_seq ch (gq_item ch f) 21 i with
  | none => rw [hr] at h; cases h
  | some tq =>
    obtain ⟨t', q'⟩ := tq
    rw [hr] at h
    cases h
    have := (gq_seq_ok (fun i t q h => gq_item_ok hb.2.2.2 hok h) 21 i t' q hr).1
    exact ⟨this.1, this.2.1, rfl, rfl⟩
/-- a sequence -/
theorem gc_seqR (hb : gc_lb S nn ch) (hok : ∀ g, f = some g → ∀ i t q, g i = some (t, q) → gq_ok ch nn i t q) (hatm : ∀ g, f = some g → ∀ i t q, g i = some (t, q) → gt_atm t = true) (hf : gc_cH S P R nn (d + 4) k f) (hi : i ≤ nn) (hk : k ≤ 6)
    (hbc : gc_bd 60 10 i (gq_sw ch f i) ≤ bc) (hbs : gc_bd 400 100 i (gq_sw ch f i) ≤ bs) {o2 o3 o4 : Option Value} (hq : gc_rsl S P R E (gq_sw ch f i) Q) :
    gx_X gc_P (d + 9) 25 (0, [some (.ref 3), some (.int (nI k)), o2, o3, o4], [], gc_h (gm_u S 3 2 (nI i)) P R E, bc, bs) Q := by
  have h20 := hb.2.1
  have es : gq_sw ch f i = match (match gq_item ch f i with
      | none => none
      | some (t, q) => if gq_fin (ch q) then some (t, q) else match gq_seq ch (gq_item ch f) 20 q with
        | none => none
        | some (t', q') => some (gt_seq t t', q')) with
    | none => none
    | some (t, q) => some (gt_w 9 t, q) := rfl
  rw [es] at hbc hbs hq
  cases hit : gq_item ch f i with
  | none =>
    rw [hit] at hbc hbs hq
    refine gd_R_readSequence_0 ⟨bc, bs, ⟨Nat.le_refl _, Nat.le_refl _⟩, gc_item hb hok hatm hf hi hk (by rw [hit]; exact hbc) (by rw [hit]; exact hbs) ?_⟩
    rw [hit]
    exact fun j' E' fr => hq j' E' fr
  | some tq =>
    obtain ⟨t, q⟩ := tq
    have ho := gq_item_ok hb.2.2.2 hok hit
    have o1 := ho.1
    have o2' := ho.2.1
    have hisl := gq_item_isl hatm hit
    rw [hit] at hbc hbs hq
    simp only at hbc hbs hq
    have hroom : 60 * (q - i) - 20 + 5 ≤ bc ∧ 400 * (q - i) - 200 + 40 ≤ bs ∧ (gq_fin (ch q) = false → gc_bd 60 10 q (gq_seq ch (gq_item ch f) 20 q) ≤ bc - (60 * (q - i) - 20) - 1 - 1 - 1 ∧ gc_bd 400 100 q (gq_seq ch (gq_item ch f) 20 q) ≤ bs - (400 * (q - i) - 200) - 1 - 3 - 30) := by
      cases hfq : gq_fin (ch q) with
      | true =>
        rw [hfq] at hbc hbs
        have hbc : 60 * (q - i) - 10 ≤ bc := hbc
        have hbs : 400 * (q - i) - 100 ≤ bs := hbs
        exact ⟨by omega, by omega, fun h => by cases h⟩
      | false =>
        rw [hfq] at hbc hbs
        cases hr : gq_seq ch (gq_item ch f) 20 q with
        | none =>
          rw [hr] at hbc hbs
          have hbc : 60 * (21 - i) + 10 ≤ bc := hbc
          have hbs : 400 * (21 - i) + 10 ≤ bs := hbs
          simp only [gc_bd]
          exact ⟨by omega, by omega, fun _ => by omega⟩
        | some tq2 =>
          obtain ⟨t2, q2⟩ := tq2
          have ho2 := (gq_seq_ok (fun i t q h => gq_item_ok hb.2.2.2 hok h) 20 q t2 q2 hr).1
          have o3 := ho2.1
          rw [hr] at hbc hbs
          have hbc : 60 * (q2 - i) - 10 ≤ bc := hbc
          have hbs : 400 * (q2 - i) - 100 ≤ bs := hbs
          simp only [gc_bd]
          exact ⟨by omega, by omega, fun _ => by omega⟩
    obtain ⟨hr1, hr2, hr3⟩ := hroom
    refine gd_R_readSequence_0 ⟨60 * (q - i) - 20, 400 * (q - i) - 200, ⟨by omega, by omega⟩, gc_item hb hok hatm hf hi hk (by rw [hit]; exact Nat.le_refl _) (by rw [hit]; exact Nat.le_refl _) ?_⟩
    rw [hit]
    intro E1 w fr tr
    refine gd_R_readSequence_5 ⟨0, 0, ⟨Nat.zero_le _, Nat.zero_le _⟩, gc_next hb o2' (gd_R_readSequence_10 ⟨0, 0, ⟨Nat.zero_le _, Nat.zero_le _⟩, gc_ends (hb.le q) (gd_R_readSequence_13 ⟨fun h => ?_, fun h => ?_⟩)⟩)⟩
    · have hfq : gq_fin (ch q) = false := (gp_b_0 _).mp h
      obtain ⟨hr4, hr5⟩ := hr3 hfq
      rw [hfq] at hq
      refine ⟨⟨by omega, by omega⟩, 1, 3, ⟨by omega, by omega⟩, gc_newSeq (d := d + 4) (Nat.le_refl _) (Nat.le_refl _) (gd_R_readSequence_25 ?_)⟩
      have hE1 := fr.1
      have hs2 : (E1 ++ [.inr (10, [.ref (E1.length + 18)]), .inr (12, [.retAddr 1, .int 0, .int 0])] : gx_H)[E1.length]? = some (.inr (10, [.ref (E1.length + 1 + 17)])) := by
        rw [List.getElem?_append_right (Nat.le_refl _), Nat.sub_self]; rfl
      have hl2 : gc_ls (E1 ++ [.inr (10, [.ref (E1.length + 18)]), .inr (12, [.retAddr 1, .int 0, .int 0])] : gx_H) (E1.length + 1) none [] := ⟨rfl, 0, by
        rw [List.getElem?_append_right (by omega), show E1.length + 1 - E1.length = 1 by omega]; rfl⟩
      refine gc_seqAdd (d := d + 1) (n := E1.length) hs2 (by omega) (by simp) hl2 (fun _ e => by cases e) (((gc_tr_pc t tr).le gc_mk_all).le (gc_fr.app _).le) (by simp) (by omega) (by omega) (fun E2 D2 g1 g2 g3 => gd_R_readSequence_31 ?_)
      have hlen2 : (E1 ++ [.inr (10, [.ref (E1.length + 18)]), .inr (12, [.retAddr 1, .int 0, .int 0])] : gx_H).length = E1.length + 2 := by rw [List.length_append]; rfl
      have hD2 : D2 = E1.length + 2 := by
        rcases g2 with h | h
        · cases h
        · rw [h, hlen2]
      have hE2 := g3.1
      rw [hlen2] at hE2
      have hs3 : E2[E1.length]? = some (.inr (10, [.ref (E1.length + 1 + 17)])) := by rw [g3.2 E1.length (by omega) (by omega) (by simp)]; exact hs2
      have fr2 : ∀ E3, gc_fx E2 E3 (E1.length + 1) (some D2) → ∀ n, n < E1.length → E3[n]? = E1[n]? := fun E3 fx3 n hn => by
        rw [fx3.2 n (by omega) (by omega) (fun e => by have := Option.some.inj e; omega), g3.2 n (by omega) (by omega) (by simp), List.getElem?_append_left hn]
      refine gc_seqL hb hok hatm hf hk (sn := E1.length) 20 q E2 D2 [w] 0 _ _ _ hfq o2' (by omega) rfl (by omega) g1 (by omega) (by omega) (by omega) hs3 (by omega) (by omega) ?_
      cases hr : gq_seq ch (gq_item ch f) 20 q with
      | none =>
        rw [hr] at hq
        exact fun j' E' fx => hq j' E' ⟨by have := fx.1; omega, fun n hn => by rw [fr2 E' fx n (by omega), fr.2 n hn]⟩
      | some tq2 =>
        obtain ⟨t2, q2⟩ := tq2
        rw [hr] at hq
        intro E' D' ws' fx hD' ls' sn' tr' isl'
        refine hq E' (E1.length + 17) ⟨by have := fx.1; omega, fun n hn => by rw [fr2 E' fx n (by omega), fr.2 n hn]⟩ ?_
        refine ⟨.inl ⟨rfl, rfl⟩, E1.length + 1 + 17, w :: ws', ⟨E1.length, rfl, ?_⟩, ls'.mk (by omega) (by omega), ?_, isl', gc_tr.le (gc_mk_le (by omega) (fun _ _ _ => rfl)) t2 tr'⟩
        · rw [gc_mk_at, if_neg (by omega)]; exact sn'
        · exact gc_tr.le (gc_mk_le (Nat.le_refl _) (fun n _ hn => fr2 E' fx n hn)) t tr
    · have hfq : gq_fin (ch q) = true := gp_b_1 h
      rw [hfq] at hq
      refine hq E1 w fr ?_
      show (if gt_isl 9 t || gt_isl 10 t then _ else gc_tr _ t (.inl none) w)
      rw [hisl.1, hisl.2]
      exact tr
end GCX
