/-! Class Reader: sequences. -/
theorem gc_ls.fr {E E' : gx_H} {ln : Nat} {D : Option Nat} {ws : List Nat} (h : gc_fr E E') (hl : gc_ls E ln D ws) : gc_ls E' ln D ws := by
  cases D with
  | none =>
    obtain ⟨h1, mc, h2⟩ := hl
    exact ⟨h1, mc, h.le _ _ h2 (fun e => by unfold gc_du at e; cases e)⟩
  | some Dn =>
    obtain ⟨mc, m, f, k1, k2, k3, k4, k5, k6, k7, k8⟩ := hl
    exact ⟨mc, m, f, h.le _ _ k1 (fun e => by unfold gc_du at e; cases e), h.le _ _ k2 (fun e => by unfold gc_du at e; cases e), k3, k4, k5, k6, fun w hw => (k7 w hw).le h.le, k8⟩
/-- a sequence, as a pattern -/
def gq_sw (ch : Nat → Nat) (f : Option (Nat → Option (gt_T × Nat))) (i : Nat) : Option (gt_T × Nat) := match gq_seq ch (gq_item ch f) 21 i with
  | none => none
  | some (t, q) => some (gt_w 9 t, q)
section GCW
variable {d bc bs : Nat} {S : Nat → Nat → Int32} {P : Nat → Option Nat} {R : Nat → Int64} {E : gx_H} {Q : gx_R → Prop} {nn i k : Nat} {ch : Nat → Nat} {f : Option (Nat → Option (gt_T × Nat))}
theorem gc_seqL (hb : gc_lb S nn ch) (hok : ∀ g, f = some g → ∀ i t q, g i = some (t, q) → gq_ok ch nn i t q) (hatm : ∀ g, f = some g → ∀ i t q, g i = some (t, q) → gt_atm t = true) (hf : gc_cH S P R nn (d + 4) k f) (hk : k ≤ 6) {sn ln : Nat} :
    ∀ (m j : Nat) (E : gx_H) (Dn : Nat) (ws : List Nat) (u : Nat) (o2 : Option Value) (bc bs : Nat), gq_fin (ch j) = false → j ≤ nn → nn < j + m → ws.length = u + 1 → u + 1 ≤ j → gc_ls E ln (some Dn) ws → ln ≠ Dn → sn ≠ ln → sn ≠ Dn → E[sn]? = some (.inr (10, [.ref (ln + 17)])) →
    gc_bd 60 10 j (gq_seq ch (gq_item ch f) m j) ≤ bc → gc_bd 400 100 j (gq_seq ch (gq_item ch f) m j) ≤ bs →
    (match gq_seq ch (gq_item ch f) m j with
      | none => ∀ j' E', gc_fx E E' ln (some Dn) → Q (.inr "java/lang/IllegalArgumentException", gc_h (gm_u S 3 2 (nI j')) P R E')
      | some (t', q') => ∀ E' D' ws', gc_fx E E' ln (some Dn) → (D' = Dn ∨ E.length ≤ D') → gc_ls E' ln (some D') (ws ++ ws') → E'[sn]? = some (.inr (10, [.ref (ln + 17)])) → gc_tr (gc_mk E.length E') t' (.inr ws') 0 → gt_isl 10 t' = false → Q (.inl (some (.ref (sn + 17))), gc_h (gm_u S 3 2 (nI q')) P R E')) →
    gx_X gc_P (d + 9) 25 (34, [some (.ref 3), some (.int (nI k)), o2, some (.ref (sn + 17)), some (.int (nI u))], [], gc_h (gm_u S 3 2 (nI j)) P R E, bc, bs) Q := by
  have h20 := hb.2.1
  intro m
  induction m with
  | zero => intro j E Dn ws u o2 bc bs hfin hj hm; omega
  | succ m ih =>
    intro j E Dn ws u o2 bc bs hfin hj hm hws huj hls hlD hsl hsD hsn hbc hbs hq
    have hlnE : ln < E.length := by obtain ⟨_, _, _, h, _⟩ := hls; exact (List.getElem?_eq_some_iff.mp h).1
    have hDE : Dn < E.length := by obtain ⟨_, _, _, _, h, _⟩ := hls; exact (List.getElem?_eq_some_iff.mp h).1
    have hsE : sn < E.length := (List.getElem?_eq_some_iff.mp hsn).1
    have es : gq_seq ch (gq_item ch f) (m + 1) j = match gq_item ch f j with
      | none => none
      | some (t, q) => if gq_fin (ch q) then some (t, q) else match gq_seq ch (gq_item ch f) m q with
        | none => none
        | some (t', q') => some (gt_seq t t', q') := rfl
    rw [es] at hbc hbs hq
    refine gd_R_readSequence_34 ⟨fun h => absurd (nI_lt (b := 20) (by omega) (by decide)) h, fun _ => ⟨0, 0, ⟨Nat.zero_le _, Nat.zero_le _⟩, gc_next hb hj (gd_R_readSequence_45 ⟨0, 0, ⟨Nat.zero_le _, Nat.zero_le _⟩, gc_ends (hb.le j) (gd_R_readSequence_48 ⟨fun h => absurd (by rw [hfin]; rfl) h, fun _ => ?_⟩)⟩)⟩⟩
    cases hit : gq_item ch f j with
    | none =>
      rw [hit] at hbc hbs hq
      refine ⟨bc, bs, ⟨Nat.le_refl _, Nat.le_refl _⟩, gc_item hb hok hatm hf hj hk (by rw [hit]; exact hbc) (by rw [hit]; exact hbs) ?_⟩
      rw [hit]
      exact fun j' E' fr => hq j' E' ⟨fr.1, fun n hn _ _ => fr.2 n hn⟩
    | some tq =>
      obtain ⟨t, q⟩ := tq
      have ho := gq_item_ok hb.2.2.2 hok hit
      have o1 := ho.1
      have o2' := ho.2.1
      have hisl := gq_item_isl hatm hit
      rw [hit] at hbc hbs hq
      simp only at hbc hbs hq
      -- the room
      have hroom : 60 * (q - j) - 20 + 2 ≤ bc ∧ 400 * (q - j) - 200 + 40 ≤ bs ∧ (gq_fin (ch q) = false → gc_bd 60 10 q (gq_seq ch (gq_item ch f) m q) ≤ bc - (60 * (q - j) - 20) - 1 ∧ gc_bd 400 100 q (gq_seq ch (gq_item ch f) m q) ≤ bs - (400 * (q - j) - 200) - 30) := by
        cases hfq : gq_fin (ch q) with
        | true =>
          rw [hfq] at hbc hbs
          have hbc : 60 * (q - j) - 10 ≤ bc := hbc
          have hbs : 400 * (q - j) - 100 ≤ bs := hbs
          exact ⟨by omega, by omega, fun h => by cases h⟩
        | false =>
          rw [hfq] at hbc hbs
          cases hr : gq_seq ch (gq_item ch f) m q with
          | none =>
            rw [hr] at hbc hbs
            have hbc : 60 * (21 - j) + 10 ≤ bc := hbc
            have hbs : 400 * (21 - j) + 10 ≤ bs := hbs
            simp only [gc_bd]
            exact ⟨by omega, by omega, fun _ => by omega⟩
          | some tq2 =>
            obtain ⟨t2, q2⟩ := tq2
            have ho2 := (gq_seq_ok (fun i t q h => gq_item_ok hb.2.2.2 hok h) m q t2 q2 hr).1
            have o3 := ho2.1
            rw [hr] at hbc hbs
            have hbc : 60 * (q2 - j) - 10 ≤ bc := hbc
            have hbs : 400 * (q2 - j) - 100 ≤ bs := hbs
            simp only [gc_bd]
            exact ⟨by omega, by omega, fun _ => by omega⟩
      obtain ⟨hr1, hr2, hr3⟩ := hroom
      refine ⟨60 * (q - j) - 20, 400 * (q - j) - 200, ⟨by omega, by omega⟩, gc_item hb hok hatm hf hj hk (by rw [hit]; exact Nat.le_refl _) (by rw [hit]; exact Nat.le_refl _) ?_⟩
      rw [hit]
      intro E1 w fr tr
      have hl1 := hls.fr fr
      have hsn1 : E1[sn]? = some (.inr (10, [.ref (ln + 17)])) := by rw [fr.2 sn hsE]; exact hsn
      refine gd_R_readSequence_57 (gc_seqAdd (d := d + 1) hsn1 hsl (fun e => hsD (Option.some.inj e)) hl1 (fun Dn' e => by cases e; exact hlD) ((gc_tr_pc t tr).le gc_mk_all) (by omega) (by omega) (by omega) (fun E2 D2 g1 g2 g3 => gd_R_readSequence_60 ?_))
      rw [show nI u + Int32.ofInt 1 = nI (u + 1) from nI_1 u]
      have hE1 := fr.1
      have hE2 := g3.1
      have hD2 : D2 = Dn ∨ D2 = E1.length := by
        rcases g2 with h | h
        · exact .inl (Option.some.inj h).symm
        · exact .inr h
      have hsn2 : E2[sn]? = some (.inr (10, [.ref (ln + 17)])) := by rw [g3.2 sn (by omega) hsl (fun e => hsD (Option.some.inj e))]; exact hsn1
      have fx2 : gc_fx E E2 ln (some Dn) := ⟨by omega, fun n hn n1 n2 => by rw [g3.2 n (by omega) n1 n2, fr.2 n hn]⟩
      have tr2 : ∀ E3, gc_fx E2 E3 ln (some D2) → gc_tr (gc_mk E.length E3) t (.inl none) w := fun E3 fx3 => by
        refine gc_tr.le (gc_mk_le (Nat.le_refl _) (fun n hn1 hn2 => ?_)) t tr
        rw [fx3.2 n (by omega) (by omega) (fun e => by have := Option.some.inj e; omega), g3.2 n hn2 (by omega) (fun e => by have := Option.some.inj e; omega)]
      cases hfq : gq_fin (ch q) with
      | true =>
        rw [hfq] at hq
        have hq : ∀ E' D' ws', gc_fx E E' ln (some Dn) → (D' = Dn ∨ E.length ≤ D') → gc_ls E' ln (some D') (ws ++ ws') → E'[sn]? = some (.inr (10, [.ref (ln + 17)])) → gc_tr (gc_mk E.length E') t (.inr ws') 0 → gt_isl 10 t = false → Q (.inl (some (.ref (sn + 17))), gc_h (gm_u S 3 2 (nI q)) P R E') := hq
        have hfin2 := hq E2 D2 [w] fx2 (by omega) g1 hsn2 (gc_tr_single hisl.1 hisl.2 (tr2 E2 ⟨Nat.le_refl _, fun _ _ _ _ => rfl⟩)) hisl.2
        refine gd_R_readSequence_34 ⟨fun _ => gd_R_readSequence_66 hfin2, fun _ => ⟨0, 0, ⟨Nat.zero_le _, Nat.zero_le _⟩, gc_next hb o2' (gd_R_readSequence_45 ⟨0, 0, ⟨Nat.zero_le _, Nat.zero_le _⟩, gc_ends (hb.le q) (gd_R_readSequence_48 ⟨fun _ => gd_R_readSequence_66 hfin2, fun h => absurd h (by rw [hfq]; decide)⟩)⟩)⟩⟩
      | false =>
        rw [hfq] at hq
        obtain ⟨hr4, hr5⟩ := hr3 hfq
        refine ih q E2 D2 (ws ++ [w]) (u + 1) o2 _ _ hfq o2' (by omega) (by rw [List.length_append, hws]; rfl) (by omega) g1 (by omega) hsl (by omega) hsn2 hr4 hr5 ?_
        cases hr : gq_seq ch (gq_item ch f) m q with
        | none =>
          rw [hr] at hq
          exact fun j' E' fx => hq j' E' ⟨by have := fx.1; omega, fun n hn n1 n2 => by rw [fx.2 n (by omega) n1 (fun e => by have := Option.some.inj e; rcases hD2 with h | h; exact n2 (by rw [this, h]); omega), fx2.2 n hn n1 n2]⟩
        | some tq2 =>
          obtain ⟨t2, q2⟩ := tq2
          rw [hr] at hq
          intro E' D' ws' fx hD' ls' sn' tr' isl'
          refine hq E' D' (w :: ws') ⟨by have := fx.1; omega, fun n hn n1 n2 => by rw [fx.2 n (by omega) n1 (fun e => by have := Option.some.inj e; rcases hD2 with h | h; exact n2 (by rw [this, h]); omega), fx2.2 n hn n1 n2]⟩ (by omega) (by rw [List.append_assoc] at ls'; exact ls') sn' ⟨tr2 E' fx, isl', ?_⟩ rfl
          exact gc_tr.le (gc_mk_le (by omega) (fun _ _ _ => rfl)) t2 tr'
end GCW
