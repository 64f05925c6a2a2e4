/-! Class Reader: choices. -/
section GCY
variable {d bc bs : Nat} {S : Nat → Nat → Int32} {P : Nat → Option Nat} {R : Nat → Int64} {E : gx_H} {Q : gx_R → Prop} {nn i k : Nat} {ch : Nat → Nat} {f : Option (Nat → Option (gt_T × Nat))}
theorem gq_chs_s (m i : Nat) : gq_chs ch (gq_seq ch (gq_item ch f) 21) (m + 1) i = match gq_sw ch f i with
    | none => none
    | some (t, q) => if ch q = 47 then (match gq_chs ch (gq_seq ch (gq_item ch f) 21) m (q + 1) with
        | none => none
        | some (t', q') => some (gt_ch t t', q')) else some (t, q) := by
  unfold gq_sw
  rw [gq_chs]
  cases gq_seq ch (gq_item ch f) 21 i with
  | none => rfl
  | some tq => rfl
theorem gq_chs_isl : ∀ (m i : Nat) (t : gt_T) (q : Nat), gq_chs ch (gq_seq ch (gq_item ch f) 21) m i = some (t, q) → gt_isl 9 t = false
  | 0, i, t, q, h => by cases h
  | m + 1, i, t, q, h => by
    rw [gq_chs] at h
    cases hs : gq_seq ch (gq_item ch f) 21 i with
    | none => rw [hs] at h; cases h
    | some tq =>
      obtain ⟨t1, q1⟩ := tq
      rw [hs] at h
      simp only at h
      split at h
      · cases hr : gq_chs ch (gq_seq ch (gq_item ch f) 21) m (q1 + 1) with
        | none => rw [hr] at h; cases h
        | some tq2 => rw [hr] at h; cases h; rfl
      · cases h; rfl
theorem gq_chs_lt (hb : gc_lb S nn ch) (hok : ∀ g, f = some g → ∀ i t q, g i = some (t, q) → gq_ok ch nn i t q) {m : Nat} {t : gt_T} {q : Nat} (h : gq_chs ch (gq_seq ch (gq_item ch f) 21) m i = some (t, q)) : i < q ∧ q ≤ nn ∧ ch q ≠ 47 := by
  have := gq_chs_ok hb.2.2.2 (fun i t q h => gq_seq_ok (fun i t q h => gq_item_ok hb.2.2.2 hok h) 21 i t q h) m i t q h
  exact ⟨this.1.1, this.1.2.1, this.2.2⟩
theorem gc_choL (hb : gc_lb S nn ch) (hok : ∀ g, f = some g → ∀ i t q, g i = some (t, q) → gq_ok ch nn i t q) (hatm : ∀ g, f = some g → ∀ i t q, g i = some (t, q) → gt_atm t = true) (hf : gc_cH S P R nn (d + 4) k f) (hk : k ≤ 6) {sn ln : Nat} :
    ∀ (m j : Nat) (E : gx_H) (Dn : Nat) (ws : List Nat) (u : Nat) (o2 : Option Value) (bc bs : Nat), ch j = 47 → nn < j + m → ws.length = u + 1 → u + 1 ≤ j → gc_ls E ln (some Dn) ws → ln ≠ Dn → sn ≠ ln → sn ≠ Dn → E[sn]? = some (.inr (11, [.ref (ln + 17)])) →
    gc_bd 60 5 j (gq_chs ch (gq_seq ch (gq_item ch f) 21) m (j + 1)) ≤ bc → gc_bd 400 50 j (gq_chs ch (gq_seq ch (gq_item ch f) 21) m (j + 1)) ≤ bs →
    (match gq_chs ch (gq_seq ch (gq_item ch f) 21) m (j + 1) with
      | none => ∀ j' E', gc_fx E E' ln (some Dn) → Q (.inr "java/lang/IllegalArgumentException", gc_h (gm_u S 3 2 (nI j')) P R E')
      | some (t', q') => ∀ E' D' ws', gc_fx E E' ln (some Dn) → (D' = Dn ∨ E.length ≤ D') → gc_ls E' ln (some D') (ws ++ ws') → E'[sn]? = some (.inr (11, [.ref (ln + 17)])) → gc_tr (gc_mk E.length E') t' (.inr ws') 0 → Q (.inl (some (.ref (sn + 17))), gc_h (gm_u S 3 2 (nI q')) P R E')) →
    gx_X gc_P (d + 10) 24 (33, [some (.ref 3), some (.int (nI k)), o2, some (.ref (sn + 17)), some (.int (nI u))], [], gc_h (gm_u S 3 2 (nI j)) P R E, bc, bs) Q := by
  have h20 := hb.2.1
  intro m
  induction m with
  | zero =>
    intro j E Dn ws u o2 bc bs hsl hm
    have := hb.lt (j := j) (by omega)
    omega
  | succ m ih =>
    intro j E Dn ws u o2 bc bs h47 hm hws huj hls hlD hsl hsD hsn hbc hbs hq
    have hj : j < nn := hb.lt (by omega)
    have hlnE : ln < E.length := by obtain ⟨_, _, _, h, _⟩ := hls; exact (List.getElem?_eq_some_iff.mp h).1
    have hDE : Dn < E.length := by obtain ⟨_, _, _, _, h, _⟩ := hls; exact (List.getElem?_eq_some_iff.mp h).1
    have hsE : sn < E.length := (List.getElem?_eq_some_iff.mp hsn).1
    rw [gq_chs_s] at hbc hbs hq
    refine gd_R_readChoice_33 ⟨fun h => absurd (nI_lt (b := 20) (by omega) (by decide)) h, fun _ => ⟨0, 0, ⟨Nat.zero_le _, Nat.zero_le _⟩, gc_passes (c := 47) (d := d + 7) hb (by omega) (by decide) (fun _ => gd_R_readChoice_46 ⟨fun h => absurd h (by decide), fun _ => ?_⟩) (fun h => absurd h47 h)⟩⟩
    cases hit : gq_sw ch f (j + 1) with
    | none =>
      rw [hit] at hbc hbs hq
      have hbc : 60 * (21 - j) + 10 ≤ bc := hbc
      have hbs : 400 * (21 - j) + 10 ≤ bs := hbs
      refine ⟨bc, bs, ⟨Nat.le_refl _, Nat.le_refl _⟩, gc_seqR hb hok hatm hf (by omega) hk (by rw [hit]; show 60 * (21 - (j + 1)) + 10 ≤ bc; omega) (by rw [hit]; show 400 * (21 - (j + 1)) + 10 ≤ bs; omega) ?_⟩
      rw [hit]
      exact fun j' E' fr => hq j' E' ⟨fr.1, fun n hn _ _ => fr.2 n hn⟩
    | some tq =>
      obtain ⟨t, q⟩ := tq
      obtain ⟨o1, o2', hisl⟩ := gq_sw_ok hb hok hit
      rw [hit] at hbc hbs hq
      simp only at hbc hbs hq
      -- the room
      have hroom : 60 * (q - (j + 1)) - 10 + 2 ≤ bc ∧ 400 * (q - (j + 1)) - 100 + 40 ≤ bs ∧ (ch q = 47 → gc_bd 60 5 q (gq_chs ch (gq_seq ch (gq_item ch f) 21) m (q + 1)) ≤ bc - (60 * (q - (j + 1)) - 10) - 1 ∧ gc_bd 400 50 q (gq_chs ch (gq_seq ch (gq_item ch f) 21) m (q + 1)) ≤ bs - (400 * (q - (j + 1)) - 100) - 30) := by
        by_cases hfq : ch q = 47
        · rw [if_pos hfq] at hbc hbs
          cases hr : gq_chs ch (gq_seq ch (gq_item ch f) 21) m (q + 1) with
          | none =>
            rw [hr] at hbc hbs
            have hbc : 60 * (21 - j) + 10 ≤ bc := hbc
            have hbs : 400 * (21 - j) + 10 ≤ bs := hbs
            simp only [gc_bd]
            exact ⟨by omega, by omega, fun _ => by omega⟩
          | some tq2 =>
            obtain ⟨t2, q2⟩ := tq2
            have ho2 := gq_chs_lt hb hok hr
            have o3 := ho2.1
            rw [hr] at hbc hbs
            have hbc : 60 * (q2 - j) - 5 ≤ bc := hbc
            have hbs : 400 * (q2 - j) - 50 ≤ bs := hbs
            simp only [gc_bd]
            exact ⟨by omega, by omega, fun _ => by omega⟩
        · rw [if_neg hfq] at hbc hbs
          have hbc : 60 * (q - j) - 5 ≤ bc := hbc
          have hbs : 400 * (q - j) - 50 ≤ bs := hbs
          exact ⟨by omega, by omega, fun h => absurd h hfq⟩
      obtain ⟨hr1, hr2, hr3⟩ := hroom
      refine ⟨60 * (q - (j + 1)) - 10, 400 * (q - (j + 1)) - 100, ⟨by omega, by omega⟩, gc_seqR hb hok hatm hf (by omega) hk (by rw [hit]; exact Nat.le_refl _) (by rw [hit]; exact Nat.le_refl _) ?_⟩
      rw [hit]
      intro E1 w fr tr
      have hl1 := hls.fr fr
      have hsn1 : E1[sn]? = some (.inr (11, [.ref (ln + 17)])) := by rw [fr.2 sn hsE]; exact hsn
      refine gd_R_readChoice_55 (gc_choAdd (d := d + 2) hsn1 hsl (fun e => hsD (Option.some.inj e)) hl1 (fun Dn' e => by cases e; exact hlD) ((gc_tr_pc t tr).le gc_mk_all) (by omega) (by omega) (by omega) (fun E2 D2 g1 g2 g3 => gd_R_readChoice_58 ?_))
      rw [show nI u + Int32.ofInt 1 = nI (u + 1) from nI_1 u]
      have hE1 := fr.1
      have hE2 := g3.1
      have hD2 : D2 = Dn ∨ D2 = E1.length := by
        rcases g2 with h | h
        · exact .inl (Option.some.inj h).symm
        · exact .inr h
      have hsn2 : E2[sn]? = some (.inr (11, [.ref (ln + 17)])) := by rw [g3.2 sn (by omega) hsl (fun e => hsD (Option.some.inj e))]; exact hsn1
      have fx2 : gc_fx E E2 ln (some Dn) := ⟨by omega, fun n hn n1 n2 => by rw [g3.2 n (by omega) n1 n2, fr.2 n hn]⟩
      have tr2 : ∀ E3, gc_fx E2 E3 ln (some D2) → gc_tr (gc_mk E.length E3) t (.inl none) w := fun E3 fx3 => by
        refine gc_tr.le (gc_mk_le (Nat.le_refl _) (fun n hn1 hn2 => ?_)) t tr
        rw [fx3.2 n (by omega) (by omega) (fun e => by have := Option.some.inj e; omega), g3.2 n hn2 (by omega) (fun e => by have := Option.some.inj e; omega)]
      by_cases hfq : ch q = 47
      · rw [if_pos hfq] at hq
        obtain ⟨hr4, hr5⟩ := hr3 hfq
        refine ih q E2 D2 (ws ++ [w]) (u + 1) o2 _ _ hfq (by omega) (by rw [List.length_append, hws]; rfl) (by omega) g1 (by omega) hsl (by omega) hsn2 hr4 hr5 ?_
        cases hr : gq_chs ch (gq_seq ch (gq_item ch f) 21) m (q + 1) with
        | none =>
          rw [hr] at hq
          exact fun j' E' fx => hq j' E' ⟨by have := fx.1; omega, fun n hn n1 n2 => by rw [fx.2 n (by omega) n1 (fun e => by have := Option.some.inj e; rcases hD2 with h | h; exact n2 (by rw [this, h]); omega), fx2.2 n hn n1 n2]⟩
        | some tq2 =>
          obtain ⟨t2, q2⟩ := tq2
          rw [hr] at hq
          intro E' D' ws' fx hD' ls' sn' tr'
          refine hq E' D' (w :: ws') ⟨by have := fx.1; omega, fun n hn n1 n2 => by rw [fx.2 n (by omega) n1 (fun e => by have := Option.some.inj e; rcases hD2 with h | h; exact n2 (by rw [this, h]); omega), fx2.2 n hn n1 n2]⟩ (by omega) (by rw [List.append_assoc] at ls'; exact ls') sn' ⟨tr2 E' fx, gq_chs_isl _ _ _ _ hr, ?_⟩
          exact gc_tr.le (gc_mk_le (by omega) (fun _ _ _ => rfl)) t2 tr'
      · rw [if_neg hfq] at hq
        have hfin2 := hq E2 D2 [w] fx2 (by omega) g1 hsn2 (gc_tr_single hisl.1 hisl.2 (tr2 E2 ⟨Nat.le_refl _, fun _ _ _ _ => rfl⟩))
        refine gd_R_readChoice_33 ⟨fun _ => gd_R_readChoice_64 hfin2, fun _ => ⟨0, 0, ⟨Nat.zero_le _, Nat.zero_le _⟩, gc_passes (c := 47) (d := d + 7) hb o2' (by decide) (fun h => absurd h hfq) (fun _ => gd_R_readChoice_46 ⟨fun _ => gd_R_readChoice_64 hfin2, fun h => absurd rfl h⟩)⟩⟩
/-- a choice -/
theorem gc_choR (hb : gc_lb S nn ch) (hok : ∀ g, f = some g → ∀ i t q, g i = some (t, q) → gq_ok ch nn i t q) (hatm : ∀ g, f = some g → ∀ i t q, g i = some (t, q) → gt_atm t = true) (hf : gc_cH S P R nn (d + 4) k f) (hi : i ≤ nn) (hk : k ≤ 6)
    (hbc : gc_bd 60 5 i (gq_one ch f i) ≤ bc) (hbs : gc_bd 400 50 i (gq_one ch f i) ≤ bs) {o2 o3 o4 : Option Value} (hq : gc_rsl S P R E (gq_one ch f i) Q) :
    gx_X gc_P (d + 10) 24 (0, [some (.ref 3), some (.int (nI k)), o2, o3, o4], [], gc_h (gm_u S 3 2 (nI i)) P R E, bc, bs) Q := by
  have h20 := hb.2.1
  unfold gq_one at hbc hbs hq
  rw [gq_chs_s] at hbc hbs hq
  cases hit : gq_sw ch f i with
  | none =>
    rw [hit] at hbc hbs hq
    refine gd_R_readChoice_0 ⟨bc, bs, ⟨Nat.le_refl _, Nat.le_refl _⟩, gc_seqR hb hok hatm hf hi hk (by rw [hit]; exact hbc) (by rw [hit]; exact hbs) ?_⟩
    rw [hit]
    exact fun j' E' fr => hq j' E' fr
  | some tq =>
    obtain ⟨t, q⟩ := tq
    obtain ⟨o1, o2', hisl⟩ := gq_sw_ok hb hok hit
    rw [hit] at hbc hbs hq
    simp only at hbc hbs hq
    have hroom : 60 * (q - i) - 10 + 5 ≤ bc ∧ 400 * (q - i) - 100 + 40 ≤ bs ∧ (ch q = 47 → gc_bd 60 5 q (gq_chs ch (gq_seq ch (gq_item ch f) 21) 20 (q + 1)) ≤ bc - (60 * (q - i) - 10) - 1 - 1 - 1 ∧ gc_bd 400 50 q (gq_chs ch (gq_seq ch (gq_item ch f) 21) 20 (q + 1)) ≤ bs - (400 * (q - i) - 100) - 1 - 3 - 30) := by
      by_cases hfq : ch q = 47
      · rw [if_pos hfq] at hbc hbs
        cases hr : gq_chs ch (gq_seq ch (gq_item ch f) 21) 20 (q + 1) with
        | none =>
          rw [hr] at hbc hbs
          have hbc : 60 * (21 - i) + 10 ≤ bc := hbc
          have hbs : 400 * (21 - i) + 10 ≤ bs := hbs
          simp only [gc_bd]
          exact ⟨by omega, by omega, fun _ => by omega⟩
        | some tq2 =>
          obtain ⟨t2, q2⟩ := tq2
          have ho2 := gq_chs_lt hb hok hr
          have o3 := ho2.1
          rw [hr] at hbc hbs
          have hbc : 60 * (q2 - i) - 5 ≤ bc := hbc
          have hbs : 400 * (q2 - i) - 50 ≤ bs := hbs
          simp only [gc_bd]
          exact ⟨by omega, by omega, fun _ => by omega⟩
      · rw [if_neg hfq] at hbc hbs
        have hbc : 60 * (q - i) - 5 ≤ bc := hbc
        have hbs : 400 * (q - i) - 50 ≤ bs := hbs
        exact ⟨by omega, by omega, fun h => absurd h hfq⟩
    obtain ⟨hr1, hr2, hr3⟩ := hroom
    refine gd_R_readChoice_0 ⟨60 * (q - i) - 10, 400 * (q - i) - 100, ⟨by omega, by omega⟩, gc_seqR hb hok hatm hf hi hk (by rw [hit]; exact Nat.le_refl _) (by rw [hit]; exact Nat.le_refl _) ?_⟩
    rw [hit]
    intro E1 w fr tr
    have hle := hb.le q
    refine gd_R_readChoice_5 ⟨0, 0, ⟨Nat.zero_le _, Nat.zero_le _⟩, gc_next hb o2' (gd_R_readChoice_10 ⟨fun h => ?_, fun h => ?_⟩)⟩
    · have hfq : ch q = 47 := (nI_eq (b := 47) (by omega) (by decide)).mp h
      obtain ⟨hr4, hr5⟩ := hr3 hfq
      rw [if_pos hfq] at hq
      refine ⟨⟨by omega, by omega⟩, 1, 3, ⟨by omega, by omega⟩, gc_newCho (d := d + 5) (Nat.le_refl _) (Nat.le_refl _) (gd_R_readChoice_24 ?_)⟩
      have hE1 := fr.1
      have hs2 : (E1 ++ [.inr (11, [.ref (E1.length + 18)]), .inr (12, [.retAddr 1, .int 0, .int 0])] : gx_H)[E1.length]? = some (.inr (11, [.ref (E1.length + 1 + 17)])) := by
        rw [List.getElem?_append_right (Nat.le_refl _), Nat.sub_self]; rfl
      have hl2 : gc_ls (E1 ++ [.inr (11, [.ref (E1.length + 18)]), .inr (12, [.retAddr 1, .int 0, .int 0])] : gx_H) (E1.length + 1) none [] := ⟨rfl, 0, by
        rw [List.getElem?_append_right (by omega), show E1.length + 1 - E1.length = 1 by omega]; rfl⟩
      refine gc_choAdd (d := d + 2) (n := E1.length) hs2 (by omega) (by simp) hl2 (fun _ e => by cases e) (((gc_tr_pc t tr).le gc_mk_all).le (gc_fr.app _).le) (by simp) (by omega) (by omega) (fun E2 D2 g1 g2 g3 => gd_R_readChoice_30 ?_)
      have hlen2 : (E1 ++ [.inr (11, [.ref (E1.length + 18)]), .inr (12, [.retAddr 1, .int 0, .int 0])] : gx_H).length = E1.length + 2 := by rw [List.length_append]; rfl
      have hD2 : D2 = E1.length + 2 := by
        rcases g2 with h | h
        · cases h
        · rw [h, hlen2]
      have hE2 := g3.1
      rw [hlen2] at hE2
      have hs3 : E2[E1.length]? = some (.inr (11, [.ref (E1.length + 1 + 17)])) := by rw [g3.2 E1.length (by omega) (by omega) (by simp)]; exact hs2
      have fr2 : ∀ E3, gc_fx E2 E3 (E1.length + 1) (some D2) → ∀ n, n < E1.length → E3[n]? = E1[n]? := fun E3 fx3 n hn => by
        rw [fx3.2 n (by omega) (by omega) (fun e => by have := Option.some.inj e; omega), g3.2 n (by omega) (by omega) (by simp), List.getElem?_append_left hn]
      refine gc_choL hb hok hatm hf hk (sn := E1.length) 20 q E2 D2 [w] 0 _ _ _ hfq (by omega) rfl (by omega) g1 (by omega) (by omega) (by omega) hs3 (by omega) (by omega) ?_
      cases hr : gq_chs ch (gq_seq ch (gq_item ch f) 21) 20 (q + 1) with
      | none =>
        rw [hr] at hq
        exact fun j' E' fx => hq j' E' ⟨by have := fx.1; omega, fun n hn => by rw [fr2 E' fx n (by omega), fr.2 n hn]⟩
      | some tq2 =>
        obtain ⟨t2, q2⟩ := tq2
        rw [hr] at hq
        intro E' D' ws' fx hD' ls' sn' tr'
        refine hq E' (E1.length + 17) ⟨by have := fx.1; omega, fun n hn => by rw [fr2 E' fx n (by omega), fr.2 n hn]⟩ ?_
        refine ⟨.inr ⟨rfl, rfl⟩, E1.length + 1 + 17, w :: ws', ⟨E1.length, rfl, ?_⟩, ls'.mk (by omega) (by omega), ?_, gq_chs_isl _ _ _ _ hr, gc_tr.le (gc_mk_le (by omega) (fun _ _ _ => rfl)) t2 tr'⟩
        · rw [gc_mk_at, if_neg (by omega)]; exact sn'
        · exact gc_tr.le (gc_mk_le (Nat.le_refl _) (fun n _ hn => fr2 E' fx n hn)) t tr
    · have hfq : ¬ ch q = 47 := fun z => h (by rw [z]; rfl)
      rw [if_neg hfq] at hq
      refine hq E1 w fr ?_
      show (if gt_isl 9 t || gt_isl 10 t then _ else gc_tr _ t (.inl none) w)
      rw [hisl.1, hisl.2]
      exact tr
end GCY
