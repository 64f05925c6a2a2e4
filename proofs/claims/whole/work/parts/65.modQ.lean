/-! The model's match, find, and what is asked of the latest match. -/
/-- the first of g places from p on at which e ends -/
def gt_fst (e : Nat → Option Nat) : Nat → Nat → Option Nat
  | 0, _ => none
  | g + 1, p => if (e p).isSome then some p else gt_fst e g (p + 1)
section GMQ
variable {S S0 : Nat → Nat → Int32} {R : Nat → Option gt_T} {d bc bs : Nat} {Q : gx_R → Prop} {L : Nat} {x : Nat → Nat}
/-- alike but for what check, match and find change -/
def gm_eqX (S0 S : Nat → Nat → Int32) : Prop := (∀ j, j ∉ [0, 12, 13, 14, 20, 21, 22, 23, 24, 25] → S j = S0 j) ∧ ∀ j, j ∉ [0, 28, 30, 33, 34] → S 0 j = S0 0 j
theorem gm_gr_eqM {S' : Nat → Nat → Int32} (h : gm_eqM S S') (hg : gm_gr S R) : gm_gr S' R := gm_eqr_gr (l := [0, 20, 21, 22, 23, 24, 25]) h.1 (by simp) (by simp) (by simp) (by simp) (by simp) (by simp) hg
theorem gm_En_eqM {Em : Nat → Bool} {A : Nat → Prop} {S' : Nat → Nat → Int32} (h : gm_eqM S S') (h20 : S' 20 = S 20) (hE : gm_En R L x Em A S) : gm_En R L x Em A S' := fun t n p ht hnd hp => by
  rw [h20]
  refine hE t n p ?_ hnd hp
  rw [← (gm_eqr_tr (l := [0, 20, 21, 22, 23, 24, 25]) h.1 (by simp) (by simp) (by simp) (by simp) (by simp) (by simp)).1]
  exact ht
/-- behind a check that answers 0: the ends are found -/
theorem gm_ready (hg : gm_gr S R) (hx : gm_tx S L x) {r : Nat} (hr : r < 4) (hch : gt_chk R r = 0) {S1 : Nat → Nat → Int32} (h1 : gm_eqr [12, 13, 14] S S1) {o1 o2 o3 : Option Value}
    (hq : ∀ S', gm_eqX S S' → S' 0 0 = 0 → S' 0 4 = nI L → gm_gr S' R → gm_En R L x (gt_Em R) (fun k => gt_N R r k = true) S' → Q (.inl none, gm_h S')) :
    gx_X gm_P (d + 3) 33 (0, [some (.ref 0), o1, o2, o3], [], gm_h (gm_u S1 0 0 0), bc, bs) Q := by
  obtain ⟨hgood, _⟩ := gt_chk_good (gm_gr_wf hg) hr hch
  have hg1 : gm_gr (gm_u S1 0 0 0) R := gm_gr_u0 (gm_eqr_gr h1 (by simp) (by simp) (by simp) (by simp) (by simp) (by simp) hg)
  have hx1 : gm_tx (gm_u S1 0 0 0) L x := by
    refine ⟨?_, hx.2.1, fun p hp => ?_⟩
    · rw [gm_u_at, if_neg (by omega), h1 0 (by simp)]
      exact hx.1
    · rw [gm_u_at, if_neg (by omega), h1 2 (by simp)]
      exact hx.2.2 p hp
  refine gm_findEnds hgood hg1 hx1 (fun S' tab e1 e2 e3 => hq S' ⟨fun j hj => ?_, fun j hj => ?_⟩ ?_ ?_ ?_ (fun t n p ht hnd hp => ?_))
  · simp only [List.mem_cons, List.not_mem_nil, or_false, not_or] at hj
    rw [e1 j (by simp; omega), gm_u_row _ _ _ (by omega)]
    exact h1 j (by simp; omega)
  · simp only [List.mem_cons, List.not_mem_nil, or_false, not_or] at hj
    rw [e1 0 (by simp), gm_u_at, if_neg (by omega), h1 0 (by simp)]
  · rw [e1 0 (by simp), gm_u_at, if_pos ⟨rfl, rfl⟩]
  · rw [e1 0 (by simp)]
    exact hx1.1
  · exact gm_eqr_gr e1 (by simp) (by simp) (by simp) (by simp) (by simp) (by simp) hg1
  · have etr := (gm_eqr_tr e1 (by simp) (by simp) (by simp) (by simp) (by simp) (by simp)).1
    have ht' : gm_tr (gm_u S1 0 0 0) t false n := by rw [← etr]; exact ht
    rw [e2.1 n p (gm_tr_lt ht') hp, e3 t n p ht' hnd hp]
/-- match -/
theorem gm_match (hg : gm_gr S R) (hx : gm_tx S L x) {a1 a2 : Int32}
    (h1 : ¬ ((¬ a1 < 0 ∧ a1 < 4) ∧ ¬ a2 < 0 ∧ ¬ nI L < a2) → Q (.inl (some (.int 0)), gm_h (gm_u S 0 0 1)))
    (h2 : ∀ r p, r < 4 → p ≤ L → a1 = nI r → a2 = nI p → gt_chk R r ≠ 0 → ∀ S', gm_eqX S S' → gm_lt S' = gm_lt S → S' 0 0 = 2 → Q (.inl (some (.int 0)), gm_h S'))
    (h0 : ∀ r p, r < 4 → p ≤ L → a1 = nI r → a2 = nI p → gt_chk R r = 0 → ∀ S' f v, gm_eqX S S' → S' 0 0 = 0 → gm_lt S' ((gt_Cd L x R r p).take 40) f (gp_ct (fun c => (v c).toNat) 40) → gt_isF L x R (r, p) f → gt_isV L x R (r, p) v → Q (.inl (some (.int (gp_e (some (gt_Ed L x R r p))))), gm_h S')) :
    gx_X gm_P (d + 6) 43 (0, [some (.ref 0), some (.int a1), some (.int a2)], [], gm_h S, bc, bs) Q := by
  have bad : ¬ ((¬ a1 < 0 ∧ a1 < 4) ∧ ¬ a2 < 0 ∧ ¬ nI L < a2) → gx_X gm_P (d + 6) 43 (20, [some (.ref 0), some (.int a1), some (.int a2)], [.ref 0], gm_h S, bc, bs) Q := fun h => gb_match_20 (gb_match_37 ⟨fun h' => absurd (by decide) h', fun _ => h1 h⟩)
  refine gb_match_0 (gm_isRule ?_)
  by_cases hr' : ¬ a1 < 0 ∧ a1 < 4
  · rw [if_pos hr']
    refine gb_match_5 ⟨fun h => absurd h (by decide), fun _ => ⟨fun h => bad (fun hh => hh.2.1 h), fun hp0 => ⟨fun hpL => ?_, fun hpL => bad (fun hh => hh.2.2 ?_)⟩⟩⟩
    · rw [hx.1] at hpL
      obtain ⟨r, hr, rfl⟩ := gp_rule hr'
      obtain ⟨p, hp31, rfl⟩ := nI_of hp0
      have hp : p ≤ L := Nat.le_of_not_lt (fun z => hpL (nI_lt z hp31))
      have hL9 := hx.2.1
      refine gm_checked hg hr (fun S1 e1 => gb_match_29 ⟨fun hz => ?_, fun hz => ?_⟩)
      · have hch : gt_chk R r = 0 := by
          have hle : gt_chk R r ≤ 3 := by
            unfold gt_chk
            split
            · omega
            · split
              · omega
              · split <;> omega
          exact (nI_eq (b := 0) (by omega) (by decide)).mp hz
        obtain ⟨hgood, _⟩ := gt_chk_good (gm_gr_wf hg) hr hch
        refine gb_match_37 ⟨fun _ => gm_ready hg hx hr hch e1 (fun S2 q1 q2 q3 q4 q5 => gb_match_53 ?_), fun h' => absurd h' (by decide)⟩
        refine gm_matched hgood q4 (fun p hp => (hx.2.2 p hp).2) hL9 (fun k hk => gt_N_lt (gm_gr_wf hg) hr k hk) q5 (gt_N_self r) hp (fun S3 f v w1 w2 w3 w4 w5 => gb_match_59 (h0 r p hr hp rfl rfl hch S3 f v ⟨fun j hj => ?_, fun j hj => ?_⟩ ?_ w3 w4 w5))
        · simp only [List.mem_cons, List.not_mem_nil, or_false, not_or] at hj
          rw [w1.1 j (by simp; omega), q1.1 j (by simp; omega)]
        · simp only [List.mem_cons, List.not_mem_nil, or_false, not_or] at hj
          rw [w1.2 j (by simp; omega), q1.2 j (by simp; omega)]
        · rw [w1.2 0 (by simp), q2]
      · have hch : gt_chk R r ≠ 0 := fun h => hz (by rw [h]; rfl)
        refine gb_match_37 ⟨fun h' => absurd (by decide) h', fun _ => h2 r p hr hp rfl rfl hch _ ⟨fun j hj => ?_, fun j hj => ?_⟩ ?_ ?_⟩
        · simp only [List.mem_cons, List.not_mem_nil, or_false, not_or] at hj
          rw [gm_u_row _ _ _ (by omega)]
          exact e1 j (by simp; omega)
        · simp only [List.mem_cons, List.not_mem_nil, or_false, not_or] at hj
          rw [gm_u_at, if_neg (by omega), e1 0 (by simp)]
        · funext cp f n
          unfold gm_lt
          simp only [gm_u_at, e1 0 (by simp), e1 24 (by simp), e1 25 (by simp)]
          simp
        · rw [gm_u_at, if_pos ⟨rfl, rfl⟩]
    · rw [hx.1] at hpL
      exact hpL
  · rw [if_neg hr']
    exact gb_match_5 ⟨fun _ => bad (fun hh => hr' hh.1), fun h => absurd rfl h⟩
/-- find -/
theorem gm_find (hg : gm_gr S R) (hx : gm_tx S L x) {a1 : Int32} {o2 : Option Value}
    (h1 : ¬ (¬ a1 < 0 ∧ a1 < 4) → Q (.inl (some (.int 0)), gm_h (gm_u S 0 0 1)))
    (h2 : ∀ r, r < 4 → a1 = nI r → gt_chk R r ≠ 0 → ∀ S', gm_eqX S S' → gm_lt S' = gm_lt S → S' 0 0 = 2 → Q (.inl (some (.int 0)), gm_h S'))
    (h0 : ∀ r, r < 4 → a1 = nI r → gt_chk R r = 0 → ∀ S' p f v, (gt_fst (gt_Ed L x R r) (L + 1) 0 = some p ∨ gt_fst (gt_Ed L x R r) (L + 1) 0 = none ∧ p = L) → p ≤ L → gm_eqX S S' → S' 0 0 = 0 → gm_lt S' ((gt_Cd L x R r p).take 40) f (gp_ct (fun c => (v c).toNat) 40) → gt_isF L x R (r, p) f → gt_isV L x R (r, p) v → Q (.inl (some (.int (gp_e (some (gt_fst (gt_Ed L x R r) (L + 1) 0))))), gm_h S')) :
    gx_X gm_P (d + 6) 44 (0, [some (.ref 0), some (.int a1), o2], [], gm_h S, bc, bs) Q := by
  refine gb_find_0 (gm_isRule ?_)
  by_cases hr' : ¬ a1 < 0 ∧ a1 < 4
  · rw [if_pos hr']
    obtain ⟨r, hr, rfl⟩ := gp_rule hr'
    have hL9 := hx.2.1
    refine gb_find_5 ⟨fun _ => gm_checked hg hr (fun S1 e1 => gb_find_17 ⟨fun hz => ?_, fun hz => ?_⟩), fun h => absurd h (by decide)⟩
    · have hch : gt_chk R r = 0 := by
        have hle : gt_chk R r ≤ 3 := by
          unfold gt_chk
          split
          · omega
          · split
            · omega
            · split <;> omega
        exact (nI_eq (b := 0) (by omega) (by decide)).mp hz
      obtain ⟨hgood, _⟩ := gt_chk_good (gm_gr_wf hg) hr hch
      refine gb_find_25 ⟨fun _ => gm_ready hg hx hr hch e1 (fun S2 q1 q2 q3 q4 q5 => gb_find_41 ?_), fun h' => absurd h' (by decide)⟩
      -- the places
      have loop : ∀ (g p : Nat) (S3 : Nat → Nat → Int32), p + g = L + 1 → gt_fst (gt_Ed L x R r) (L + 1) 0 = gt_fst (gt_Ed L x R r) g p → (p = 0 ∨ ∃ f v, gm_lt S3 ((gt_Cd L x R r (p - 1)).take 40) f (gp_ct (fun c => (v c).toNat) 40) ∧ gt_isF L x R (r, p - 1) f ∧ gt_isV L x R (r, p - 1) v) → gm_eqX S S3 → S3 0 0 = 0 → S3 0 4 = nI L → gm_gr S3 R → gm_En R L x (gt_Em R) (fun k => gt_N R r k = true) S3 →
          gx_X gm_P (d + 6) 44 (43, [some (.ref 0), some (.int (nI r)), some (.int (nI p))], [], gm_h S3, bc, bs) Q := by
        intro g
        induction g with
        | zero =>
          intro p S3 hp hf hl k1 k2 k3 k4 k5
          have hpL : p = L + 1 := by omega
          have hlt : nI L < nI p := nI_lt (by omega) (by omega)
          rcases hl with h | ⟨f, v, l1, l2, l3⟩
          · omega
          · have e : p - 1 = L := by omega
            rw [e] at l1 l2 l3
            refine gb_find_43 ⟨fun _ => gb_find_66 ⟨fun h => absurd (by rw [k3]; exact hlt) h, fun _ => gb_find_79 ?_⟩, fun h => absurd (by rw [k3]; exact hlt) h⟩
            have hn : gt_fst (gt_Ed L x R r) (L + 1) 0 = none := hf
            have := h0 r hr rfl hch S3 L f v (.inr ⟨hn, rfl⟩) (Nat.le_refl _) k1 k2 l1 l2 l3
            rw [hn] at this
            exact this
        | succ g ih =>
          intro p S3 hp hf hl k1 k2 k3 k4 k5
          have hpL : p ≤ L := by omega
          have hnlt : ¬ S3 0 4 < nI p := by rw [k3]; exact nI_nlt hpL (by omega)
          refine gb_find_43 ⟨fun h => absurd h hnlt, fun _ => gm_matched hgood k4 (fun p hp => (hx.2.2 p hp).2) hL9 (fun k hk => gt_N_lt (gm_gr_wf hg) hr k hk) k5 (gt_N_self r) hpL (fun S4 f v w1 w2 w3 w4 w5 => ?_)⟩
          have x1 : gm_eqX S S4 := ⟨fun j hj => by
            simp only [List.mem_cons, List.not_mem_nil, or_false, not_or] at hj
            rw [w1.1 j (by simp; omega), k1.1 j (by simp; omega)], fun j hj => by
            simp only [List.mem_cons, List.not_mem_nil, or_false, not_or] at hj
            rw [w1.2 j (by simp; omega), k1.2 j (by simp; omega)]⟩
          have x2 : S4 0 0 = 0 := by rw [w1.2 0 (by simp), k2]
          have x3 : S4 0 4 = nI L := by rw [w1.2 4 (by simp), k3]
          have hf2 : gt_fst (gt_Ed L x R r) (g + 1) p = (if (gt_Ed L x R r p).isSome then some p else gt_fst (gt_Ed L x R r) g (p + 1)) := rfl
          rw [hf2] at hf
          refine gb_find_57 ⟨fun h => gb_find_66 ⟨fun _ => gb_find_79 ?_, fun h' => absurd h' (by rw [x3]; exact nI_nlt hpL (by omega))⟩, fun h => ?_⟩
          · rw [gp_e_lt (fun q hq => by have := (gt_Ed_ok (L := L) (x := x) hgood r p q (gt_N_self r) hpL hq).2.1; omega)] at h
            have hs : (gt_Ed L x R r p).isSome = true := by
              cases h6 : gt_Ed L x R r p with
              | none => exact absurd h6 h
              | some q => rfl
            rw [if_pos hs] at hf
            have := h0 r hr rfl hch S4 p f v (.inl hf) hpL x1 x2 w3 w4 w5
            rw [hf] at this
            exact this
          · rw [gp_e_lt (fun q hq => by have := (gt_Ed_ok (L := L) (x := x) hgood r p q (gt_N_self r) hpL hq).2.1; omega)] at h
            rw [h] at hf
            rw [show nI p + Int32.ofInt 1 = nI (p + 1) from nI_1 p]
            exact ih (p + 1) S4 (by omega) hf (.inr ⟨f, v, w3, w4, w5⟩) x1 x2 x3 (gm_gr_eqM w1 k4) (gm_En_eqM w1 w2 k5)
      exact loop (L + 1) 0 S2 (by omega) rfl (.inl rfl) q1 q2 q3 q4 q5
    · have hch : gt_chk R r ≠ 0 := fun h => hz (by rw [h]; rfl)
      refine gb_find_25 ⟨fun h' => absurd (by decide) h', fun _ => h2 r hr rfl hch _ ⟨fun j hj => ?_, fun j hj => ?_⟩ ?_ ?_⟩
      · simp only [List.mem_cons, List.not_mem_nil, or_false, not_or] at hj
        rw [gm_u_row _ _ _ (by omega)]
        exact e1 j (by simp; omega)
      · simp only [List.mem_cons, List.not_mem_nil, or_false, not_or] at hj
        rw [gm_u_at, if_neg (by omega), e1 0 (by simp)]
      · funext cp f n
        unfold gm_lt
        simp only [gm_u_at, e1 0 (by simp), e1 24 (by simp), e1 25 (by simp)]
        simp
      · rw [gm_u_at, if_pos ⟨rfl, rfl⟩]
  · rw [if_neg hr']
    exact gb_find_5 ⟨fun h => absurd rfl h, fun _ => gb_find_25 ⟨fun h' => absurd (by decide) h', fun _ => h1 hr'⟩⟩
/-- capture: of the latest match -/
theorem gm_capture {cp : List (Nat × Nat)} {f n : Nat} (hl : gm_lt S cp f n) {a1 a2 : Int32} (h1 : ¬ (¬ a1 < 0 ∧ a1 < nI cp.length ∧ ¬ a2 < 0 ∧ ¬ 1 < a2) → Q (.inl (some (.int 0)), gm_h (gm_u S 0 0 1)))
    (h0 : ∀ i a b, a1 = nI i → cp[i]? = some (a, b) → (a2 = 0 ∨ a2 = 1) → Q (.inl (some (.int (if a2 = 0 then nI a else nI b))), gm_h (gm_u S 0 0 0))) :
    gx_X gm_P (d + 1) 46 (0, [some (.ref 0), some (.int a1), some (.int a2)], [], gm_h S, bc, bs) Q := by
  obtain ⟨l1, l2, l3, _⟩ := hl
  have bad : ¬ (¬ a1 < 0 ∧ a1 < nI cp.length ∧ ¬ a2 < 0 ∧ ¬ 1 < a2) → gx_X gm_P (d + 1) 46 (22, [some (.ref 0), some (.int a1), some (.int a2)], [.ref 0], gm_h S, bc, bs) Q := fun h => gb_capture_22 (gb_capture_27 ⟨fun h' => absurd (by decide) h', fun _ => h1 h⟩)
  refine gb_capture_0 ⟨fun h => bad (fun hh => hh.1 h), fun ha => ⟨fun h => bad (fun hh => h (by rw [l1]; exact hh.2.1)), fun hb => ⟨fun h => bad (fun hh => hh.2.2.1 h), fun hc => ⟨fun hd => gb_capture_27 ⟨fun _ => ?_, fun h => absurd h (by decide)⟩, fun h => bad (fun hh => hh.2.2.2 h)⟩⟩⟩⟩
  obtain ⟨i, hi31, rfl⟩ := nI_of ha
  rw [l1] at hb
  have hi : i < cp.length := (nI_ltI hi31 (by omega)).mp hb
  have hcl : (nI i).toNatClampNeg = i := nI_clamp hi31
  have hin : vp_in (nI i) 40 := vp_in_nI (by omega) (by decide)
  obtain ⟨a, b, hab⟩ : ∃ a b, cp[i]? = some (a, b) := ⟨cp[i].1, cp[i].2, by rw [List.getElem?_eq_getElem hi]⟩
  obtain ⟨m1, m2⟩ := l3 i a b hab
  have ha2 : a2 = 0 ∨ a2 = 1 := by
    obtain ⟨j, hj31, rfl⟩ := nI_of hc
    have : j ≤ 1 := Nat.le_of_not_lt (fun z => hd (nI_lt (a := 1) z hj31))
    have : j = 0 ∨ j = 1 := by omega
    rcases this with rfl | rfl
    · exact .inl rfl
    · exact .inr rfl
  rw [hcl, m1, m2]
  refine ⟨fun h => ⟨hin, gb_capture_58 ?_⟩, fun h => ⟨hin, gb_capture_58 ?_⟩⟩
  · have := h0 i a b rfl hab ha2
    rw [if_neg h] at this
    exact this
  · have := h0 i a b rfl hab ha2
    rw [if_pos h] at this
    exact this
end GMQ
