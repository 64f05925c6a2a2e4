/-! The model's captureWithin, matched, match, find. -/
theorem gn_kch_len {D : Nat → Prop} {kd wi mo : Nat → Nat} {nx : Nat → Option Nat} {L : Nat} {x : Nat → Nat} {e : Nat → Nat → Option Nat} {p : Nat} (t : gt_T) : ∀ n q, gn_tr D kd wi mo nx t true n → gt_en L x e t p = some q → (gn_kch L x e nx t n p).length = 1 := by
  induction t with
  | sepBy1 a s c b iha ihc =>
    intro n q ht hq
    obtain ⟨_, k1, k2, m, k3, k4⟩ := ht
    have hq1 : (match gt_en L x e a p with | none => gt_en L x e c p | some q => some q) = some q := hq
    unfold gn_kch
    cases h6 : gt_en L x e a p with
    | some q1 => rfl
    | none =>
      rw [h6] at hq1
      simp only [k3]
      exact ihc m q k4 hq1
  | _ => exact fun n q _ _ => rfl
section GMP
variable {S S0 : Nat → Nat → Int32} {R : Nat → Option gt_T} {d bc bs : Nat} {Q : gx_R → Prop} {L : Nat} {x : Nat → Nat} {Em : Nat → Bool} {A : Nat → Prop} {o : Nat → Nat} {rest : List Nat} {cp : List (Nat × Nat)}
/-- captureWithin: a cell's own capture is kept, and the cells within it are pushed -/
theorem gm_captureWithin (hgood : gt_good R Em A o) (hL9 : L ≤ 9) (hA4 : ∀ r, A r → r < 4) (hE : gm_En R L x Em A S0) {t : gt_T} {n p q : Nat} (ht : gm_tr S0 t false n) (hnd : gn_nd Em A t) (hp : p ≤ L) (hen : gt_en L x (gt_Ed L x R) t p = some q) (hK : gm_K S0 S rest cp) (hcp : cp.length < 40) (hlen : rest.length + (gn_k L x R (gt_Ed L x R) (fun n => gp_n (S0 8 n)) (gm_nx S0) t n p).length ≤ 2600) {o3 o4 o5 o6 : Option Value}
    (hq : ∀ S', gm_K S0 S' ((gn_k L x R (gt_Ed L x R) (fun n => gp_n (S0 8 n)) (gm_nx S0) t n p).map gn_cd ++ rest) (cp ++ gn_own L x (gt_Ed L x R) t p) → Q (.inl none, gm_h S')) :
    gx_X gm_P (d + 3) 41 (0, [some (.ref 0), some (.int (nI n)), some (.int (nI p)), o3, o4, o5, o6], [], gm_h S, bc, bs) Q := by
  have he := gt_Ed_ok (L := L) (x := x) hgood
  have hn := gm_tr_lt ht
  have hc : (nI n).toNatClampNeg = n := nI_clamp (by omega)
  have hin : vp_in (nI n) 200 := vp_in_nI (by omega) (by decide)
  have e7 := gm_K_row hK (j := 7) (by simp)
  have e8 := gm_K_row hK (j := 8) (by simp)
  have e20 := gm_K_row hK (j := 20) (by simp)
  have e28 := hK.2.2.1
  refine gb_captureWithin_0 ?_
  rw [hc, e7, e8, e20, e28]
  cases t with
  | cat l hi =>
    have hk : S0 7 n = 0 := gp_lit ht.2.2.1
    simp (decide := true) only [hk, not_false_eq_true, true_implies, false_implies, and_true, true_and, implies_true, not_true_eq_false]
    exact ⟨hin, gb_captureWithin_295 (hq S (by simpa [gn_k, gn_own] using hK))⟩
  | parser r =>
    have hk : S0 7 n = 1 := gp_lit ht.2.2.1
    have hA : A (gt_nm r) := hnd.1 _ (by simp [gt_nms])
    have hr := hA4 _ hA
    have hw2 : S0 8 n = nI (gt_nm r) := gp_of ht.2.2.2
    obtain ⟨_, t', htR, _⟩ := hgood _ hA
    have ek : gn_k L x R (gt_Ed L x R) (fun n => gp_n (S0 8 n)) (gm_nx S0) (.parser r) n p = [(t', 40 * gt_nm r, p)] := by simp only [gn_k, htR]
    rw [ek] at hlen hq
    simp (decide := true) only [hk, hw2, gp_40 hr, not_false_eq_true, true_implies, false_implies, and_true, true_and, implies_true, not_true_eq_false]
    refine ⟨hin, hin, gm_push hK (by omega) (by omega) (by simpa using hlen) (fun S' hK' => gb_captureWithin_81 (gb_captureWithin_295 (hq S' (by simpa [gn_cd, gn_own] using hK'))))⟩
  | const r =>
    have hk : S0 7 n = 2 := gp_lit ht.2.2
    simp (decide := true) only [hk, not_false_eq_true, true_implies, false_implies, and_true, true_and, implies_true, not_true_eq_false]
    exact ⟨hin, gm_keep hK hcp (fun S' hK' => gb_captureWithin_24 (gb_captureWithin_295 (hq S' (by simpa [gn_k, gn_own] using hK'))))⟩
  | unary m a =>
    have hk : S0 7 n = 3 := gp_lit ht.2.2.1
    obtain ⟨g1, g2, g3⟩ := gp_13 hn (show p < 13 by omega)
    have hw := gm_tr_lt ht.2.2.2
    simp (decide := true) only [hk, not_false_eq_true, true_implies, false_implies, and_true, true_and, implies_true, not_true_eq_false]
    rw [g1, g2, hE _ n p ht hnd hp, hen]
    have hea : gt_en L x (gt_Ed L x R) a p = some q := hen
    refine ⟨hin, g3, gm_keep (b := q) hK hcp (fun S' hK' => gb_captureWithin_48 ⟨hin, ?_⟩)⟩
    rw [hc, gm_K_row hK' (j := 8) (by simp), ← gp_nI (S0 8 n)]
    refine gm_push hK' hw (by omega) (by simpa [gn_k] using hlen) (fun S2 hK2 => gb_captureWithin_59 (gb_captureWithin_295 (hq S2 ?_)))
    simpa [gn_k, gn_own, gn_cd, hea] using hK2
  | trailingNode m k' l a =>
    have hk := ht.2.2.1
    by_cases k1 : k' = 1
    · rw [if_pos k1] at hk
      have hk : S0 7 n = 7 := gp_lit hk
      simp (decide := true) only [hk, not_false_eq_true, true_implies, false_implies, and_true, true_and, implies_true, not_true_eq_false]
      exact ⟨hin, gb_captureWithin_295 (hq S (by simpa [gn_k, gn_own] using hK))⟩
    · rw [if_neg k1] at hk
      have hk : S0 7 n = 8 := gp_lit hk
      simp (decide := true) only [hk, not_false_eq_true, true_implies, false_implies, and_true, true_and, implies_true, not_true_eq_false]
      exact ⟨hin, gb_captureWithin_295 (hq S (by simpa [gn_k, gn_own] using hK))⟩
  | node m k' a =>
    have hk := ht.2.2.2.1
    have hk3 := ht.2.2.1
    obtain ⟨na, nem⟩ := gn_nd_rep hnd
    have hta : gm_tr S0 a false (gp_n (S0 8 n)) := ht.2.2.2.2
    have hw := gm_tr_lt hta
    have ek : gn_k L x R (gt_Ed L x R) (fun n => gp_n (S0 8 n)) (gm_nx S0) (.node m k' a) n p = gn_kt L x (gt_Ed L x R) a (gp_n (S0 8 n)) (gt_most k') p := rfl
    rw [ek] at hlen hq
    have eo : gn_own L x (gt_Ed L x R) (.node m k' a) p = [] := rfl
    rw [eo, List.append_nil] at hq
    have : k' = 0 ∨ k' = 1 ∨ k' = 2 := by omega
    rcases this with rfl | rfl | rfl
    · have hk : S0 7 n = 4 := gp_lit hk
      simp (decide := true) only [hk, not_false_eq_true, true_implies, false_implies, and_true, true_and, implies_true, not_true_eq_false]
      exact ⟨hin, gb_captureWithin_217 (gm_cWs hgood hL9 hE hn hta na (nem (by decide)) (by decide) (fun S' o5 hK' => gb_captureWithin_295 (hq S' hK')) (L + 1) p S [] hp (by omega) (by simp only [List.length_nil]; have : gt_most 0 = 10 := rfl; rw [this] at hlen; omega) rfl (by simpa using hK))⟩
    · have hk : S0 7 n = 5 := gp_lit hk
      simp (decide := true) only [hk, not_false_eq_true, true_implies, false_implies, and_true, true_and, implies_true, not_true_eq_false]
      exact ⟨hin, gb_captureWithin_217 (gm_cWs hgood hL9 hE hn hta na (nem (by decide)) (by decide) (fun S' o5 hK' => gb_captureWithin_295 (hq S' hK')) (L + 1) p S [] hp (by omega) (by simp only [List.length_nil]; have : gt_most 1 = 10 := rfl; rw [this] at hlen; omega) rfl (by simpa using hK))⟩
    · have hk : S0 7 n = 6 := gp_lit hk
      simp (decide := true) only [hk, not_false_eq_true, true_implies, false_implies, and_true, true_and, implies_true, not_true_eq_false]
      rw [show gt_most 2 = 0 + 1 from rfl, gn_kt_s] at hlen hq
      obtain ⟨g1, g2, g3⟩ := gp_13 hw (show p < 13 by omega)
      refine ⟨hin, gb_captureWithin_217 (gb_captureWithin_220 ?_)⟩
      rw [hc, e8, ← gp_nI (S0 8 n), g1, g2, e20, hE a _ p hta na hp, gp_e_lt (fun q hq => by have := (gt_en_ok he a na.1 p q hp hq).2.1; omega)]
      refine ⟨hin, g3, fun h => gb_captureWithin_289 (gm_turn (new := []) (by simpa using hK) (fun S' hK' => gb_captureWithin_295 (hq S' ?_))), fun h => ⟨fun h6 => absurd rfl h6, fun _ => ⟨fun h7 => absurd e28 h7, fun _ => gb_captureWithin_255 ⟨hin, ?_⟩⟩⟩⟩
      · rw [h]
        simpa using hK'
      · cases h6 : gt_en L x (gt_Ed L x R) a p with
        | none => exact absurd h6 h
        | some q1 =>
          rw [h6] at hlen hq
          have h7 := gt_en_ok he a na.1 p q1 hp h6
          obtain ⟨f1, f2, f3⟩ := gp_13 hw (show q1 < 13 by omega)
          rw [hc, e8, ← gp_nI (S0 8 n)]
          refine gm_push hK hw (by omega) (by simpa [gn_kt] using hlen) (fun S' hK' => gb_captureWithin_267 ?_)
          rw [hc, gm_K_row hK' (j := 8) (by simp), ← gp_nI (S0 8 n), g1, g2, gm_K_row hK' (j := 20) (by simp), hE a _ p hta na hp, h6]
          refine ⟨hin, g3, gb_captureWithin_220 ?_⟩
          have eq1 : gp_e (some (some q1)) = nI q1 := rfl
          rw [eq1, hc, gm_K_row hK' (j := 8) (by simp), ← gp_nI (S0 8 n), f1, f2]
          have stop : gx_X gm_P (d + 3) 41 (289, [some (.ref 0), some (.int (nI n)), some (.int (nI p)), some (.int 6), some (.int (nI rest.length)), some (.int (nI q1)), o6], [], gm_h S', bc, bs) Q := gb_captureWithin_289 (gm_turn (new := [13 * gp_n (S0 8 n) + p]) (by simpa using hK') (fun S2 hK2 => gb_captureWithin_295 (hq S2 (by simpa [gn_kt, gn_cd] using hK2))))
          refine ⟨hin, f3, fun _ => stop, fun _ => ⟨fun h6 => absurd rfl h6, fun _ => ⟨fun _ => stop, fun h8 => ?_⟩⟩⟩
          rw [hK'.2.2.1] at h8
          have := (nI_eq (by have := hK'.2.2.2.2.2.2.2; omega) (by have := hK.2.2.2.2.2.2.2; omega)).mp h8
          simp at this
  | nodeWithAntiquot s k' a =>
    obtain ⟨_, _, hk, hta, hl⟩ := ht
    have hw : S0 8 n = nI (gp_n (S0 8 n)) := (gp_nI _).symm
    have eo : gn_own L x (gt_Ed L x R) (.nodeWithAntiquot s k' a) p = [] := rfl
    rw [eo, List.append_nil] at hq
    simp only [gn_k] at hlen hq
    rcases hl with ⟨h9', hl⟩ | ⟨h9', hl⟩
    · rw [h9'] at hk
      rw [if_pos h9'] at hlen hq
      have hk : S0 7 n = 9 := gp_lit hk
      simp (decide := true) only [hk, not_false_eq_true, true_implies, false_implies, and_true, true_and, implies_true, not_true_eq_false]
      refine ⟨hin, hin, ?_⟩
      rw [hw]
      exact gm_cW9L hgood hL9 hE (fun S' o5 o6 hK' => gb_captureWithin_295 (hq S' hK')) a _ p S [] q hp hta hl hnd hen (by simp only [List.length_nil]; omega) rfl (by simpa using hK)
    · rw [h9'] at hk
      rw [if_neg (by omega)] at hlen hq
      have hk : S0 7 n = 10 := gp_lit hk
      simp (decide := true) only [hk, not_false_eq_true, true_implies, false_implies, and_true, true_and, implies_true, not_true_eq_false]
      refine ⟨hin, hin, ?_⟩
      rw [hw]
      exact gm_cW10 hgood hL9 hE hp hK (by rw [gn_kch_len a _ q hta hen] at hlen; exact hlen) a _ q hta hl hnd hen (fun S' o5 hK' => gb_captureWithin_295 (hq S' hK'))
  | sepBy a s c b => cases ht.1
  | sepBy1 a s c b => cases ht.1
  | _ => exact False.elim ht
/-- the latest match, as the model holds it: its captures, how far (one more; 0: nowhere), how many pairs -/
def gm_lt (S : Nat → Nat → Int32) (cp : List (Nat × Nat)) (f n : Nat) : Prop := S 0 30 = nI cp.length ∧ cp.length ≤ 40 ∧ (∀ i a b, cp[i]? = some (a, b) → S 24 i = nI a ∧ S 25 i = nI b) ∧ S 0 33 = nI f + -1 ∧ f ≤ 10 ∧ S 0 34 = nI n ∧ n ≤ 40
/-- alike but for what a match changes -/
def gm_eqM (S0 S : Nat → Nat → Int32) : Prop := (∀ j, j ∉ [0, 20, 21, 22, 23, 24, 25] → S j = S0 j) ∧ ∀ j, j ∉ [28, 30, 33, 34] → S 0 j = S0 0 j
/-- matched -/
theorem gm_matched (hgood : gt_good R Em A o) (hg : gm_gr S R) (hx : ∀ p, p < L → x p ≤ 126) (hL9 : L ≤ 9) (hA4 : ∀ r, A r → r < 4) (hE : gm_En R L x Em A S) {r p : Nat} (hA : A r) (hp : p ≤ L) {o3 o4 : Option Value}
    (hq : ∀ S' f v, gm_eqM S S' → S' 20 = S 20 → gm_lt S' ((gt_Cd L x R r p).take 40) f (gp_ct (fun c => (v c).toNat) 40) → gt_isF L x R (r, p) f → gt_isV L x R (r, p) v → Q (.inl (some (.int (gp_e (some (gt_Ed L x R r p))))), gm_h S')) :
    gx_X gm_P (d + 5) 42 (0, [some (.ref 0), some (.int (nI r)), some (.int (nI p)), o3, o4], [], gm_h S, bc, bs) Q := by
  have he := gt_Ed_ok (L := L) (x := x) hgood
  have hr := hA4 r hA
  obtain ⟨_, t, ht, _⟩ := hgood r hA
  have htr := (gm_gr_rts hg).2 r t ht
  have hnd := gn_nd_rule hgood hA ht
  have hfix := gt_Ed_fix (x := x) hgood hL9 hA hp ht
  have hCfix := gt_Cd_fix (x := x) hgood hL9 hA hp ht
  refine gb_matched_0 (gm_lookAll hgood hg hx hL9 hA4 hE hA hp (fun S1 f v g1 g2 g3 g4 g5 g6 => gb_matched_6 ?_))
  have h520 : (520 : Int32) * nI r + nI p = nI (13 * (40 * r) + p) := by
    rw [show (520 : Int32) * nI r = nI (520 * r) from (Int32.ofNat_mul 520 r).symm, nI_add, show 520 * r = 13 * (40 * r) by omega]
  obtain ⟨q1, q2, q3⟩ := gp_13 (n := 40 * r) (by omega) (show p < 13 by omega)
  have hE1 : S1 20 (13 * (40 * r) + p) = gp_e (some (gt_Ed L x R r p)) := by
    rw [g1.1 20 (by simp), hE t (40 * r) p htr hnd hp, hfix]
  rw [h520, q2, hE1, gp_e_lt (fun q hq' => by have := (he r p q hA hp hq').2.1; omega), gp_40 hr]
  -- the captures' rows to begin with
  have hK0 : gm_K S1 (gm_u (gm_u S1 0 30 0) 0 28 0) [] [] := by
    refine ⟨fun j hj => ?_, fun j hj => ?_, ?_, (fun i c hi => by simp at hi), ?_, Nat.zero_le _, (fun i a b hi => by simp at hi), Nat.zero_le _⟩
    · simp only [List.mem_cons, List.not_mem_nil, or_false, not_or] at hj
      rw [gm_u_row _ _ _ (by omega), gm_u_row _ _ _ (by omega)]
    · simp only [List.mem_cons, List.not_mem_nil, or_false, not_or] at hj
      rw [gm_u_at, if_neg (by omega), gm_u_at, if_neg (by omega)]
    · rw [gm_u_at, if_pos ⟨rfl, rfl⟩]; rfl
    · rw [gm_u_at, if_neg (by omega), gm_u_at, if_pos ⟨rfl, rfl⟩]; rfl
  -- the end
  have fin : ∀ S' stk (o1 o2 o4 : Option Value), gm_K S1 S' stk ((gt_Cd L x R r p).take 40) → gx_X gm_P (d + 5) 42 (96, [some (.ref 0), o1, o2, some (.int (gp_e (some (gt_Ed L x R r p)))), o4], [], gm_h S', bc, bs) Q := fun S' stk o1 o2 o4 hK => by
    obtain ⟨k1, k2, k3, k4, k5, k6, k7, k8⟩ := hK
    refine gb_matched_96 (hq S' f v ⟨fun j hj => ?_, fun j hj => ?_⟩ ?_ ⟨k5, k6, k7, ?_, g3, ?_, gp_ct_N v 40⟩ g4 g5)
    · simp only [List.mem_cons, List.not_mem_nil, or_false, not_or] at hj
      rw [k1 j (by simp; omega), g1.1 j (by simp; omega)]
    · simp only [List.mem_cons, List.not_mem_nil, or_false, not_or] at hj
      rw [k2 j (by simp; omega), g1.2 j (by simp; omega)]
    · rw [k1 20 (by simp), g1.1 20 (by simp)]
    · rw [k2 33 (by simp), g2]
    · rw [k2 34 (by simp), g6]
  refine ⟨q3, fun h => ?_, fun h => ?_⟩
  · -- it fails
    have hC0 : gt_Cd L x R r p = [] := by rw [hCfix, h]; rfl
    have := fin _ [] (some (.int (nI r))) (some (.int (nI p))) o4 (by rw [hC0]; exact hK0)
    refine gb_matched_42 ⟨fun _ => this, fun h0 => absurd h0 ?_⟩
    rw [hK0.2.2.1]
    decide
  · obtain ⟨q, hqe⟩ : ∃ q, gt_Ed L x R r p = some q := by
      cases h6 : gt_Ed L x R r p with
      | none => exact absurd h6 h
      | some q => exact ⟨q, rfl⟩
    have hen : gt_en L x (gt_Ed L x R) t p = some q := by rw [← hfix]; exact hqe
    have hC : gt_Cd L x R r p = gt_ca L x (gt_Ed L x R) (gt_Cd L x R) t p := by rw [hCfix, hqe]; rfl
    have hqL := (he r p q hA hp hqe).2.1
    have hg1 : gm_gr S1 R := by
      have heq : gm_eqr [0, 21, 22, 23] S S1 := g1.1
      exact gm_eqr_gr heq (by simp) (by simp) (by simp) (by simp) (by simp) (by simp) hg
    have etr : gm_tr S1 = gm_tr S := (gm_eqr_tr (l := [0, 21, 22, 23]) g1.1 (by simp) (by simp) (by simp) (by simp) (by simp) (by simp)).1
    have hEn1 : gm_En R L x Em A S1 := fun t' n' p' ht' hnd' hp' => by
      rw [g1.1 20 (by simp)]
      exact hE t' n' p' (by rw [← etr]; exact ht') hnd' hp'
    refine gm_push (stk := []) (cp := []) hK0 (by omega) (by omega) (by simp) (fun S2 hK2 => ?_)
    -- the loop
    have run := gn_run (L := L) (x := x) (D := gm_D S1) (kd := fun n => gp_n (S1 7 n)) (wi := fun n => gp_n (S1 8 n)) (mo := fun n => gp_n (S1 9 n)) (nx := gm_nx S1) hgood hL9 (fun r t _ ht => (gm_gr_rts hg1).2 r t ht) (fun r t ht => (hg.2.2 r t ht).2.2.1)
      (Lp := fun st c => ∀ S' (o4 : Option Value), gm_K S1 S' (st.map gn_cd) c → gx_X gm_P (d + 5) 42 (42, [some (.ref 0), some (.int (nI r)), some (.int (nI p)), some (.int (gp_e (some (gt_Ed L x R r p)))), o4], [], gm_h S', bc, bs) Q) (T := gt_Cd L x R r p) ?full ?step (4 * (L - p) + o r) t
    · have hb := run.1 (40 * r) p q [] [] [] ((gm_gr_rts hg1).2 r t ht) hnd hp hen (fun dd hd => ?ev) ?bd (by rw [hC]; simp) (fun S' o4 hK' => ?last) S2 o4 (by simpa [gn_cd] using hK2)
      · exact hb
      case ev =>
        obtain ⟨_, t2, ht2, _, n2, n3, _⟩ := hgood r hA
        rw [ht] at ht2
        cases ht2
        have h4 := gt_ev_in he t n2 p hp dd.1 dd.2 hd
        have hA' := n2 dd.1 h4.1
        by_cases hpp : dd.2 = p
        · have := n3 dd.1 (h4.2.2.2 hpp)
          omega
        · have := (hgood dd.1 hA').1
          omega
      case bd =>
        have h1 := (hg.2.2 r t ht).2.2.1
        have h2 := (hgood r hA).1
        simp only [List.length_nil]
        omega
      case last =>
        rw [List.nil_append, ← hC] at hK'
        refine gb_matched_42 ⟨fun _ => fin S' _ _ _ _ hK', fun h0 => absurd h0 ?_⟩
        rw [hK'.2.2.1]
        decide
    case full =>
      intro st h40 S' o4' hK'
      refine gb_matched_42 ⟨fun _ => fin S' _ _ _ _ hK', fun _ => ⟨fun _ => fin S' _ _ _ _ hK', fun h0 => absurd h0 ?_⟩⟩
      rw [hK'.2.2.2.2.1, List.length_take, Nat.min_eq_left h40]
      decide
    case step =>
      intro t' n' p' rest' c ht' hnd' hp' hsome hc40 hlen' hnext S' o4' hK'
      obtain ⟨q', hq'⟩ := Option.isSome_iff_exists.mp hsome
      have hn' := gm_tr_lt (S := S1) ht'
      obtain ⟨k1, k2, k3, k4, k5, k6, k7, k8⟩ := id hK'
      simp only [List.map_cons, List.length_cons] at k3 k8
      have hpos : (0 : Int32) < S' 0 28 := by
        rw [k3]
        exact nI_lt (a := 0) (by omega) (by omega)
      have hm1 : S' 0 28 - 1 = nI (rest'.map gn_cd).length := by
        rw [k3]
        exact nI_pred _
      have hcl : (nI (rest'.map gn_cd).length).toNatClampNeg = (rest'.map gn_cd).length := nI_clamp (by omega)
      have htop : S' 22 (rest'.map gn_cd).length = nI (13 * n' + p') := by
        have := k4 0 (13 * n' + p') rfl
        simpa [gn_cd] using this
      obtain ⟨d1, d2⟩ := gp_divc (c := 13 * n' + p') (by omega)
      refine gb_matched_42 ⟨fun h => absurd hpos h, fun _ => ⟨fun h => absurd ?_ h, fun _ => ?_⟩⟩
      · rw [k5]
        exact nI_lt (b := 40) hc40 (by decide)
      · rw [hm1, hcl, htop]
        have d3 : nI (13 * n' + p') / 13 = nI n' := by rw [d1, show (13 * n' + p') / 13 = n' by omega]
        have d4 : nI (13 * n' + p') - nI (13 * n' + p') / 13 * 13 = nI p' := by rw [d2, show (13 * n' + p') % 13 = p' by omega]
        rw [d4, d3]
        refine ⟨vp_in_nI (by omega) (by decide), ?_⟩
        have hK3 : gm_K S1 (gm_u S' 0 28 (nI (rest'.map gn_cd).length)) (rest'.map gn_cd) c := by
          refine ⟨fun j hj => ?_, fun j hj => ?_, ?_, fun i c' hi => ?_, ?_, k6, fun i a b hi => ?_, by omega⟩
          · rw [gm_u_row _ _ _ (fun e => hj (by simp [e]))]
            exact k1 j hj
          · rw [gm_u_at, if_neg (fun e => hj (by simp [e.2]))]
            exact k2 j hj
          · rw [gm_u_at, if_pos ⟨rfl, rfl⟩]
          · rw [gm_u_at, if_neg (by omega)]
            have := (List.getElem?_eq_some_iff.mp hi).1
            have h := k4 (i + 1) c' (by simpa using hi)
            rw [← h]
            congr 1
            simp
            omega
          · rw [gm_u_at, if_neg (by omega)]; exact k5
          · rw [gm_u_at, if_neg (by omega), gm_u_at, if_neg (by omega)]; exact k7 i a b hi
        refine gm_captureWithin hgood hL9 hA4 hEn1 ht' hnd' hp' hq' hK3 hc40 (by simpa using hlen') (fun S4 hK4 => gb_matched_93 (hnext S4 _ ?_))
        simpa using hK4
end GMP
