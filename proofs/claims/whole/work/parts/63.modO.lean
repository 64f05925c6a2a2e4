/-! The model's captureWithin, matched. -/
section GNKT
variable {L : Nat} {x : Nat → Nat} {e : Nat → Nat → Option Nat} {a : gt_T} {n : Nat}
theorem gn_kt_s (k p : Nat) : gn_kt L x e a n (k + 1) p = (match gt_en L x e a p with | none => [] | some q => (a, n, p) :: gn_kt L x e a n k q) := rfl
theorem gn_kt_more (hm : ∀ p q, p ≤ L → gt_en L x e a p = some q → p < q ∧ q ≤ L) : ∀ (k p : Nat), p ≤ L → L - p < k → gn_kt L x e a n (k + 1) p = gn_kt L x e a n k p
  | 0, p, hp, h => absurd h (Nat.not_lt_zero _)
  | k + 1, p, hp, h => by
    rw [gn_kt_s (k + 1), gn_kt_s k]
    cases h1 : gt_en L x e a p with
    | none => rfl
    | some q =>
      have h2 := hm p q hp h1
      simp only [gn_kt_more hm k q h2.2 (by omega)]
theorem gn_kt_roll (hm : ∀ p q, p ≤ L → gt_en L x e a p = some q → p < q ∧ q ≤ L) {k p : Nat} (hp : p ≤ L) (hk : L - p < k) : gn_kt L x e a n k p = (match gt_en L x e a p with | none => [] | some q => (a, n, p) :: gn_kt L x e a n k q) := by
  cases k with
  | zero => exact absurd hk (Nat.not_lt_zero _)
  | succ k =>
    rw [gn_kt_s k]
    cases h1 : gt_en L x e a p with
    | none => rfl
    | some q =>
      have h2 := hm p q hp h1
      simp only [gn_kt_more hm k q h2.2 (by omega)]
end GNKT
/-- the code of a cell -/
def gn_cd (c : gt_T × Nat × Nat) : Nat := 13 * c.2.1 + c.2.2
section GMO
variable {S S0 : Nat → Nat → Int32} {R : Nat → Option gt_T} {d bc bs : Nat} {Q : gx_R → Prop} {L : Nat} {x : Nat → Nat} {Em : Nat → Bool} {A : Nat → Prop} {o : Nat → Nat} {rest : List Nat} {cp : List (Nat × Nat)}
theorem gm_cW9L (hgood : gt_good R Em A o) (hL9 : L ≤ 9) (hE : gm_En R L x Em A S0) {o1 o2 o3 : Option Value} {res : List Nat}
    (K : ∀ S' o5 o6, gm_K S0 S' (res ++ rest) cp → gx_X gm_P (d + 2) 41 (295, [some (.ref 0), o1, o2, o3, some (.int (nI rest.length)), o5, o6], [], gm_h S', bc, bs) Q)
    (t : gt_T) : ∀ (n p : Nat) (S : Nat → Nat → Int32) (acc : List Nat) (q : Nat), p ≤ L → gm_tr S0 t true n → gt_isl 10 t = false → gn_nd Em A t → gt_en L x (gt_Ed L x R) t p = some q → acc.length + (gn_kseq L x (gt_Ed L x R) (gm_nx S0) t n p).length + rest.length ≤ 2600 → acc ++ (gn_kseq L x (gt_Ed L x R) (gm_nx S0) t n p).map gn_cd = res → gm_K S0 S (acc.reverse ++ rest) cp →
    gx_X gm_P (d + 2) 41 (152, [some (.ref 0), o1, o2, o3, some (.int (nI rest.length)), some (.int (nI p)), some (.int (nI n))], [], gm_h S, bc, bs) Q := by
  have he := gt_Ed_ok (L := L) (x := x) hgood
  have one : ∀ (a : gt_T) (n p q : Nat) (S : Nat → Nat → Int32) (acc : List Nat), p ≤ L → gm_tr S0 a false n → gn_nd Em A a → gt_en L x (gt_Ed L x R) a p = some q → acc.length + 1 + rest.length ≤ 2600 → gm_K S0 S (acc.reverse ++ rest) cp →
      (∀ S', gm_K S0 S' ((acc ++ [13 * n + p]).reverse ++ rest) cp → gx_X gm_P (d + 2) 41 (152, [some (.ref 0), o1, o2, o3, some (.int (nI rest.length)), some (.int (nI q)), some (.int (S0 10 n))], [], gm_h S', bc, bs) Q) →
      gx_X gm_P (d + 2) 41 (152, [some (.ref 0), o1, o2, o3, some (.int (nI rest.length)), some (.int (nI p)), some (.int (nI n))], [], gm_h S, bc, bs) Q := fun a n p q S acc hp ha hnd hq hlen hK K1 => by
    have hn := gm_tr_lt ha
    obtain ⟨g1, g2, g3⟩ := gp_13 hn (show p < 13 by omega)
    have hc : (nI n).toNatClampNeg = n := nI_clamp (by omega)
    refine gb_captureWithin_152 ⟨fun h => absurd h (nI_pos (by omega)), fun _ => gm_push hK hn (by omega) (by simp; omega) (fun S' hK' => gb_captureWithin_165 ?_)⟩
    rw [g1, g2, gm_K_row hK' (j := 20) (by simp), hE a n p ha hnd hp, hq, hc, gm_K_row hK' (j := 10) (by simp)]
    refine ⟨g3, vp_in_nI (by omega) (by decide), K1 S' ?_⟩
    simpa using hK'
  have fin : ∀ (S : Nat → Nat → Int32) (o5 : Int32) (o6 : Int32), o6 < 0 → gm_K S0 S (res.reverse ++ rest) cp → gx_X gm_P (d + 2) 41 (152, [some (.ref 0), o1, o2, o3, some (.int (nI rest.length)), some (.int o5), some (.int o6)], [], gm_h S, bc, bs) Q := fun S o5 o6 h6 hK =>
    gb_captureWithin_152 ⟨fun _ => gm_turn hK (fun S' hK' => gb_captureWithin_198 (K S' _ _ hK')), fun h => absurd h6 h⟩
  induction t with
  | sepBy a s c b iha ihc =>
    intro n p S acc q hp ht _ hnd hq hlen hres hK
    obtain ⟨_, k1, k2, m, k3, k4⟩ := ht
    obtain ⟨na, nc⟩ := gn_nd_seq hnd
    have hq1 : (match gt_en L x (gt_Ed L x R) a p with | none => none | some q => gt_en L x (gt_Ed L x R) c q) = some q := hq
    unfold gn_kseq at hlen hres
    cases h6 : gt_en L x (gt_Ed L x R) a p with
    | none => rw [h6] at hq1; cases hq1
    | some q1 =>
      rw [h6, k3] at hlen hres
      rw [h6] at hq1
      simp only [List.length_cons, List.map_cons] at hlen hres
      have h7 := (gt_en_ok he a na.1 p q1 hp h6).2.1
      refine one a n p q1 S acc hp k1 na h6 (by omega) hK (fun S' hK' => ?_)
      rw [gm_nx_some k3]
      exact ihc m q1 S' (acc ++ [13 * n + p]) q h7 k4 k2 nc hq1 (by simp; omega) (by rw [← hres]; simp [gn_cd]) hK'
  | sepBy1 a s c b iha ihc => intro n p S acc q _ _ h; cases h
  | _ =>
    intro n p S acc q hp ht h10 hnd hq hlen hres hK
    obtain ⟨t1, t2⟩ := gn_tr_list ht rfl h10
    refine one _ n p q S acc hp t1 hnd hq (by simp [gn_kseq] at hlen; omega) hK (fun S' hK' => fin S' _ _ (gm_nx_none t2) ?_)
    rw [← hres]
    exact hK'
/-- the sequence of a choice that doesn't fail is pushed -/
theorem gm_cW10 (hgood : gt_good R Em A o) (hL9 : L ≤ 9) (hE : gm_En R L x Em A S0) {o1 o3 o4 o6 : Option Value} {p : Nat} (hp : p ≤ L) (hK : gm_K S0 S rest cp) (hlen : rest.length + 1 ≤ 2600)
    (t : gt_T) : ∀ (n q : Nat), gm_tr S0 t true n → gt_isl 9 t = false → gn_nd Em A t → gt_en L x (gt_Ed L x R) t p = some q →
    (∀ S' o5, gm_K S0 S' ((gn_kch L x (gt_Ed L x R) (gm_nx S0) t n p).map gn_cd ++ rest) cp → gx_X gm_P (d + 2) 41 (295, [some (.ref 0), o1, some (.int (nI p)), o3, o4, o5, o6], [], gm_h S', bc, bs) Q) →
    gx_X gm_P (d + 2) 41 (98, [some (.ref 0), o1, some (.int (nI p)), o3, o4, some (.int (nI n)), o6], [], gm_h S, bc, bs) Q := by
  have he := gt_Ed_ok (L := L) (x := x) hgood
  have one : ∀ (a : gt_T) (n : Nat), gm_tr S0 a false n → gn_nd Em A a → (∀ q, gt_en L x (gt_Ed L x R) a p = some q → ∀ S', gm_K S0 S' ((13 * n + p) :: rest) cp → gx_X gm_P (d + 2) 41 (295, [some (.ref 0), o1, some (.int (nI p)), o3, o4, some (.int (nI n)), o6], [], gm_h S', bc, bs) Q) → (gt_en L x (gt_Ed L x R) a p = none → gx_X gm_P (d + 2) 41 (98, [some (.ref 0), o1, some (.int (nI p)), o3, o4, some (.int (S0 10 n)), o6], [], gm_h S, bc, bs) Q) →
      gx_X gm_P (d + 2) 41 (98, [some (.ref 0), o1, some (.int (nI p)), o3, o4, some (.int (nI n)), o6], [], gm_h S, bc, bs) Q := fun a n ha hnd K1 K0 => by
    have hn := gm_tr_lt ha
    obtain ⟨g1, g2, g3⟩ := gp_13 hn (show p < 13 by omega)
    have hc : (nI n).toNatClampNeg = n := nI_clamp (by omega)
    refine gb_captureWithin_98 ?_
    rw [g1, g2, gm_K_row hK (j := 20) (by simp), hE a n p ha hnd hp, hc, gm_K_row hK (j := 10) (by simp), gp_e_lt (fun q hq => by have := (gt_en_ok he a hnd.1 p q hp hq).2.1; omega)]
    refine ⟨g3, fun h => gm_push hK hn (by omega) hlen (fun S' hK' => gb_captureWithin_132 ?_), fun h => ⟨vp_in_nI (by omega) (by decide), K0 h⟩⟩
    cases h6 : gt_en L x (gt_Ed L x R) a p with
    | none => exact absurd h6 h
    | some q => exact K1 q h6 S' hK'
  induction t with
  | sepBy1 a s c b iha ihc =>
    intro n q ht _ hnd hq K
    obtain ⟨_, k1, k2, m, k3, k4⟩ := ht
    obtain ⟨na, nc⟩ := gn_nd_ch hnd
    have hq1 : (match gt_en L x (gt_Ed L x R) a p with | none => gt_en L x (gt_Ed L x R) c p | some q => some q) = some q := hq
    unfold gn_kch at K
    refine one a n k1 na (fun q1 h6 S' hK' => ?_) (fun h6 => ?_)
    · rw [h6] at K
      exact K S' _ hK'
    · rw [h6, k3] at K
      rw [h6] at hq1
      rw [gm_nx_some k3]
      exact ihc m q k4 k2 nc hq1 K
  | sepBy a s c b iha ihc => intro n q _ h; cases h
  | _ =>
    intro n q ht h9 hnd hq K
    obtain ⟨t1, t2⟩ := gn_tr_list ht h9 rfl
    refine one _ n t1 hnd (fun q1 h6 S' hK' => K S' _ hK') (fun h6 => ?_)
    rw [h6] at hq
    cases hq
/-- the turns of a star are pushed, and turned -/
theorem gm_cWs (hgood : gt_good R Em A o) (hL9 : L ≤ 9) (hE : gm_En R L x Em A S0) {n : Nat} (hn : n < 160) {a : gt_T} (ha : gm_tr S0 a false (gp_n (S0 8 n))) (hnd : gn_nd Em A a) (hem : gt_emp Em a = false) {o2 o6 : Option Value} {a3 : Int32} (h3 : ¬ a3 = 6) {res : List Nat}
    (K : ∀ S' o5, gm_K S0 S' (res ++ rest) cp → gx_X gm_P (d + 2) 41 (295, [some (.ref 0), some (.int (nI n)), o2, some (.int a3), some (.int (nI rest.length)), o5, o6], [], gm_h S', bc, bs) Q) :
    ∀ (g p : Nat) (S : Nat → Nat → Int32) (acc : List Nat), p ≤ L → L < g + p → acc.length + (gn_kt L x (gt_Ed L x R) a (gp_n (S0 8 n)) 10 p).length + rest.length ≤ 2600 → acc ++ (gn_kt L x (gt_Ed L x R) a (gp_n (S0 8 n)) 10 p).map gn_cd = res → gm_K S0 S (acc.reverse ++ rest) cp →
    gx_X gm_P (d + 2) 41 (220, [some (.ref 0), some (.int (nI n)), o2, some (.int a3), some (.int (nI rest.length)), some (.int (nI p)), o6], [], gm_h S, bc, bs) Q := by
  have he := gt_Ed_ok (L := L) (x := x) hgood
  have hst : ∀ p q, p ≤ L → gt_en L x (gt_Ed L x R) a p = some q → p < q ∧ q ≤ L := fun p q hp h => ⟨(gt_en_ok he a hnd.1 p q hp h).2.2 hem, (gt_en_ok he a hnd.1 p q hp h).2.1⟩
  have hw := gm_tr_lt ha
  have hc : (nI n).toNatClampNeg = n := nI_clamp (by omega)
  have hin : vp_in (nI n) 200 := vp_in_nI (by omega) (by decide)
  intro g
  induction g with
  | zero => intro p S acc hp hg; omega
  | succ g ih =>
    intro p S acc hp hg hlen hres hK
    rw [gn_kt_roll hst hp (by omega)] at hlen hres
    obtain ⟨g1, g2, g3⟩ := gp_13 hw (show p < 13 by omega)
    refine gb_captureWithin_220 ?_
    rw [hc, gm_K_row hK (j := 8) (by simp), ← gp_nI (S0 8 n), g1, g2, gm_K_row hK (j := 20) (by simp), hE a _ p ha hnd hp, gp_e_lt (fun q hq => by have := (hst p q hp hq).2; omega)]
    refine ⟨hin, g3, fun h => gb_captureWithin_289 ?_, fun h => ⟨fun _ => ?_, fun h6 => absurd h6 h3⟩⟩
    · rw [h] at hres
      refine gm_turn (new := acc) hK (fun S' hK' => K S' _ ?_)
      rw [← hres]
      simpa using hK'
    · cases h6 : gt_en L x (gt_Ed L x R) a p with
      | none => exact absurd h6 h
      | some q =>
        rw [h6] at hlen hres
        simp only [List.length_cons, List.map_cons] at hlen hres
        have h7 := hst p q hp h6
        refine gb_captureWithin_255 ⟨hin, ?_⟩
        rw [hc, gm_K_row hK (j := 8) (by simp), ← gp_nI (S0 8 n)]
        refine gm_push hK hw (by omega) (by simp; omega) (fun S' hK' => gb_captureWithin_267 ?_)
        rw [hc, gm_K_row hK' (j := 8) (by simp), ← gp_nI (S0 8 n), g1, g2, gm_K_row hK' (j := 20) (by simp), hE a _ p ha hnd hp, h6]
        refine ⟨hin, g3, ih q S' (acc ++ [13 * gp_n (S0 8 n) + p]) h7.2 (by omega) (by simp; omega) (by rw [← hres]; simp [gn_cd]) ?_⟩
        simpa using hK'
end GMO
