/-! Class Chart: filling the rows. -/
theorem gc_v_at (S : Nat → Nat → Int32) (k : Nat) (g : Nat → Int32) (k' j : Nat) : gc_v S k g k' j = if k' = k then g j else S k' j := by
  unfold gc_v
  cases h : Nat.beq k' k with
  | true => rw [if_pos (Nat.eq_of_beq_eq_true h)]
  | false => rw [if_neg (Nat.ne_of_beq_eq_false h)]
theorem gp_fits : ∀ k, k < 256 → fits .char (.int (nI k)) = true := by decide +kernel
theorem gp_m1 (u : Nat) : nI (u + 1) + Int32.ofInt (-1) = nI u := by
  rw [show nI (u + 1) = nI u + 1 from Int32.ofNat_add u 1, Int32.add_assoc, show (1 : Int32) + Int32.ofInt (-1) = 0 by decide, Int32.add_zero]
/-- only row w may differ (and which row is being filled) -/
def gc_tw (S : Nat → Nat → Int32) (R : Nat → Int64) (S' : Nat → Nat → Int32) (R' : Nat → Int64) (w : Nat) : Prop :=
  (∀ k j, (k = 9 → j ≠ 2) → (k = 11 ∨ k = 12 ∨ k = 14 → j ≠ w) → (k = 15 ∨ k = 16 → j < 40 * w ∨ 40 * w + 40 ≤ j) → S' k j = S k j) ∧ ∀ j, j ≠ w → R' j = R j
theorem gc_tw.tx {S S' : Nat → Nat → Int32} {R R' : Nat → Int64} {w L : Nat} {x : Nat → Nat} (h : gc_tw S R S' R' w) (hx : gc_tx S L x) : gc_tx S' L x :=
  ⟨by rw [h.1 9 1 (by omega) (by omega) (by omega)]; exact hx.1, hx.2.1, fun p hp => by rw [h.1 10 p (by omega) (by omega) (by omega)]; exact hx.2.2 p hp⟩
theorem gc_tw.row {S S' : Nat → Nat → Int32} {R R' : Nat → Int64} {i w f : Nat} {e : Option Nat} {v : Nat → Bool} {c : List (Nat × Nat)} (h : gc_tw S R S' R' i) (hw : w ≠ i) (hr : gc_row S R w e f v c) : gc_row S' R' w e f v c := by
  obtain ⟨h1, h2, h3, h4, h5, h6⟩ := hr
  refine ⟨?_, ?_, h3, ?_, ?_, fun j a b hj hj' => ?_⟩
  · rw [h.1 11 w (by omega) (by omega) (by omega)]; exact h1
  · rw [h.1 12 w (by omega) (by omega) (by omega)]; exact h2
  · rw [h.2 w hw]; exact h4
  · rw [h.1 14 w (by omega) (by omega) (by omega)]; exact h5
  · rw [h.1 15 _ (by omega) (by omega) (by omega), h.1 16 _ (by omega) (by omega) (by omega)]
    exact h6 j a b hj hj'
section GCK
variable {d bc bs : Nat} {S : Nat → Nat → Int32} {P : Nat → Option Nat} {R : Nat → Int64} {E : gx_H} {Q : gx_R → Prop} {L : Nat} {x : Nat → Nat} {e : Nat → Nat → Option Nat} {c : Nat → Nat → List (Nat × Nat)} {F : Nat → Nat → Nat} {V : Nat → Nat → Nat → Bool} {D : Nat × Nat → Prop}
/-- fillRow -/
theorem gc_fillRow (he : gt_okE L (fun _ => true) (fun _ => True) e) {t : gt_T} {p w i : Nat} (htr : gc_tr E t (.inl none) w) (hht : gt_ht t ≤ 100) (hi : i < 40) (hI : gc_I L x e c F V D i S R) (hp : p ≤ L) (hD : ∀ y, .inr y ∈ gt_ev L x e t p → D y)
    (hq : ∀ S' R', gc_tw S R S' R' i → gc_row S' R' i (gt_en L x e t p) (gt_fold F 0 (gt_ev L x e t p)) (gt_foldV V (fun k => k == i) (gt_ev L x e t p)) (if (gt_en L x e t p).isSome then gt_ca L x e c t p else []) → Q (.inl none, gc_h S' P R' E)) :
    gx_X gc_P (d + 106) 83 (0, [some (.ref 9), some (.int (nI i)), some (.ref w), some (.int (nI p))], [], gc_h S P R E, bc, bs) Q := by
  have hL := hI.1.2.1
  have hci : (nI i).toNatClampNeg = i := nI_clamp (by omega)
  have hin : vp_in (nI i) 40 := vp_in_nI hi (by decide)
  refine gd_C_fillRow_0 ?_
  rw [hci]
  have tw1 : gc_tw S R (gm_u (gm_u (gm_u S 9 2 (nI i)) 14 i 0) 12 i (-1)) (vp_updL R i (1 <<< ((nI i).toInt64 &&& 63))) i := by
    refine ⟨fun k j h1 h2 h3 => ?_, fun j hj => ?_⟩
    · rw [gm_u_at, if_neg (by omega), gm_u_at, if_neg (by omega), gm_u_at, if_neg (by omega)]
    · simp [vp_updL, hj]
  have st1 : gc_st (gm_u (gm_u (gm_u S 9 2 (nI i)) 14 i 0) 12 i (-1)) (vp_updL R i (1 <<< ((nI i).toInt64 &&& 63))) i 0 (fun k => k == i) 0 := by
    refine ⟨?_, hi, ?_, by omega, ?_, ?_, by omega⟩
    · rw [gm_u_at, if_neg (by omega), gm_u_at, if_neg (by omega), gm_u_at, if_pos ⟨rfl, rfl⟩]
    · rw [gm_u_at, if_pos ⟨rfl, rfl⟩]
      decide
    · rw [show vp_updL R i (1 <<< ((nI i).toInt64 &&& 63)) i = 1 <<< ((nI i).toInt64 &&& 63) by simp [vp_updL]]
      exact fun k hk => gp_L_one i hi k hk
    · rw [gm_u_at, if_neg (by omega), gm_u_at, if_pos ⟨rfl, rfl⟩]
      rfl
  have I1 : gc_I L x e c F V D i (gm_u (gm_u (gm_u S 9 2 (nI i)) 14 i 0) 12 i (-1)) (vp_updL R i (1 <<< ((nI i).toInt64 &&& 63))) :=
    ⟨tw1.tx hI.1, fun r p hd => ⟨(hI.2 r p hd).1, (hI.2 r p hd).2.1, (hI.2 r p hd).2.2.1, tw1.row (hI.2 r p hd).2.2.1 (hI.2 r p hd).2.2.2⟩⟩
  refine ⟨hin, hin, hin, gc_ef_call ((gc_endFrom (P := P) (E := E) he hL t).1 w (d + 100) htr (by omega)) st1 I1 hp hD (Nat.le_of_ble_eq_true rfl) (fun S' R' n' s' t' hn' hs' => gd_C_fillRow_54 ?_)⟩
  have tw2 : ∀ (e : Int32), gc_tw S R (gm_u S' 11 i e) R' i := fun e => by
    refine ⟨fun k j h1 h2 h3 => ?_, fun j hj => ?_⟩
    · rw [gm_u_at, if_neg (by omega), t'.1 k j (by omega) (by omega) (by omega), tw1.1 k j h1 h2 h3]
    · rw [t'.2 j hj, tw1.2 j hj]
  obtain ⟨h1, h2, h3, h4, h5, h6, h7⟩ := s'
  rw [h1, hci, show upd (S' 11) i (gc_e (gt_en L x e t p)) i = gc_e (gt_en L x e t p) by simp [upd]]
  have hnn : gc_e (gt_en L x e t p) = -1 ↔ gt_en L x e t p = none := gc_e_none (fun q hq => by
    have := (gt_en_ok he t (fun _ _ => trivial) p q hp hq).2.1
    omega)
  refine ⟨hin, hin, fun h => gd_C_fillRow_78 ?_, fun h => ⟨hin, gd_C_fillRow_78 ?_⟩⟩
  · cases hen : gt_en L x e t p with
    | none => rw [hen] at h; exact absurd rfl h
    | some q =>
      rw [hen] at hs' hq
      obtain ⟨k1, k2⟩ := hs' rfl
      have hq := hq _ R' (tw2 (gc_e (some q)))
      rw [if_pos (show (some q).isSome = true from rfl)] at hq
      refine hq ⟨?_, ?_, h4, h5, ?_, fun j a b hj hj' => ?_⟩
      · rw [gm_u_at, if_pos ⟨rfl, rfl⟩]
      · rw [gm_u_at, if_neg (by omega)]; exact h3
      · rw [gm_u_at, if_neg (by omega), h6, k1, Nat.zero_add]
      · rw [gm_u_at, if_neg (by omega), gm_u_at, if_neg (by omega)]
        exact k2 j a b hj hj'
  · have hen := hnn.mp h
    rw [hen] at hq ⊢
    have tw3 : gc_tw S R (gm_u (gm_u S' 11 i (gc_e none)) 14 i 0) R' i := by
      refine ⟨fun k j g1 g2 g3 => ?_, fun j hj => (tw2 (gc_e none)).2 j hj⟩
      rw [gm_u_at, if_neg (by omega)]
      exact (tw2 (gc_e none)).1 k j g1 g2 g3
    refine hq _ R' tw3 ⟨?_, ?_, h4, h5, ?_, fun j a b hj _ => by cases hj⟩
    · rw [gm_u_at, if_neg (by omega), gm_u_at, if_pos ⟨rfl, rfl⟩]
    · rw [gm_u_at, if_neg (by omega), gm_u_at, if_neg (by omega)]; exact h3
    · rw [gm_u_at, if_pos ⟨rfl, rfl⟩]
      rfl
end GCK
theorem gt_E_rng {L : Nat} {x : Nat → Nat} {T : Nat → Option gt_T} : ∀ n, gt_okE L (fun _ => true) (fun _ => True) (gt_E L x T n) := by
  intro n
  induction n with
  | zero => intro r p q _ _ h; cases h
  | succ n ih =>
    intro r p q _ hp h
    rw [gt_E] at h
    cases ht : T r with
    | none => rw [ht] at h; cases h
    | some t =>
      rw [ht] at h
      have := gt_en_ok ih t (fun _ _ => trivial) p q hp h
      exact ⟨this.1, this.2.1, fun h => by cases h⟩
theorem gt_Ed_rng {L : Nat} {x : Nat → Nat} {T : Nat → Option gt_T} : gt_okE L (fun _ => true) (fun _ => True) (gt_Ed L x T) := gt_E_rng 40
section GCM
variable {d bc bs : Nat} {P : Nat → Option Nat} {E : gx_H} {Q : gx_R → Prop} {L : Nat} {x : Nat → Nat} {T : Nat → Option gt_T} {ch : Nat → Nat → Nat}
/-- the rows of D hold what the document says of them -/
def gc_dn (L : Nat) (x : Nat → Nat) (T : Nat → Option gt_T) (D : Nat × Nat → Prop) (S : Nat → Nat → Int32) (R : Nat → Int64) : Prop :=
  ∃ (F : Nat → Nat → Nat) (V : Nat → Nat → Nat → Bool), ∀ r p, D (r, p) → r < 4 ∧ p ≤ 9 ∧ gc_row S R (10 * r + p) (gt_Ed L x T r p) (F r p) (V r p) (gt_Cd L x T r p) ∧ gt_isF L x T (r, p) (F r p) ∧ gt_isV L x T (r, p) (V r p)
/-- all but the chart's rows -/
def gc_tc (S S' : Nat → Nat → Int32) : Prop := (∀ k, k < 9 ∨ 16 < k → S' k = S k) ∧ (∀ j, j ≠ 2 → S' 9 j = S 9 j) ∧ S' 10 = S 10
theorem gc_tw.tc {S S' : Nat → Nat → Int32} {R R' : Nat → Int64} {w : Nat} (h : gc_tw S R S' R' w) : gc_tc S S' :=
  ⟨fun k hk => by funext j; exact h.1 k j (by omega) (by omega) (by omega), fun j hj => h.1 9 j (fun _ => hj) (by omega) (by omega), by funext j; exact h.1 10 j (by omega) (by omega) (by omega)⟩
theorem gc_tc.trans {S S' S2 : Nat → Nat → Int32} (h : gc_tc S S') (h' : gc_tc S' S2) : gc_tc S S2 :=
  ⟨fun k hk => by rw [h'.1 k hk, h.1 k hk], fun j hj => by rw [h'.2.1 j hj, h.2.1 j hj], by rw [h'.2.2, h.2.2]⟩
theorem gc_tc.rfl {S : Nat → Nat → Int32} : gc_tc S S := ⟨fun _ _ => Eq.refl _, fun _ _ => Eq.refl _, Eq.refl _⟩
theorem gc_tc.gr {S S' : Nat → Nat → Int32} (h : gc_tc S S') (hg : gc_gr S P E T ch) : gc_gr S' P E T ch := gc_gr_S (fun j => by rw [h.1 7 (by omega)]) hg
theorem gc_tc.ar {S S' : Nat → Nat → Int32} {l : List Nat} (h : gc_tc S S') (ha : gc_ar S l) : gc_ar S' l := ⟨by rw [h.1 5 (by omega)]; exact ha.1, fun i r hi => by rw [h.1 8 (by omega)]; exact ha.2 i r hi⟩
theorem gc_tc.tx {S S' : Nat → Nat → Int32} (h : gc_tc S S') (hx : gc_tx S L x) : gc_tx S' L x := ⟨by rw [h.2.1 1 (by omega)]; exact hx.1, hx.2.1, fun p hp => by rw [h.2.2]; exact hx.2.2 p hp⟩
/-- one more row -/
theorem gc_fill1 {Em : Nat → Bool} {ar : List Nat} {S : Nat → Nat → Int32} {R : Nat → Int64} (hgood : gt_good T Em (fun k => k ∈ ar) (gt_o ar)) (hnd : ∀ j r, ar[j]? = some r → gt_o ar r = j) (hg : gc_gr S P E T ch) (ha : gc_ar S ar) (hl4 : ar.length ≤ 4) (hx : gc_tx S L x) {p j r : Nat} (hj : ar[j]? = some r) (hp : p ≤ L)
    (hd : gc_dn L x T (fun y => y.1 ∈ ar ∧ y.2 ≤ L ∧ (p < y.2 ∨ y.2 = p ∧ gt_o ar y.1 < j)) S R) {o3 o7 o8 : Option Value} {a4 : Int32}
    (k : ∀ S' R' (o7 o8 : Option Value), gc_tc S S' → gc_dn L x T (fun y => y.1 ∈ ar ∧ y.2 ≤ L ∧ (p < y.2 ∨ y.2 = p ∧ gt_o ar y.1 < j + 1)) S' R' → gx_X gc_P (d + 107) 81 (32, [some (.ref 9), some (.ref 5), some (.ref 2), o3, some (.int a4), some (.int (nI p)), some (.int (nI (j + 1))), o7, o8], [], gc_h S' P R' E, bc, bs) Q) :
    gx_X gc_P (d + 107) 81 (32, [some (.ref 9), some (.ref 5), some (.ref 2), o3, some (.int a4), some (.int (nI p)), some (.int (nI j)), o7, o8], [], gc_h S P R E, bc, bs) Q := by
  obtain ⟨F, V, hFV⟩ := hd
  have hjl := (List.getElem?_eq_some_iff.mp hj).1
  have hrm : r ∈ ar := List.mem_of_getElem? hj
  have hor := hnd j r hj
  obtain ⟨g1, t, ht, g2, g3, g4, g5⟩ := hgood r hrm
  obtain ⟨w, hw, htr, hht⟩ := hg.2.1 r t ht
  have hr4 : r < 4 := (hg.2.2.1 r t ht).1
  have hL := hx.2.1
  have hcj : (nI j).toNatClampNeg = j := nI_clamp (by omega)
  have hcr : (nI r).toNatClampNeg = r := nI_clamp (by omega)
  have ew : nI r * 10 + nI p = nI (10 * r + p) := by
    rw [show nI r * 10 = nI (r * 10) from (Int32.ofNat_mul r 10).symm, show nI (r * 10) + nI p = nI (r * 10 + p) from (Int32.ofNat_add (r * 10) p).symm, Nat.mul_comm]
  have hok : gt_okE L Em (fun k => k ∈ ar) (gt_Ed L x T) := gt_Ed_ok hgood
  have hEd := gt_Ed_fix hgood (x := x) hL hrm hp ht
  have hCd := gt_Cd_fix hgood (x := x) hL hrm hp ht
  have hevR : gt_evR L x T r p = gt_ev L x (gt_Ed L x T) t p := by unfold gt_evR; rw [ht]
  have hin : ∀ y, .inr y ∈ gt_ev L x (gt_Ed L x T) t p → (y.1 ∈ ar ∧ y.2 ≤ L ∧ (p < y.2 ∨ y.2 = p ∧ gt_o ar y.1 < j)) := fun y hy => by
    obtain ⟨q1, q2, q3, q4⟩ := gt_ev_in hok t g3 p hp y.1 y.2 hy
    refine ⟨g3 _ q1, q3, ?_⟩
    rcases Nat.lt_or_ge p y.2 with h | h
    · exact .inl h
    · have hyp : y.2 = p := by omega
      have := g4 y.1 (q4 hyp)
      exact .inr ⟨hyp, by omega⟩
  have hI : gc_I L x (gt_Ed L x T) (gt_Cd L x T) F V (fun y => y.1 ∈ ar ∧ y.2 ≤ L ∧ (p < y.2 ∨ y.2 = p ∧ gt_o ar y.1 < j)) (10 * r + p) S R := by
    refine ⟨hx, fun r' p' hy => ?_⟩
    obtain ⟨k1, k2, k3, _⟩ := hFV r' p' hy
    refine ⟨k1, k2, fun heq => ?_, k3⟩
    have h1 : r' = r := by omega
    have h2 : p' = p := by omega
    subst h1 h2
    rcases hy.2.2 with h | ⟨_, h⟩
    · exact absurd h (Nat.lt_irrefl _)
    · have h : gt_o ar r' < j := h
      omega
  refine gd_C_fill_32 ?_
  rw [ha.1, hcj, ha.2 j r hj, hcr]
  refine ⟨fun h => absurd (nI_lt hjl (by omega)) h, fun _ => ⟨vp_in_nI (by omega) (by decide), vp_in_nI hr4 (by decide), fun hn => ?_, fun w2 hw2 => ⟨0, 0, ⟨Nat.zero_le _, Nat.zero_le _⟩, gd_C_rowOf_0 ?_⟩⟩⟩
  · rw [hw] at hn; cases hn
  · rw [hw] at hw2
    cases hw2
    rw [ew]
    refine gd_C_fill_72 ⟨0, 0, ⟨Nat.zero_le _, Nat.zero_le _⟩, gc_fillRow (d := d) gt_Ed_rng htr hht (by omega) hI hp hin (fun S' R' tw' row' => gd_C_fill_79 ?_)⟩
    rw [show nI j + Int32.ofInt 1 = nI (j + 1) from nI_1 j]
    refine k S' R' _ _ tw'.tc ⟨fun r' p' => if r' = r ∧ p' = p then gt_fold F 0 (gt_ev L x (gt_Ed L x T) t p) else F r' p', fun r' p' => if r' = r ∧ p' = p then gt_foldV V (fun k => k == 10 * r + p) (gt_ev L x (gt_Ed L x T) t p) else V r' p', fun r' p' hy => ?_⟩
    dsimp only
    by_cases hrp : r' = r ∧ p' = p
    · rw [if_pos hrp, if_pos hrp]
      obtain ⟨rfl, rfl⟩ := hrp
      refine ⟨hr4, by omega, ?_, ?_, ?_⟩
      · rw [hCd, hEd]
        exact row'
      · have := gt_isF_fold (L := L) (x := x) (R := T) (a := (r', p')) (F := F) (fun y hy => by
          have hy : .inr y ∈ gt_evR L x T r' p' := hy
          rw [hevR] at hy
          exact (hFV y.1 y.2 (hin y hy)).2.2.2.1)
        rw [hevR] at this
        exact this
      · have := gt_isV_fold (L := L) (x := x) (R := T) (a := (r', p')) (V := V) (fun y hy => by
          have hy : .inr y ∈ gt_evR L x T r' p' := hy
          rw [hevR] at hy
          exact (hFV y.1 y.2 (hin y hy)).2.2.2.2)
        rw [hevR] at this
        exact this
    · rw [if_neg hrp, if_neg hrp]
      have hy' : (r', p').1 ∈ ar ∧ (r', p').2 ≤ L ∧ (p < (r', p').2 ∨ (r', p').2 = p ∧ gt_o ar (r', p').1 < j) := by
        refine ⟨hy.1, hy.2.1, ?_⟩
        rcases hy.2.2 with h | ⟨h1, h2⟩
        · exact .inl h
        · have h1 : p' = p := h1
          have h2 : gt_o ar r' < j + 1 := h2
          rcases Nat.lt_or_ge (gt_o ar r') j with h | h
          · exact .inr ⟨h1, h⟩
          · exfalso
            have hoj : gt_o ar r' = j := by omega
            refine hrp ⟨?_, h1⟩
            have hm : r' ∈ ar := hy.1
            have hg := List.getElem_idxOf (List.idxOf_lt_length_of_mem hm)
            have e2 : ar[gt_o ar r']? = some r' := by
              rw [List.getElem?_eq_some_iff]
              exact ⟨List.idxOf_lt_length_of_mem hm, hg⟩
            rw [hoj, hj] at e2
            exact (Option.some.inj e2).symm
      obtain ⟨k1, k2, k3, k4, k5⟩ := hFV r' p' hy'
      exact ⟨k1, k2, tw'.row (by omega) k3, k4, k5⟩
/-- all rules at a place -/
theorem gc_fill4 {Em : Nat → Bool} {ar : List Nat} (hgood : gt_good T Em (fun k => k ∈ ar) (gt_o ar)) (hnd : ∀ j r, ar[j]? = some r → gt_o ar r = j) (hl4 : ar.length ≤ 4) {p : Nat} (hp : p ≤ L) {o3 : Option Value} {a4 : Int32} :
    ∀ (g j : Nat) (S : Nat → Nat → Int32) (R : Nat → Int64) (o7 o8 : Option Value), j + g = ar.length → gc_gr S P E T ch → gc_ar S ar → gc_tx S L x → gc_dn L x T (fun y => y.1 ∈ ar ∧ y.2 ≤ L ∧ (p < y.2 ∨ y.2 = p ∧ gt_o ar y.1 < j)) S R →
    (∀ S' R' (o6 o7 o8 : Option Value), gc_tc S S' → gc_dn L x T (fun y => y.1 ∈ ar ∧ y.2 ≤ L ∧ p ≤ y.2) S' R' → gx_X gc_P (d + 107) 81 (22, [some (.ref 9), some (.ref 5), some (.ref 2), o3, some (.int a4), some (.int (nI p + Int32.ofInt (-1))), o6, o7, o8], [], gc_h S' P R' E, bc, bs) Q) →
    gx_X gc_P (d + 107) 81 (32, [some (.ref 9), some (.ref 5), some (.ref 2), o3, some (.int a4), some (.int (nI p)), some (.int (nI j)), o7, o8], [], gc_h S P R E, bc, bs) Q := by
  intro g
  induction g with
  | zero =>
    intro j S R o7 o8 hj hg ha hx hd k
    refine gd_C_fill_32 ⟨fun _ => k S R _ _ _ gc_tc.rfl ?_, fun h => ?_⟩
    · obtain ⟨F, V, hFV⟩ := hd
      refine ⟨F, V, fun r' p' hy => hFV r' p' ⟨hy.1, hy.2.1, ?_⟩⟩
      rcases Nat.lt_or_ge p p' with h | h
      · exact .inl h
      · refine .inr ⟨?_, ?_⟩
        · have := hy.2.2
          show p' = p
          have h2 : p ≤ p' := this
          omega
        · have hm : r' ∈ ar := hy.1
          have := List.idxOf_lt_length_of_mem hm
          show List.idxOf r' ar < j
          omega
    · rw [ha.1] at h
      exact absurd h (nI_nlt (by omega) (by omega))
  | succ g ih =>
    intro j S R o7 o8 hj hg ha hx hd k
    have hjl : j < ar.length := by omega
    exact gc_fill1 hgood hnd hg ha hl4 hx (List.getElem?_eq_getElem hjl) hp hd (fun S' R' o7 o8 tc' hd' => ih (j + 1) S' R' o7 o8 (by omega) (tc'.gr hg) (tc'.ar ha) (tc'.tx hx) hd' (fun S2 R2 o6 o7 o8 tc2 hd2 => k S2 R2 o6 o7 o8 (tc'.trans tc2) hd2))
theorem gc_fillL {Em : Nat → Bool} {ar : List Nat} (hgood : gt_good T Em (fun k => k ∈ ar) (gt_o ar)) (hnd : ∀ j r, ar[j]? = some r → gt_o ar r = j) (hl4 : ar.length ≤ 4) {first : Nat} {o3 : Option Value} :
    ∀ (g u : Nat) (S : Nat → Nat → Int32) (R : Nat → Int64) (o6 o7 o8 : Option Value), u = first + g → u ≤ L + 1 → gc_gr S P E T ch → gc_ar S ar → gc_tx S L x → gc_dn L x T (fun y => y.1 ∈ ar ∧ y.2 ≤ L ∧ u ≤ y.2) S R →
    (∀ S' R', gc_tc S S' → gc_dn L x T (fun y => y.1 ∈ ar ∧ y.2 ≤ L ∧ first ≤ y.2) S' R' → Q (.inl none, gc_h S' P R' E)) →
    gx_X gc_P (d + 107) 81 (22, [some (.ref 9), some (.ref 5), some (.ref 2), o3, some (.int (nI first)), some (.int (nI u + Int32.ofInt (-1))), o6, o7, o8], [], gc_h S P R E, bc, bs) Q := by
  intro g
  induction g with
  | zero =>
    intro u S R o6 o7 o8 hu huL hg ha hx hd k
    have hu : u = first := by omega
    subst hu
    have hL := hx.2.1
    have hlt : nI u + Int32.ofInt (-1) < nI u := by
      cases u with
      | zero => decide
      | succ u =>
        rw [gp_m1]
        exact nI_lt (by omega) (by omega)
    exact gd_C_fill_22 ⟨fun _ => k S R gc_tc.rfl hd, fun h => absurd hlt h⟩
  | succ g ih =>
    intro u S R o6 o7 o8 hu huL hg ha hx hd k
    have hL := hx.2.1
    obtain ⟨p, rfl⟩ : ∃ p, u = p + 1 := ⟨u - 1, by omega⟩
    rw [gp_m1]
    refine gd_C_fill_22 ⟨fun h => absurd h (nI_nlt (by omega) (by omega)), fun _ => ?_⟩
    refine gc_fill4 hgood hnd hl4 (by omega) ar.length 0 S R o7 o8 (by omega) hg ha hx ?_ (fun S' R' o6 o7 o8 tc' hd' => ih p S' R' o6 o7 o8 (by omega) (by omega) (tc'.gr hg) (tc'.ar ha) (tc'.tx hx) hd' (fun S2 R2 tc2 hd2 => k S2 R2 (tc'.trans tc2) hd2))
    obtain ⟨F, V, hFV⟩ := hd
    refine ⟨F, V, fun r' p' hy => hFV r' p' ⟨hy.1, hy.2.1, ?_⟩⟩
    rcases hy.2.2 with h | ⟨_, h⟩
    · exact h
    · exact absurd h (Nat.not_lt_zero _)
/-- fill: every row from the place first on -/
theorem gc_fill {Em : Nat → Bool} {ar : List Nat} {S : Nat → Nat → Int32} {R : Nat → Int64} (hgood : gt_good T Em (fun k => k ∈ ar) (gt_o ar)) (hnd : ∀ j r, ar[j]? = some r → gt_o ar r = j) (hl4 : ar.length ≤ 4) (hg : gc_gr S P E T ch) (ha : gc_ar S ar) (hL : L ≤ 9) (hx : ∀ p, p < L → S 2 p = nI (x p) ∧ x p ≤ 126) {first : Nat} (hf : first ≤ L) {o5 o6 o7 o8 : Option Value}
    (hq : ∀ S' R', (∀ k, k < 9 ∨ 16 < k → S' k = S k) → gc_dn L x T (fun y => y.1 ∈ ar ∧ y.2 ≤ L ∧ first ≤ y.2) S' R' → Q (.inl none, gc_h S' P R' E)) :
    gx_X gc_P (d + 107) 81 (0, [some (.ref 9), some (.ref 5), some (.ref 2), some (.int (nI L)), some (.int (nI first)), o5, o6, o7, o8], [], gc_h S P R E, bc, bs) Q := by
  have hcL : (nI L).toNatClampNeg = L := nI_clamp (by omega)
  have hc0 : (0 : Int32).toNatClampNeg = 0 := rfl
  refine gd_C_fill_0 ?_
  rw [hcL, hc0]
  refine ⟨⟨⟨by decide, by decide, nI_pos (by omega)⟩, by omega, by omega, fun i hi => ?_⟩, ?_⟩
  · rw [Nat.zero_add, (hx i hi).1]
    exact gp_fits _ (by have := (hx i hi).2; omega)
  · have hS : ∀ k j, k ≠ 9 → k ≠ 10 → gm_u (gc_v S 10 (va_cpy (S 2) (S 10) 0 0 L)) 9 1 (nI L) k j = S k j := fun k j h9 h10 => by
      rw [gm_u_at, if_neg (by omega), gc_v_at, if_neg h10]
    have h := gc_fillL (d := d) (bc := bc) (bs := bs) (P := P) (E := E) (Q := Q) (L := L) (x := x) (o3 := some (.int (nI L))) hgood hnd hl4 (first := first) (L + 1 - first) (L + 1) (gm_u (gc_v S 10 (va_cpy (S 2) (S 10) 0 0 L)) 9 1 (nI L)) R o6 o7 o8 (by omega) (Nat.le_refl _) (gc_gr_S (fun j => hS 7 j (by omega) (by omega)) hg) ⟨by rw [hS 5 3 (by omega) (by omega)]; exact ha.1, fun i r hi => by rw [hS 8 i (by omega) (by omega)]; exact ha.2 i r hi⟩ ⟨by rw [gm_u_at, if_pos ⟨rfl, rfl⟩], hL, fun p hp => ?_⟩ ⟨fun _ _ => 0, fun _ _ _ => false, fun r p hy => ?_⟩ (fun S' R' tc' hd' => hq S' R' (fun k hk => ?_) hd')
    · rw [gp_m1] at h
      exact h
    · rw [gm_u_at, if_neg (by omega), gc_v_at, if_pos rfl]
      simp only [va_cpy]
      rw [if_pos ⟨Nat.zero_le _, by omega⟩, Nat.zero_add, Nat.sub_zero]
      exact hx p hp
    · exfalso
      have h1 : p ≤ L := hy.2.1
      have h2 : L + 1 ≤ p := hy.2.2
      omega
    · rw [tc'.1 k hk]
      funext j
      exact hS k j (by omega) (by omega)
end GCM
