/-! The class's patterns: where a match ends, what it meets, what it captures. -/
theorem gi_vpcall2 {d bc bs : Nat} {sel : Nat → Option (Nat × Nat)} {nx pc w c m' nL : Nat} {lv : List (Option Value)} {st : List Value} {a : Int32} {fs : List Value} {K : gx_S → Prop} {Q : gx_R → Prop} {h : gx_H} (ho : h[w]? = some (.inr (c, fs))) (hs : sel c = some (m', nL)) (hst : (st.map Value.category).sum ≤ 8)
    (x : gx_X gc_P d m' (0, [some (.ref w), some (.int a), some (.ref 9)] ++ List.replicate (nL - 3) none, [], h, 0, 0) (gx_k1 lv st nx bc bs K)) :
    gi_vpcall sel 2 nx (pc, lv, .ref 9 :: .int a :: .ref w :: st, h, bc, bs) K Q (fun m9 E9 Q9 => gx_X gc_P d m9 E9 Q9) := by
  show (match h[w]? with
      | some (.inr (c, _)) => match sel c with
        | some (m', nL) => gi_callK m' (2 + 1) nL (.ref 9 :: .int a :: .ref w :: st) h bc bs (fun kc ks => gx_k1 lv ((.ref 9 :: .int a :: .ref w :: st).drop (2 + 1)) nx (bc - kc) (bs - ks) K) (fun m9 E9 Q9 => gx_X gc_P d m9 E9 Q9)
        | none => False
      | _ => False)
  rw [ho]
  simp only [hs]
  have hb : Nat.ble ((st).map Value.category).sum 8 = true := Nat.ble_eq.mpr hst
  show (match Nat.ble ((st).map Value.category).sum 8, true, true with
    | true, true, true => ∃ kc ks, (kc ≤ bc ∧ ks ≤ bs) ∧ _
    | _, _, _ => False)
  rw [hb]
  exact ⟨0, 0, ⟨Nat.zero_le _, Nat.zero_le _⟩, x⟩
section GCJ
variable {L i : Nat} {x : Nat → Nat} {e : Nat → Nat → Option Nat} {c : Nat → Nat → List (Nat × Nat)} {F : Nat → Nat → Nat} {V : Nat → Nat → Nat → Bool} {D : Nat × Nat → Prop} {P : Nat → Option Nat} {E : gx_H}
/-- the text, and the rows that stand ready -/
def gc_I (L : Nat) (x : Nat → Nat) (e : Nat → Nat → Option Nat) (c : Nat → Nat → List (Nat × Nat)) (F : Nat → Nat → Nat) (V : Nat → Nat → Nat → Bool) (D : Nat × Nat → Prop) (i : Nat) (S : Nat → Nat → Int32) (R : Nat → Int64) : Prop :=
  gc_tx S L x ∧ ∀ r p, D (r, p) → r < 4 ∧ p ≤ 9 ∧ 10 * r + p ≠ i ∧ gc_row S R (10 * r + p) (e r p) (F r p) (V r p) (c r p)
theorem gc_I.to {S S' : Nat → Nat → Int32} {R R' : Nat → Int64} {n : Nat} (h : gc_I L x e c F V D i S R) (ht : gc_to S R S' R' i n) : gc_I L x e c F V D i S' R' :=
  ⟨ht.tx h.1, fun r p hd => ⟨(h.2 r p hd).1, (h.2 r p hd).2.1, (h.2 r p hd).2.2.1, ht.row (h.2 r p hd).2.2.1 (h.2 r p hd).2.2.2⟩⟩
/-- what a match comes to -/
def gc_rs (F : Nat → Nat → Nat) (V : Nat → Nat → Nat → Bool) (P : Nat → Option Nat) (E : gx_H) (i : Nat) (r : Option Nat) (ev : List (Nat ⊕ (Nat × Nat))) (cs : List (Nat × Nat)) (S : Nat → Nat → Int32) (R : Nat → Int64) (f : Nat) (v : Nat → Bool) (n : Nat) (Q : gx_R → Prop) : Prop :=
  ∀ S' R' n', gc_st S' R' i (gt_fold F f ev) (gt_foldV V v ev) n' → gc_to S R S' R' i n → n ≤ n' → (r.isSome = true → n' = min 40 (n + cs.length) ∧ gc_cp S' i n cs) → Q (.inl (some (.int (gc_e r))), gc_h S' P R' E)
theorem gc_rs.cat {r : Option Nat} {ev1 ev2 : List (Nat ⊕ (Nat × Nat))} {c1 c2 : List (Nat × Nat)} {S S1 : Nat → Nat → Int32} {R R1 : Nat → Int64} {f n n1 : Nat} {v : Nat → Bool} {Q : gx_R → Prop} (h : gc_rs F V P E i r (ev1 ++ ev2) (c1 ++ c2) S R f v n Q)
    (ht : gc_to S R S1 R1 i n) (hn40 : n ≤ 40) (hn : n1 = min 40 (n + c1.length)) (hc : gc_cp S1 i n c1) : gc_rs F V P E i r ev2 c2 S1 R1 (gt_fold F f ev1) (gt_foldV V v ev1) n1 Q := fun S' R' n' s' t' hn' hs' => by
  rw [← gt_fold_append, ← gt_foldV_append] at s'
  refine h S' R' n' s' (ht.trans t' (by omega)) (by omega) (fun hr => ?_)
  obtain ⟨k1, k2⟩ := hs' hr
  refine ⟨by rw [List.length_append]; omega, (hc.to t' (by omega)).append ?_⟩
  rcases Nat.lt_or_ge (n + c1.length) 40 with hl | hl
  · rw [show n1 = n + c1.length by omega] at k2
    exact k2
  · exact gc_cp.full hl
/-- the call on w matches as t does -/
def gc_ef (L : Nat) (x : Nat → Nat) (e : Nat → Nat → Option Nat) (c : Nat → Nat → List (Nat × Nat)) (F : Nat → Nat → Nat) (V : Nat → Nat → Nat → Bool) (D : Nat × Nat → Prop) (i : Nat) (P : Nat → Option Nat) (E : gx_H) (t : gt_T) (d w : Nat) : Prop :=
  ∃ cl fs m nL, gc_ob E w cl fs ∧ cl ∈ [5, 6, 7, 8, 9, 10, 11] ∧ gc_sel_endFrom cl = some (m, nL) ∧ ∀ S R f v n p Q (bc bs : Nat), gc_st S R i f v n → gc_I L x e c F V D i S R → p ≤ L → (∀ y, .inr y ∈ gt_ev L x e t p → D y) → gc_rs F V P E i (gt_en L x e t p) (gt_ev L x e t p) (gt_ca L x e c t p) S R f v n Q →
    gx_X gc_P d m (0, [some (.ref w), some (.int (nI p)), some (.ref 9)] ++ List.replicate (nL - 3) none, [], gc_h S P R E, bc, bs) Q
theorem gc_ef_call {t : gt_T} {d w bc bs : Nat} {Q : gx_R → Prop} (h : gc_ef L x e c F V D i P E t d w) {S : Nat → Nat → Int32} {R : Nat → Int64} {f n p : Nat} {v : Nat → Bool} (hs : gc_st S R i f v n) (hI : gc_I L x e c F V D i S R) (hp : p ≤ L) (hD : ∀ y, .inr y ∈ gt_ev L x e t p → D y)
    {nx pc : Nat} {lv : List (Option Value)} {st : List Value} {K : gx_S → Prop} (hst : (st.map Value.category).sum ≤ 8)
    (k : ∀ S' R' n', gc_st S' R' i (gt_fold F f (gt_ev L x e t p)) (gt_foldV V v (gt_ev L x e t p)) n' → gc_to S R S' R' i n → n ≤ n' → ((gt_en L x e t p).isSome = true → n' = min 40 (n + (gt_ca L x e c t p).length) ∧ gc_cp S' i n (gt_ca L x e c t p)) → K (nx, lv, .int (gc_e (gt_en L x e t p)) :: st, gc_h S' P R' E, bc, bs)) :
    gi_vpcall gc_sel_endFrom 2 nx (pc, lv, .ref 9 :: .int (nI p) :: .ref w :: st, gc_h S P R E, bc, bs) K Q (fun m9 E9 Q9 => gx_X gc_P d m9 E9 Q9) := by
  obtain ⟨cl, fs, m, nL, h1, h2, h3, h4⟩ := h
  exact gi_vpcall2 (gc_ob_at h1) h3 hst (h4 S R f v n p _ 0 0 hs hI hp hD k)
theorem gc_ef_cls {t : gt_T} {d w : Nat} (h : gc_ef L x e c F V D i P E t d w) {S : Nat → Nat → Int32} {R : Nat → Int64} : ∃ c fs, (gc_h S P R E)[w]? = some (.inr (c, fs)) ∧ c ∈ [5, 6, 7, 8, 9, 10, 11] := by
  obtain ⟨cl, fs, m, nL, h1, h2, h3, h4⟩ := h
  exact ⟨cl, fs, gc_ob_at h1, h2⟩
theorem gc_e_none {r : Option Nat} (hr : ∀ q, r = some q → q ≤ 9) : gc_e r = -1 ↔ r = none := by
  constructor
  · intro h
    cases r with
    | none => rfl
    | some q =>
      have h9 := hr q rfl
      have := nI_pos (n := q) (by omega)
      rw [show nI q = -1 from h] at this
      exact absurd (by decide) this
  · rintro rfl
    rfl
/-- a failed piece, taken back -/
theorem gc_rs.after {r : Option Nat} {ev1 ev2 : List (Nat ⊕ (Nat × Nat))} {c2 : List (Nat × Nat)} {S S1 : Nat → Nat → Int32} {R R1 : Nat → Int64} {f n : Nat} {v : Nat → Bool} {Q : gx_R → Prop} (h : gc_rs F V P E i r (ev1 ++ ev2) c2 S R f v n Q)
    (ht : gc_to S R S1 R1 i n) (hn40 : n ≤ 40) : gc_rs F V P E i r ev2 c2 S1 R1 (gt_fold F f ev1) (gt_foldV V v ev1) n Q :=
  gc_rs.cat (c1 := []) h ht hn40 (by simp; omega) (fun j a b hj _ => by simp at hj)
theorem gt_core_ev (t : gt_T) (p : Nat) : gt_ev L x e (gt_core t) p = gt_ev L x e t p := by
  induction t with
  | trailingNode m b l a ih => exact ih
  | _ => rfl
theorem gt_core_en (t : gt_T) (p : Nat) : ∀ v : Bool, ((gt_en L x e (gt_core t) p).isSome == gt_par t v) = ((gt_en L x e t p).isSome == v) := by
  induction t with
  | trailingNode m b l a ih =>
    intro v
    show ((gt_en L x e (gt_core a) p).isSome == gt_par a (v == (b == 1))) = ((if (gt_en L x e a p).isSome = (b == 1) then some p else none).isSome == v)
    rw [ih]
    cases (gt_en L x e a p).isSome <;> cases (b == 1) <;> cases v <;> rfl
  | _ => intro v; rfl
/-- all patterns -/
theorem gc_endFrom (he : gt_okE L (fun _ => true) (fun _ => True) e) (hL : L ≤ 9) (t : gt_T) :
    (∀ w d, gc_tr E t (.inl none) w → gt_ht t ≤ d → gc_ef L x e c F V D i P E t (d + 5) w) ∧
    (∀ w d, gc_tr E (gt_core t) (.inl none) w → gt_ht t ≤ d → gc_ef L x e c F V D i P E (gt_core t) (d + 5) w) ∧
    (∀ us lw ws j o d Q (bc bs : Nat) (o1 : Option Value) S R f v n p, gc_tr E t (.inr ws) 0 → gt_isl 10 t = false → gt_ht t ≤ d → E[o]? = some (.inr (10, [.ref lw])) → gc_li E lw us → us.drop j = ws →
      gc_st S R i f v n → gc_I L x e c F V D i S R → p ≤ L → (∀ y, .inr y ∈ gt_ev L x e t p → D y) → gc_rs F V P E i (gt_en L x e t p) (gt_ev L x e t p) (gt_ca L x e c t p) S R f v n Q →
      gx_X gc_P (d + 6) 95 (5, [some (.ref (o + 17)), o1, some (.ref 9), some (.int (nI p)), some (.int (nI j))], [], gc_h S P R E, bc, bs) Q) ∧
    (∀ us lw ws j o d Q (bc bs : Nat) (o5 : Option Value) S R f v n p, gc_tr E t (.inr ws) 0 → gt_isl 9 t = false → gt_ht t ≤ d → E[o]? = some (.inr (11, [.ref lw])) → gc_li E lw us → us.drop j = ws →
      gc_st S R i f v n → gc_I L x e c F V D i S R → p ≤ L → (∀ y, .inr y ∈ gt_ev L x e t p → D y) → gc_rs F V P E i (gt_en L x e t p) (gt_ev L x e t p) (gt_ca L x e c t p) S R f v n Q →
      gx_X gc_P (d + 6) 86 (8, [some (.ref (o + 17)), some (.int (nI p)), some (.ref 9), some (.int (nI n)), some (.int (nI j)), o5], [], gc_h S P R E, bc, bs) Q) := by
  have rng : ∀ (t : gt_T) (p q : Nat), p ≤ L → gt_en L x e t p = some q → p ≤ q ∧ q ≤ L := fun t p q hp h => by
    have := gt_en_ok he t (fun _ _ => trivial) p q hp h
    exact ⟨this.1, this.2.1⟩
  have nn : ∀ (t : gt_T) (p : Nat), p ≤ L → (gc_e (gt_en L x e t p) = -1 ↔ gt_en L x e t p = none) := fun t p hp => gc_e_none (fun q hq => by have := (rng t p q hp hq).2; omega)
  -- the last of a sequence, of a choice
  have end10 : ∀ (us : List Nat) (lw j o d : Nat) (Q : gx_R → Prop) (bc bs : Nat) (o1 : Option Value) (S : Nat → Nat → Int32) (R : Nat → Int64) (a3 : Int32), E[o]? = some (.inr (10, [.ref lw])) → gc_li E lw us → us.length ≤ j ∨ a3 = -1 → j < 2 ^ 31 → Q (.inl (some (.int a3)), gc_h S P R E) →
      gx_X gc_P (d + 6) 95 (5, [some (.ref (o + 17)), o1, some (.ref 9), some (.int a3), some (.int (nI j))], [], gc_h S P R E, bc, bs) Q := fun us lw j o d Q bc bs o1 S R a3 ho hl hj hj31 hq => by
    refine gd_Sequence_endFrom_5 ho (gc_size (d := d + 4) hl (Nat.le_of_ble_eq_true rfl) (gd_Sequence_endFrom_16 ho ⟨fun _ => gd_Sequence_endFrom_50 ho hq, fun h => ⟨fun _ => gd_Sequence_endFrom_50 ho hq, fun h' => ?_⟩⟩))
    rcases hj with hj | hj
    · exact absurd h (nI_nlt hj hj31)
    · exact absurd hj h'
  have one10 : ∀ (t : gt_T) (us : List Nat) (lw w j o d : Nat) (Q : gx_R → Prop) (bc bs : Nat) (o1 : Option Value) (S : Nat → Nat → Int32) (R : Nat → Int64) (f : Nat) (v : Nat → Bool) (n p : Nat), gc_ef L x e c F V D i P E t (d + 5) w → E[o]? = some (.inr (10, [.ref lw])) → gc_li E lw us → us[j]? = some w →
      gc_st S R i f v n → gc_I L x e c F V D i S R → p ≤ L → (∀ y, .inr y ∈ gt_ev L x e t p → D y) →
      (∀ S' R' n', gc_st S' R' i (gt_fold F f (gt_ev L x e t p)) (gt_foldV V v (gt_ev L x e t p)) n' → gc_to S R S' R' i n → n ≤ n' → ((gt_en L x e t p).isSome = true → n' = min 40 (n + (gt_ca L x e c t p).length) ∧ gc_cp S' i n (gt_ca L x e c t p)) → gx_X gc_P (d + 6) 95 (5, [some (.ref (o + 17)), o1, some (.ref 9), some (.int (gc_e (gt_en L x e t p))), some (.int (nI (j + 1)))], [], gc_h S' P R' E, bc, bs) Q) →
      gx_X gc_P (d + 6) 95 (5, [some (.ref (o + 17)), o1, some (.ref 9), some (.int (nI p)), some (.int (nI j))], [], gc_h S P R E, bc, bs) Q := fun t us lw w j o d Q bc bs o1 S R f v n p ha ho hl hj hs hI hp hD k => by
    have hil := (List.getElem?_eq_some_iff.mp hj).1
    have h20 := gc_li_20 hl
    have e1 : nI j + Int32.ofInt 1 = nI (j + 1) := nI_1 j
    refine gd_Sequence_endFrom_5 ho (gc_size (d := d + 4) hl (Nat.le_of_ble_eq_true rfl) (gd_Sequence_endFrom_16 ho ⟨fun h => absurd (nI_lt hil (by omega)) h, fun _ => ⟨fun h => ?_, fun _ => gc_get (d := d + 2) hl hj (Nat.le_of_ble_eq_true rfl) (gd_Sequence_endFrom_35 ho ⟨gc_ef_cls ha, gc_ef_call ha hs hI hp hD (Nat.le_of_ble_eq_true rfl) (fun S' R' n' s' t' hn' hs' => gd_Sequence_endFrom_43 ho ?_)⟩)⟩⟩))
    · exact absurd h (fun h => absurd (((gc_e_none (r := some p) (fun q hq => by cases hq; omega)).mp h)) (by simp))
    · rw [e1]
      exact k S' R' n' s' t' hn' hs'
  have end11 : ∀ (us : List Nat) (lw j o d n p : Nat) (Q : gx_R → Prop) (bc bs : Nat) (o5 : Option Value) (S : Nat → Nat → Int32) (R : Nat → Int64), E[o]? = some (.inr (11, [.ref lw])) → gc_li E lw us → us.length ≤ j → j < 2 ^ 31 → Q (.inl (some (.int (-1))), gc_h S P R E) →
      gx_X gc_P (d + 6) 86 (8, [some (.ref (o + 17)), some (.int (nI p)), some (.ref 9), some (.int (nI n)), some (.int (nI j)), o5], [], gc_h S P R E, bc, bs) Q := fun us lw j o d n p Q bc bs o5 S R ho hl hj hj31 hq =>
    gd_Choice_endFrom_8 ho (gc_size (d := d + 4) hl (Nat.le_of_ble_eq_true rfl) (gd_Choice_endFrom_19 ho ⟨fun _ => hq, fun h => absurd h (nI_nlt hj hj31)⟩))
  have one11 : ∀ (t : gt_T) (us : List Nat) (lw w j o d : Nat) (Q : gx_R → Prop) (bc bs : Nat) (o5 : Option Value) (S : Nat → Nat → Int32) (R : Nat → Int64) (f : Nat) (v : Nat → Bool) (n p : Nat), gc_ef L x e c F V D i P E t (d + 5) w → E[o]? = some (.inr (11, [.ref lw])) → gc_li E lw us → us[j]? = some w →
      gc_st S R i f v n → gc_I L x e c F V D i S R → p ≤ L → (∀ y, .inr y ∈ gt_ev L x e t p → D y) →
      (∀ q, gt_en L x e t p = some q → gc_rs F V P E i (some q) (gt_ev L x e t p) (gt_ca L x e c t p) S R f v n Q) →
      (gt_en L x e t p = none → ∀ S' R' (o5 : Option Value), gc_st S' R' i (gt_fold F f (gt_ev L x e t p)) (gt_foldV V v (gt_ev L x e t p)) n → gc_to S R S' R' i n → gx_X gc_P (d + 6) 86 (8, [some (.ref (o + 17)), some (.int (nI p)), some (.ref 9), some (.int (nI n)), some (.int (nI (j + 1))), o5], [], gc_h S' P R' E, bc, bs) Q) →
      gx_X gc_P (d + 6) 86 (8, [some (.ref (o + 17)), some (.int (nI p)), some (.ref 9), some (.int (nI n)), some (.int (nI j)), o5], [], gc_h S P R E, bc, bs) Q := fun t us lw w j o d Q bc bs o5 S R f v n p ha ho hl hj hs hI hp hD k1 k0 => by
    have hil := (List.getElem?_eq_some_iff.mp hj).1
    have h20 := gc_li_20 hl
    have e1 : nI j + Int32.ofInt 1 = nI (j + 1) := nI_1 j
    refine gd_Choice_endFrom_8 ho (gc_size (d := d + 4) hl (Nat.le_of_ble_eq_true rfl) (gd_Choice_endFrom_19 ho ⟨fun h => absurd (nI_lt hil (by omega)) h, fun _ => gc_get (d := d + 2) hl hj (Nat.le_of_ble_eq_true rfl) (gd_Choice_endFrom_33 ho ⟨gc_ef_cls ha, gc_ef_call ha hs hI hp hD (Nat.le_of_ble_eq_true rfl) (fun S' R' n' s' t' hn' hs' => gd_Choice_endFrom_41 ho ⟨fun h => ⟨0, 0, ⟨Nat.zero_le _, Nat.zero_le _⟩, gc_back s' hn' (fun S2 s2 t2 => gd_Choice_endFrom_57 ho ?_)⟩, fun h => ?_⟩)⟩)⟩))
    · rw [e1]
      exact k0 ((nn t p hp).mp h) S2 R' _ s2 (t'.trans (t2 n) (Nat.le_refl _))
    · cases hq : gt_en L x e t p with
      | none => rw [hq] at h; exact absurd rfl h
      | some q =>
        rw [hq] at hs'
        exact k1 q hq S' R' n' s' t' hn' hs'
  have lst : ∀ {t : gt_T}, (∀ w d, gc_tr E t (.inl none) w → gt_ht t ≤ d → gc_ef L x e c F V D i P E t (d + 5) w) → gt_isl 9 t = false → gt_isl 10 t = false →
      (∀ us lw ws j o d Q (bc bs : Nat) (o1 : Option Value) S R f v n p, gc_tr E t (.inr ws) 0 → gt_isl 10 t = false → gt_ht t ≤ d → E[o]? = some (.inr (10, [.ref lw])) → gc_li E lw us → us.drop j = ws →
        gc_st S R i f v n → gc_I L x e c F V D i S R → p ≤ L → (∀ y, .inr y ∈ gt_ev L x e t p → D y) → gc_rs F V P E i (gt_en L x e t p) (gt_ev L x e t p) (gt_ca L x e c t p) S R f v n Q →
        gx_X gc_P (d + 6) 95 (5, [some (.ref (o + 17)), o1, some (.ref 9), some (.int (nI p)), some (.int (nI j))], [], gc_h S P R E, bc, bs) Q) ∧
      (∀ us lw ws j o d Q (bc bs : Nat) (o5 : Option Value) S R f v n p, gc_tr E t (.inr ws) 0 → gt_isl 9 t = false → gt_ht t ≤ d → E[o]? = some (.inr (11, [.ref lw])) → gc_li E lw us → us.drop j = ws →
        gc_st S R i f v n → gc_I L x e c F V D i S R → p ≤ L → (∀ y, .inr y ∈ gt_ev L x e t p → D y) → gc_rs F V P E i (gt_en L x e t p) (gt_ev L x e t p) (gt_ca L x e c t p) S R f v n Q →
        gx_X gc_P (d + 6) 86 (8, [some (.ref (o + 17)), some (.int (nI p)), some (.ref 9), some (.int (nI n)), some (.int (nI j)), o5], [], gc_h S P R E, bc, bs) Q) := fun {t} hA h9 h10 => by
    refine ⟨fun us lw ws j o d Q bc bs o1 S R f v n p ht _ hd ho hl hdr hs hI hp hD hq => ?_, fun us lw ws j o d Q bc bs o5 S R f v n p ht _ hd ho hl hdr hs hI hp hD hq => ?_⟩
    · obtain ⟨w, rfl, htw⟩ := gc_tr_last h9 h10 ht
      obtain ⟨g1, g2, g3⟩ := gc_drop1 hdr
      have h20 := gc_li_20 hl
      have hle : us.length ≤ j + 1 := by
        have := congrArg List.length g2
        simp at this
        omega
      exact one10 t us lw w j o d Q bc bs o1 S R f v n p (hA w d htw hd) ho hl g1 hs hI hp hD (fun S' R' n' s' t' hn' hs' => end10 us lw (j + 1) o d Q bc bs o1 S' R' _ ho hl (.inl hle) (by omega) (hq S' R' n' s' t' hn' hs'))
    · obtain ⟨w, rfl, htw⟩ := gc_tr_last h9 h10 ht
      obtain ⟨g1, g2, g3⟩ := gc_drop1 hdr
      have h20 := gc_li_20 hl
      have hle : us.length ≤ j + 1 := by
        have := congrArg List.length g2
        simp at this
        omega
      refine one11 t us lw w j o d Q bc bs o5 S R f v n p (hA w d htw hd) ho hl g1 hs hI hp hD (fun q hq' => by rw [hq'] at hq; exact hq) (fun hn S' R' o5 s' t' => end11 us lw (j + 1) o d n p Q bc bs o5 S' R' ho hl hle (by omega) ?_)
      rw [hn] at hq
      exact hq S' R' n s' t' (Nat.le_refl _) (fun h => by cases h)
  induction t with
  | cat l hi =>
    refine ⟨?a1, ?a1, lst ?a1 rfl rfl⟩
    intro w d ⟨⟨o, eo, ho⟩, hlo, hhi⟩ _
    subst eo
    refine ⟨5, _, 96, 3, ⟨o, rfl, ho⟩, by decide, rfl, fun S R f v n p Q bc bs hs hI hp hD hq => gd_Single_endFrom_0 ho ⟨0, 0, ⟨Nat.zero_le _, Nat.zero_le _⟩, gc_try hs hI.1 hlo hhi hp (fun h => gd_Single_endFrom_13 ho ?_) (fun h S' s' t' => gd_Single_endFrom_13 ho ?_)⟩⟩
    · have e1 : gt_en L x e (.cat l hi) p = some (p + 1) := if_pos h
      have e2 : gt_ev L x e (.cat l hi) p = [] := if_pos h
      rw [e1, e2] at hq
      refine hq S R n hs gc_to.rfl (Nat.le_refl _) (fun _ => ⟨?_, fun j a b hj _ => by cases hj⟩)
      have := hs.2.2.2.2.2.2
      show n = min 40 (n + 0)
      omega
    · have e1 : gt_en L x e (.cat l hi) p = none := if_neg h
      have e2 : gt_ev L x e (.cat l hi) p = [.inl p] := if_neg h
      rw [e1, e2] at hq
      exact hq S' R n s' t' (Nat.le_refl _) (fun h => by cases h)
  | parser r =>
    refine ⟨?a2, ?a2, lst ?a2 rfl rfl⟩
    intro w d ⟨⟨o, eo, ho⟩, hr⟩ _
    subst eo
    refine ⟨6, _, 89, 3, ⟨o, rfl, ho⟩, by decide, rfl, fun S R f v n p Q bc bs hs hI hp hD hq => ?_⟩
    obtain ⟨d1, d2, d3, d4⟩ := hI.2 (gt_nm r) p (hD (gt_nm r, p) (List.mem_singleton.mpr rfl))
    exact gd_Name_endFrom_0 ho ⟨0, 0, ⟨Nat.zero_le _, Nat.zero_le _⟩, gc_follow (d := d + 2) hs hr d2 d3 d4 (fun S' R' s' t' cp' => gd_Name_endFrom_9 ho (hq S' R' _ s' t' (by have := hs.2.2.2.2.2.2; omega) (fun _ => ⟨rfl, cp'⟩)))⟩
  | const r =>
    refine ⟨?a3, ?a3, lst ?a3 rfl rfl⟩
    intro w d ⟨o, eo, ho⟩ _
    subst eo
    refine ⟨7, _, 84, 5, ⟨o, rfl, ho⟩, by decide, rfl, fun S R f v n p Q bc bs hs hI hp hD hq => gd_Capture_endFromn_0 ho ⟨0, 0, ⟨Nat.zero_le _, Nat.zero_le _⟩, gc_open hs (fun hn S' s' t' b' => gd_Capture_endFromn_5 ho (gd_Capture_endFromn_26 ho ⟨0, 0, ⟨Nat.zero_le _, Nat.zero_le _⟩, gc_close s'.1 s'.2.1 hn (gd_Capture_endFromn_35 ho ?_)⟩)) (fun hn => gd_Capture_endFromn_5 ho (gd_Capture_endFromn_26 ho ⟨0, 0, ⟨Nat.zero_le _, Nat.zero_le _⟩, gc_close0 (gd_Capture_endFromn_35 ho ?_)⟩))⟩⟩
    · obtain ⟨h1, h2, h3, h4, h5, h6, h7⟩ := s'
      refine hq _ R (n + 1) ⟨?_, h2, ?_, h4, h5, ?_, h7⟩ ⟨fun k j g1 g2 g3 => ?_, fun _ _ => rfl⟩ (by omega) (fun _ => ⟨?_, fun j a b hj hj' => ?_⟩)
      · rw [gm_u_at, if_neg (by omega)]; exact h1
      · rw [gm_u_at, if_neg (by omega)]; exact h3
      · rw [gm_u_at, if_neg (by omega)]; exact h6
      · rw [gm_u_at, if_neg (by omega)]
        exact t'.1 k j g1 g2 g3
      · show n + 1 = min 40 (n + 1)
        omega
      · cases j with
        | zero =>
          have hj : some (p, p) = some (a, b) := hj
          cases hj
          rw [gm_u_at, if_neg (by omega), gm_u_at, if_pos ⟨rfl, by omega⟩]
          exact ⟨b', rfl⟩
        | succ j =>
          have hj : none = some (a, b) := hj
          cases hj
    · refine hq S R n hs gc_to.rfl (Nat.le_refl _) (fun _ => ⟨?_, gc_cp.full (by omega)⟩)
      show n = min 40 (n + 1)
      omega
  | unary m a ih =>
    refine ⟨?a4, ?a4, lst ?a4 rfl rfl⟩
    intro w d ⟨w', ⟨o, eo, ho⟩, ha⟩ hd
    subst eo
    have hd : gt_ht a + 1 ≤ d := hd
    obtain ⟨d, rfl⟩ : ∃ d', d = d' + 1 := ⟨d - 1, by omega⟩
    have hA := ih.1 w' d ha (by omega)
    refine ⟨7, _, 84, 5, ⟨o, rfl, ho⟩, by decide, rfl, fun S R f v n p Q bc bs hs hI hp hD hq => gd_Capture_endFromr_0 ho ⟨0, 0, ⟨Nat.zero_le _, Nat.zero_le _⟩, gc_open hs (fun hn S1 s1 t1 b1 => gd_Capture_endFromr_5 ho (gc_ef_call hA s1 (hI.to t1) hp hD (by decide) (fun S' R' n' s' t' hn' hs' => gd_Capture_endFromr_26 ho ⟨0, 0, ⟨Nat.zero_le _, Nat.zero_le _⟩, gc_close s'.1 s'.2.1 hn (gd_Capture_endFromr_35 ho ?_)⟩))) (fun hn => gd_Capture_endFromr_5 ho (gc_ef_call hA hs hI hp hD (by decide) (fun S' R' n' s' t' hn' hs' => gd_Capture_endFromr_26 ho ⟨0, 0, ⟨Nat.zero_le _, Nat.zero_le _⟩, gc_close0 (gd_Capture_endFromr_35 ho ?_)⟩)))⟩⟩
    · obtain ⟨h1, h2, h3, h4, h5, h6, h7⟩ := s'
      refine hq _ R' n' ⟨?_, h2, ?_, h4, h5, ?_, h7⟩ ⟨fun k j g1 g2 g3 => ?_, fun j hj => by rw [t'.2 j hj, t1.2 j hj]⟩ (by omega) (fun hsome => ?_)
      · rw [gm_u_at, if_neg (by omega)]; exact h1
      · rw [gm_u_at, if_neg (by omega)]; exact h3
      · rw [gm_u_at, if_neg (by omega)]; exact h6
      · rw [gm_u_at, if_neg (by omega), t'.1 k j g1 g2 (by omega), t1.1 k j g1 g2 g3]
      · obtain ⟨k1, k2⟩ := hs' hsome
        refine ⟨?_, fun j a' b hj hj' => ?_⟩
        · show n' = min 40 (n + ((gt_ca L x e c a p).length + 1))
          omega
        · cases j with
          | zero =>
            have hj : some (p, (gt_en L x e a p).getD 0) = some (a', b) := hj
            cases hj
            rw [gm_u_at, if_neg (by omega), gm_u_at, if_pos ⟨rfl, by omega⟩, t'.1 15 _ (by omega) (by omega) (by omega)]
            refine ⟨b1, ?_⟩
            cases hen : gt_en L x e a p with
            | none =>
              have hsome : (gt_en L x e a p).isSome = true := hsome
              rw [hen] at hsome
              cases hsome
            | some q => rfl
          | succ j =>
            have hj : (gt_ca L x e c a p)[j]? = some (a', b) := hj
            have := k2 j a' b hj (by omega)
            rw [show n + 1 + j = n + (j + 1) by omega] at this
            rw [gm_u_at, if_neg (by omega), gm_u_at, if_neg (by omega)]
            exact this
    · refine hq S' R' n' s' t' hn' (fun hsome => ⟨?_, gc_cp.full (by omega)⟩)
      have := s'.2.2.2.2.2.2
      show n' = min 40 (n + ((gt_ca L x e c a p).length + 1))
      omega
  | node m k a ih =>
    refine ⟨?a5, ?a5, lst ?a5 rfl rfl⟩
    intro w d ⟨w', hk3, ⟨o, eo, ho⟩, ha⟩ hd
    subst eo
    have hd : gt_ht a + 1 ≤ d := hd
    obtain ⟨d, rfl⟩ : ∃ d', d = d' + 1 := ⟨d - 1, by omega⟩
    have hA := ih.1 w' d ha (by omega)
    have hm10 : gt_most k ≤ 10 := by unfold gt_most; split <;> omega
    have loop : ∀ (g u : Nat) (b : Bool) (Q : gx_R → Prop) (bc bs : Nat) (o1 o5 o6 : Option Value) (S : Nat → Nat → Int32) (R : Nat → Int64) (f : Nat) (v : Nat → Bool) (n p : Nat), u + g = gt_most k → (b = true ↔ ¬ (k = 1 ∧ u = 0)) → gc_st S R i f v n → gc_I L x e c F V D i S R → p ≤ L → (∀ y, .inr y ∈ (gt_tp (gt_en L x e a) g p).flatMap (gt_ev L x e a) → D y) →
        gc_rs F V P E i (gt_tn (gt_en L x e a) g b p) ((gt_tp (gt_en L x e a) g p).flatMap (gt_ev L x e a)) ((gt_tp (gt_en L x e a) g p).flatMap (fun q => if (gt_en L x e a q).isSome then gt_ca L x e c a q else [])) S R f v n Q →
        gx_X gc_P (d + 6) 94 (5, [some (.ref (o + 17)), o1, some (.ref 9), some (.int (nI p)), some (.int (nI u)), o5, o6], [], gc_h S P R E, bc, bs) Q := by
      intro g
      induction g with
      | zero =>
        intro u b Q bc bs o1 o5 o6 S R f v n p hu hb hs hI hp hD hq
        have h40 := hs.2.2.2.2.2.2
        refine gd_Repeat_endFrom_5 ho ⟨fun _ => hq S R n hs gc_to.rfl (Nat.le_refl _) (fun _ => ⟨by show n = min 40 (n + 0); omega, fun j a b hj _ => by cases hj⟩), fun h => absurd h (nI_nlt (by omega) (by omega))⟩
      | succ g ihg =>
        intro u b Q bc bs o1 o5 o6 S R f v n p hu hb hs hI hp hD hq
        have h40 := hs.2.2.2.2.2.2
        have e1 : nI u + Int32.ofInt 1 = nI (u + 1) := nI_1 u
        have hDa : ∀ y, .inr y ∈ gt_ev L x e a p → D y := fun y hy => hD y (List.mem_flatMap.mpr ⟨p, by rw [gt_tp_s]; exact List.mem_cons_self, hy⟩)
        refine gd_Repeat_endFrom_5 ho ⟨fun h => absurd (nI_lt (by omega) (by omega)) h, fun _ => ⟨0, 0, ⟨Nat.zero_le _, Nat.zero_le _⟩, gc_count hs (gd_Repeat_endFrom_18 ho (gc_ef_call hA hs hI hp hDa (by decide) (fun S' R' n' s' t' hn' hs' => gd_Repeat_endFrom_29 ho ⟨fun h => ?_, fun h => ⟨0, 0, ⟨Nat.zero_le _, Nat.zero_le _⟩, gc_back s' hn' (fun S2 s2 t2 => ?_)⟩⟩)))⟩⟩
        · cases hen : gt_en L x e a p with
          | none => rw [hen] at h; exact absurd rfl h
          | some q =>
            rw [hen] at hs'
            obtain ⟨k1, k2⟩ := hs' rfl
            rw [gt_tn_s, gt_tp_s, hen] at hq
            rw [gt_tp_s, hen] at hD
            rw [List.flatMap_cons] at hq hD
            rw [e1]
            rw [List.flatMap_cons, hen] at hq
            exact ihg (u + 1) true Q bc bs o1 _ _ S' R' _ _ n' q (by omega) (by simp) s' (hI.to t') (rng a p q hp hen).2 (fun y hy => hD y (List.mem_append_right _ hy)) (hq.cat t' h40 k1 k2)
        · have hen := (nn a p hp).mp h
          rw [gt_tn_s, gt_tp_s, hen] at hq
          rw [List.flatMap_cons, List.flatMap_cons, List.flatMap_nil, List.flatMap_nil, List.append_nil, List.append_nil, hen] at hq
          have hq2 := hq S2 R' n s2 (t'.trans (t2 n) (Nat.le_refl _)) (Nat.le_refl _) (fun _ => ⟨by show n = min 40 (n + 0); omega, fun j a b hj _ => by cases hj⟩)
          refine gd_Repeat_endFrom_43 ho ⟨fun h' => gd_Repeat_endFrom_57 ho ?_, fun h' => gd_Repeat_endFrom_57 ho ?_⟩
          · have hbt : b = true := hb.mpr (fun ⟨hk, hu0⟩ => by
              subst hk hu0
              exact h' (by decide))
            rw [hbt] at hq2
            exact hq2
          · have hbf : b = false := by
              cases b with
              | false => rfl
              | true =>
                exfalso
                refine (hb.mp rfl) ?_
                by_cases hk : k = 1
                · rw [if_pos hk] at h'
                  have : u < 1 := (nI_ltI (b := 1) (by omega) (by decide)).mp h'
                  exact ⟨hk, by omega⟩
                · rw [if_neg hk] at h'
                  exact absurd h' (nI_pos (by omega))
            rw [hbf] at hq2
            exact hq2
    refine ⟨8, _, 94, 7, ⟨o, rfl, ho⟩, by decide, rfl, fun S R f v n p Q bc bs hs hI hp hD hq => gd_Repeat_endFrom_0 ho (loop (gt_most k) 0 (!(k == 1)) Q bc bs _ _ _ S R f v n p (by omega) (by simp) hs hI hp hD hq)⟩
  | trailingNode m b l a ih =>
    refine ⟨?a6, fun w d ht hd => ih.2.1 w d ht (by have : gt_ht a + 1 ≤ d := hd; omega), lst ?a6 rfl rfl⟩
    intro w d ht hd
    have hd : gt_ht a + 1 ≤ d := hd
    obtain ⟨d, rfl⟩ : ∃ d', d = d' + 1 := ⟨d - 1, by omega⟩
    obtain ⟨w', ⟨o, eo, ho⟩, hw'⟩ := gc_tr_look a _ w ht
    subst eo
    have hA := ih.2.1 w' d hw' (by omega)
    refine ⟨9, _, 88, 5, ⟨o, rfl, ho⟩, by decide, rfl, fun S R f v n p Q bc bs hs hI hp hD hq => ?_⟩
    have h40 := hs.2.2.2.2.2.2
    have hen : gt_en L x e (.trailingNode m b l a) p = if (gt_en L x e (gt_core a) p).isSome = gt_par a (b == 1) then some p else none := by
      have h1 := gt_core_en (L := L) (x := x) (e := e) a p (b == 1)
      show (if (gt_en L x e a p).isSome = (b == 1) then some p else none) = _
      by_cases h2 : (gt_en L x e a p).isSome = (b == 1)
      · rw [if_pos h2, if_pos]
        rw [h2] at h1
        simpa using h1
      · rw [if_neg h2, if_neg]
        intro h3
        rw [h3] at h1
        simp at h1
        exact h2 h1
    rw [hen] at hq
    have hq : gc_rs F V P E i _ (gt_ev L x e a p) [] S R f v n Q := hq
    have hD : ∀ y, .inr y ∈ gt_ev L x e a p → D y := hD
    rw [← gt_core_ev] at hq hD
    refine gd_Look_endFrom_0 ho ⟨0, 0, ⟨Nat.zero_le _, Nat.zero_le _⟩, gc_count hs (gd_Look_endFrom_4 ho (gc_ef_call hA hs hI hp hD (by decide) (fun S' R' n' s' t' hn' hs' => ?_)))⟩
    have rest : ∀ b' : Bool, (gt_en L x e (gt_core a) p).isSome = b' → gx_X gc_P (d + 6) 88 (23, [some (.ref (o + 17)), some (.int (nI p)), some (.ref 9), some (.int (nI n)), none], [.int (gp_b b')], gc_h S' P R' E, bc, bs) Q := fun b' hb' => by
      refine gd_Look_endFrom_23 ho ⟨0, 0, ⟨Nat.zero_le _, Nat.zero_le _⟩, gc_back s' hn' (fun S2 s2 t2 => gd_Look_endFrom_30 ho ⟨fun h => gd_Look_endFrom_44 ho ?_, fun h => gd_Look_endFrom_44 ho ?_⟩)⟩
      · rw [hb', if_neg (fun hh => h (by rw [hh]))] at hq
        exact hq S2 R' n s2 (t'.trans (t2 n) (Nat.le_refl _)) (Nat.le_refl _) (fun h => by cases h)
      · have hbb : b' = gt_par a (b == 1) := by
          revert h
          cases b' <;> cases gt_par a (b == 1) <;> first | (intro _; rfl) | (intro h; exact absurd h (by decide))
        rw [hb', if_pos hbb] at hq
        exact hq S2 R' n s2 (t'.trans (t2 n) (Nat.le_refl _)) (Nat.le_refl _) (fun _ => ⟨by show n = min 40 (n + 0); omega, fun j a b hj _ => by cases hj⟩)
    refine gd_Look_endFrom_14 ho ⟨fun h => rest false ?_, fun h => rest true ?_⟩
    · rw [(nn (gt_core a) p hp).mp h]
      rfl
    · cases hh : gt_en L x e (gt_core a) p with
      | none => rw [hh] at h; exact absurd rfl h
      | some q => rfl
  | nodeWithAntiquot s k a ih =>
    refine ⟨?a7, ?a7, lst ?a7 rfl rfl⟩
    intro w d ht hd
    have hd : gt_ht a + 1 ≤ d := hd
    have ht : (if gt_isl 9 a || gt_isl 10 a then (gt_nm k = 9 ∧ gt_isl 9 a = true ∨ gt_nm k = 10 ∧ gt_isl 10 a = true) ∧ ∃ lw ws, gc_ob E w (gt_nm k + 1) [.ref lw] ∧ gc_li E lw ws ∧ gc_tr E a (.inr ws) 0 else gc_tr E a (.inl none) w) := ht
    split at ht
    · obtain ⟨hk, lw, ws, ⟨o, eo, ho⟩, hl, hta⟩ := ht
      subst eo
      obtain ⟨d, rfl⟩ : ∃ d', d = d' + 1 := ⟨d - 1, by omega⟩
      rcases hk with ⟨hk, h9⟩ | ⟨hk, h10⟩
      · rw [hk] at ho
        have h10 : gt_isl 10 a = false := by cases a <;> first | rfl | cases h9
        exact ⟨10, _, 95, 5, ⟨o, rfl, ho⟩, by decide, rfl, fun S R f v n p Q bc bs hs hI hp hD hq => gd_Sequence_endFrom_0 ho (ih.2.2.1 ws lw ws 0 o d Q bc bs _ S R f v n p hta h10 (by omega) ho hl rfl hs hI hp hD hq)⟩
      · rw [hk] at ho
        have h9 : gt_isl 9 a = false := by cases a <;> first | rfl | cases h10
        exact ⟨11, _, 86, 6, ⟨o, rfl, ho⟩, by decide, rfl, fun S R f v n p Q bc bs hs hI hp hD hq => gd_Choice_endFrom_0 ho ⟨0, 0, ⟨Nat.zero_le _, Nat.zero_le _⟩, gc_count hs (gd_Choice_endFrom_4 ho (ih.2.2.2 ws lw ws 0 o d Q bc bs _ S R f v n p hta h9 (by omega) ho hl rfl hs hI hp hD hq))⟩⟩
    · obtain ⟨cl, fs, m, nL, h1, h2, h3, h4⟩ := ih.1 w d ht (by omega)
      exact ⟨cl, fs, m, nL, h1, h2, h3, h4⟩
  | sepBy t1 s t2 b ih1 ih2 =>
    refine ⟨fun w d ht => False.elim ht, fun w d ht => False.elim ht, fun us lw ws j o d Q bc bs o1 S R f v n p ht _ hd ho hl hdr hs hI hp hD hq => ?_, (fun us lw ws j o d Q bc bs o5 S R f v n p _ h => by cases h)⟩
    have hd : max (gt_ht t1) (gt_ht t2) ≤ d := hd
    cases ws with
    | nil => exact False.elim ht
    | cons w ws =>
      obtain ⟨h1, h2, h3⟩ := ht
      obtain ⟨g1, g2, g3⟩ := gc_drop1 hdr
      have h20 := gc_li_20 hl
      have hq : gc_rs F V P E i (match gt_en L x e t1 p with | none => none | some q => gt_en L x e t2 q) (gt_ev L x e t1 p ++ (match gt_en L x e t1 p with | none => [] | some q => gt_ev L x e t2 q)) (gt_ca L x e c t1 p ++ (match gt_en L x e t1 p with | none => [] | some q => gt_ca L x e c t2 q)) S R f v n Q := hq
      have hD : ∀ y, .inr y ∈ (gt_ev L x e t1 p ++ (match gt_en L x e t1 p with | none => [] | some q => gt_ev L x e t2 q)) → D y := hD
      refine one10 t1 us lw w j o d Q bc bs o1 S R f v n p (ih1.1 w d h1 (by omega)) ho hl g1 hs hI hp (fun y hy => hD y (List.mem_append_left _ hy)) (fun S' R' n' s' t' hn' hs' => ?_)
      cases hen : gt_en L x e t1 p with
      | none =>
        rw [hen] at hq
        simp only [List.append_nil] at hq
        exact end10 us lw (j + 1) o d Q bc bs o1 S' R' _ ho hl (.inr rfl) (by omega) (hq S' R' n' s' t' hn' (fun h => by cases h))
      | some q =>
        rw [hen] at hq hs' hD
        obtain ⟨k1, k2⟩ := hs' rfl
        exact ih2.2.2.1 us lw ws (j + 1) o d Q bc bs o1 S' R' _ _ n' q h3 h2 (by omega) ho hl g2 s' (hI.to t') (rng t1 p q hp hen).2 (fun y hy => hD y (List.mem_append_right _ hy)) (hq.cat t' hs.2.2.2.2.2.2 k1 k2)
  | sepBy1 t1 s t2 b ih1 ih2 =>
    refine ⟨fun w d ht => False.elim ht, fun w d ht => False.elim ht, (fun us lw ws j o d Q bc bs o1 S R f v n p _ h => by cases h), fun us lw ws j o d Q bc bs o5 S R f v n p ht _ hd ho hl hdr hs hI hp hD hq => ?_⟩
    have hd : max (gt_ht t1) (gt_ht t2) ≤ d := hd
    cases ws with
    | nil => exact False.elim ht
    | cons w ws =>
      obtain ⟨h1, h2, h3⟩ := ht
      obtain ⟨g1, g2, g3⟩ := gc_drop1 hdr
      have hq : gc_rs F V P E i (match gt_en L x e t1 p with | none => gt_en L x e t2 p | some q => some q) (gt_ev L x e t1 p ++ (match gt_en L x e t1 p with | none => gt_ev L x e t2 p | some _ => [])) (match gt_en L x e t1 p with | none => gt_ca L x e c t2 p | some _ => gt_ca L x e c t1 p) S R f v n Q := hq
      have hD : ∀ y, .inr y ∈ (gt_ev L x e t1 p ++ (match gt_en L x e t1 p with | none => gt_ev L x e t2 p | some _ => [])) → D y := hD
      refine one11 t1 us lw w j o d Q bc bs o5 S R f v n p (ih1.1 w d h1 (by omega)) ho hl g1 hs hI hp (fun y hy => hD y (List.mem_append_left _ hy)) (fun q hen => ?_) (fun hen S' R' o5 s' t' => ?_)
      · rw [hen] at hq
        simp only [List.append_nil] at hq
        exact hq
      · rw [hen] at hq hD
        exact ih2.2.2.2 us lw ws (j + 1) o d Q bc bs o5 S' R' _ _ n p h3 h2 (by omega) ho hl g2 s' (hI.to t') hp (fun y hy => hD y (List.mem_append_right _ hy)) (hq.after t' hs.2.2.2.2.2.2)
  | _ => exact ⟨fun w d ht => False.elim ht, fun w d ht => False.elim ht, fun us lw ws j o d Q bc bs o1 S R f v n p ht => False.elim ht, fun us lw ws j o d Q bc bs o1 S R f v n p ht => False.elim ht⟩
end GCJ
