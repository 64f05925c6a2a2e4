/-! What a call comes to, said once for class and model: gj_A: rules, their lines, the line, the text, the latest match; gj_O: what is thrown (0: nothing), the answer, the state behind it. -/
abbrev gj_A : Type := (Nat → Option gt_T) × (Nat → Nat → Nat) × (Nat × (Nat → Nat)) × (Nat × (Nat → Nat)) × (List (Nat × Nat) × Nat × (Nat → Bool))
abbrev gj_O : Type := Nat × Int32 × gj_A
/-- the model's lines -/
def gj_ls (S : Nat → Nat → Int32) (T : Nat → Option gt_T) (ch : Nat → Nat → Nat) : Prop := (∀ r t, T r = some t → ∃ n, n ≤ 20 ∧ S 5 r = nI n ∧ (∀ k, k < n → S 4 (20 * r + k) = nI (ch r k)) ∧ ∀ k, n ≤ k → k < 20 → ch r k = 0) ∧ (∀ r, r < 4 → T r = none → ∀ k, k < 20 → ch r k = 0) ∧ ∀ r k, r < 4 → k < 20 → ch r k ≤ 126
def gj_lc (S : Nat → Nat → Int32) (nn : Nat) (c : Nat → Nat) : Prop := S 0 5 = nI nn ∧ nn ≤ 20 ∧ (∀ j, j < nn → S 1 j = nI (c j) ∧ 32 ≤ c j ∧ c j ≤ 126) ∧ ∀ j, nn ≤ j → c j = 0
def gj_C (a : gj_A) (S : Nat → Nat → Int32) (P : Nat → Option Nat) (R : Nat → Int64) (E : gx_H) : Prop := match a with
  | (T, ch, (nn, c), (Lx, x), (cp, f, v)) => gc_gr S P E T ch ∧ gj_lc S nn c ∧ gc_xt S Lx x ∧ gc_lt S R cp f v
def gj_M (a : gj_A) (S : Nat → Nat → Int32) : Prop := match a with
  | (T, ch, (nn, c), (Lx, x), (cp, f, v)) => gm_gr S T ∧ gm_ln S nn c ∧ gm_tx S Lx x ∧ gm_lt S cp f (gp_ct (fun k => (v k).toNat) 40) ∧ gj_ls S T ch
def gj_ap (n : Nat) (c : Nat → Nat) (l : List Nat) : Nat → Nat := fun j => if j < n then c j else (l[j - n]?).getD 0
def gj_type (x : Int32) (a : gj_A) (o : gj_O) : Prop := match a with
  | (T, ch, (nn, c), tx, m) => match gp_cs x with
    | none => o = (1, 0, (T, ch, (nn, c), tx, m))
    | some l => (20 < nn + l.length ∧ o = (0, 0, (T, ch, (nn, c), tx, m))) ∨ (nn + l.length ≤ 20 ∧ o = (0, 1, (T, ch, (nn + l.length, gj_ap nn c l), tx, m)))
def gj_text (z : Int32) (a : gj_A) (o : gj_O) : Prop := match a with
  | (T, ch, ln, (Lx, x), m) => match gp_cs z with
    | none => o = (1, 0, (T, ch, ln, (Lx, x), m))
    | some l => (9 < Lx + l.length ∧ o = (0, 0, (T, ch, ln, (Lx, x), m))) ∨ (Lx + l.length ≤ 9 ∧ o = (0, 1, (T, ch, ln, (Lx + l.length, gj_ap Lx x l), m)))
def gj_define (a : gj_A) (o : gj_O) : Prop := match a with
  | (T, ch, (nn, c), tx, m) => match gq_line c nn with
    | none => o = (1, 0, (T, ch, (0, fun _ => 0), tx, m))
    | some (r, t) => o = (0, nI r, (va_up T r (some t), va_up ch r c, (0, fun _ => 0), tx, m))
def gj_drop (z : Int32) (a : gj_A) (o : gj_O) : Prop := match a with
  | (T, ch, ln, tx, m) => (¬ (¬ z < 0 ∧ z < 4) ∧ o = (1, 0, (T, ch, ln, tx, m))) ∨ ∃ r, r < 4 ∧ z = nI r ∧ o = (0, gp_b (T r).isSome, (va_up T r none, va_up ch r (fun _ => 0), ln, tx, m))
def gj_shown (z1 z2 : Int32) (a : gj_A) (o : gj_O) : Prop := (¬ (∃ r k, r < 4 ∧ k < 20 ∧ z1 = nI r ∧ z2 = nI k) ∧ o = (0, 0, a)) ∨ ∃ r k, r < 4 ∧ k < 20 ∧ z1 = nI r ∧ z2 = nI k ∧ o = (0, nI (a.2.1 r k), a)
def gj_clear (a : gj_A) (o : gj_O) : Prop := match a with
  | (T, ch, ln, (Lx, x), m) => o = (0, nI Lx, (T, ch, ln, (0, x), m))
def gj_check (z : Int32) (a : gj_A) (o : gj_O) : Prop := (¬ (¬ z < 0 ∧ z < 4) ∧ o = (1, 0, a)) ∨ ∃ r, r < 4 ∧ z = nI r ∧ o = (0, nI (gt_chk a.1 r), a)
def gj_match (z1 z2 : Int32) (a : gj_A) (o : gj_O) : Prop := match a with
  | (T, ch, ln, (Lx, x), m) => (¬ ((¬ z1 < 0 ∧ z1 < 4) ∧ ¬ z2 < 0 ∧ ¬ nI Lx < z2) ∧ o = (1, 0, (T, ch, ln, (Lx, x), m))) ∨ ∃ r p, r < 4 ∧ p ≤ Lx ∧ z1 = nI r ∧ z2 = nI p ∧ ((gt_chk T r ≠ 0 ∧ o = (2, 0, (T, ch, ln, (Lx, x), m))) ∨
      (gt_chk T r = 0 ∧ ∃ f v, gt_isF Lx x T (r, p) f ∧ gt_isV Lx x T (r, p) v ∧ o = (0, gc_e (gt_Ed Lx x T r p), (T, ch, ln, (Lx, x), ((gt_Cd Lx x T r p).take 40, f, v)))))
def gj_find (z1 : Int32) (a : gj_A) (o : gj_O) : Prop := match a with
  | (T, ch, ln, (Lx, x), m) => (¬ (¬ z1 < 0 ∧ z1 < 4) ∧ o = (1, 0, (T, ch, ln, (Lx, x), m))) ∨ ∃ r, r < 4 ∧ z1 = nI r ∧ ((gt_chk T r ≠ 0 ∧ o = (2, 0, (T, ch, ln, (Lx, x), m))) ∨
      (gt_chk T r = 0 ∧ ∃ p f v, (gt_fst (gt_Ed Lx x T r) (Lx + 1) 0 = some p ∨ gt_fst (gt_Ed Lx x T r) (Lx + 1) 0 = none ∧ p = Lx) ∧ gt_isF Lx x T (r, p) f ∧ gt_isV Lx x T (r, p) v ∧ o = (0, gc_e (gt_fst (gt_Ed Lx x T r) (Lx + 1) 0), (T, ch, ln, (Lx, x), ((gt_Cd Lx x T r p).take 40, f, v)))))
def gj_captures (a : gj_A) (o : gj_O) : Prop := match a with
  | (T, ch, ln, tx, (cp, f, v)) => o = (0, nI cp.length, (T, ch, ln, tx, (cp, f, v)))
def gj_capture (z1 z2 : Int32) (a : gj_A) (o : gj_O) : Prop := match a with
  | (T, ch, ln, tx, (cp, f, v)) => (¬ (¬ z1 < 0 ∧ z1 < nI cp.length ∧ ¬ z2 < 0 ∧ ¬ 1 < z2) ∧ o = (1, 0, (T, ch, ln, tx, (cp, f, v)))) ∨ ∃ k s t, z1 = nI k ∧ cp[k]? = some (s, t) ∧ ¬ z2 < 0 ∧ ¬ 1 < z2 ∧ o = (0, (if z2 = 0 then nI s else nI t), (T, ch, ln, tx, (cp, f, v)))
def gj_farthest (a : gj_A) (o : gj_O) : Prop := match a with
  | (T, ch, ln, tx, (cp, f, v)) => o = (0, nI f + -1, (T, ch, ln, tx, (cp, f, v)))
def gj_tried (a : gj_A) (o : gj_O) : Prop := match a with
  | (T, ch, ln, tx, (cp, f, v)) => o = (0, nI (gp_ct (fun k => (v k).toNat) 40), (T, ch, ln, tx, (cp, f, v)))
/-- exceptions by what the law calls them -/
def gj_ia (_ : Nat) : String := "java/lang/IllegalArgumentException"
def gj_io (k : Nat) : String := match Nat.beq k 1 with
  | true => "java/lang/IndexOutOfBoundsException"
  | false => "java/lang/IllegalStateException"
def gj_QC (nm : Nat → String) (O : gj_O → Prop) : gx_R → Prop := fun q => ∃ k v a S P R E, O (k, v, a) ∧ gj_C a S P R E ∧ q.2 = gc_h S P R E ∧ ((k = 0 ∧ q.1 = .inl (some (.int v))) ∨ ((k = 1 ∨ k = 2) ∧ q.1 = .inr (nm k)))
def gj_QM (O : gj_O → Prop) : gx_R → Prop := fun q => ∃ k v a S v', O (k, v, a) ∧ gj_M a S ∧ S 0 0 = nI k ∧ q = (.inl (some (.int v')), gm_h S) ∧ (k = 0 → v' = v)
theorem gj_ap_l {n : Nat} {c : Nat → Nat} {l : List Nat} {j : Nat} (h : j < n) : gj_ap n c l j = c j := if_pos h
theorem gj_ap_r {n : Nat} {c : Nat → Nat} {l : List Nat} {i b : Nat} (h : l[i]? = some b) : gj_ap n c l (n + i) = b := by
  unfold gj_ap
  rw [if_neg (by omega), show n + i - n = i by omega, h]; rfl
theorem gj_ap_z {n : Nat} {c : Nat → Nat} {l : List Nat} {j : Nat} (h : n + l.length ≤ j) : gj_ap n c l j = 0 := by
  unfold gj_ap
  rw [if_neg (by omega), List.getElem?_eq_none (by omega)]; rfl
theorem gj_csb {x : Int32} {l : List Nat} (h : gp_cs x = some l) {i c : Nat} (hc : l[i]? = some c) : 32 ≤ c ∧ c ≤ 126 := ((gp_go_len x 4 0 l h).2 i c hc).2
/-- a line to which characters are put -/
theorem gj_put {S S' : Nat → Nat → Int32} {k n : Nat} {c : Nat → Nat} {x : Int32} {l : List Nat} (hl : gp_cs x = some l) (h0 : ∀ j, j < n → S k j = nI (c j) ∧ 32 ≤ c j ∧ c j ≤ 126) (h1 : ∀ i, i < n → S' k i = S k i) (h2 : ∀ i c, l[i]? = some c → S' k (n + i) = nI c) : ∀ j, j < n + l.length → S' k j = nI (gj_ap n c l j) ∧ 32 ≤ gj_ap n c l j ∧ gj_ap n c l j ≤ 126 := fun j hj => by
  by_cases hjn : j < n
  · rw [gj_ap_l hjn, h1 j hjn]; exact h0 j hjn
  · have e : l[j - n]? = some l[j - n] := List.getElem?_eq_getElem (by omega)
    have e2 : j = n + (j - n) := by omega
    rw [e2, gj_ap_r e, h2 _ _ e]
    exact ⟨rfl, gj_csb hl e⟩
theorem gj_put' {S S' : Nat → Nat → Int32} {k n : Nat} {c : Nat → Nat} {x : Int32} {l : List Nat} (hl : gp_cs x = some l) (h0 : ∀ j, j < n → S k j = nI (c j) ∧ c j ≤ 126) (h1 : ∀ i, i < n → S' k i = S k i) (h2 : ∀ i c, l[i]? = some c → S' k (n + i) = nI c) : ∀ j, j < n + l.length → S' k j = nI (gj_ap n c l j) ∧ gj_ap n c l j ≤ 126 := fun j hj => by
  by_cases hjn : j < n
  · rw [gj_ap_l hjn, h1 j hjn]; exact h0 j hjn
  · have e : l[j - n]? = some l[j - n] := List.getElem?_eq_getElem (by omega)
    have e2 : j = n + (j - n) := by omega
    rw [e2, gj_ap_r e, h2 _ _ e]
    exact ⟨rfl, (gj_csb hl e).2⟩
section GJC
variable {d bc bs : Nat} {S : Nat → Nat → Int32} {P : Nat → Option Nat} {R : Nat → Int64} {E : gx_H} {a : gj_A}
theorem gc_lt_S {S' : Nat → Nat → Int32} {cp : List (Nat × Nat)} {f : Nat} {v : Nat → Bool} (h : gc_lt S R cp f v) (h7 : S' 0 7 = S 0 7) (hk : ∀ k j, 11 < k → k < 17 → S' k j = S k j) : gc_lt S' R cp f v := by
  rcases h with ⟨h1, h2⟩ | ⟨w, hw, g7, g2, g3, g4, g5, g6, g8⟩
  · exact .inl ⟨h7.trans h1, h2⟩
  · refine .inr ⟨w, hw, h7.trans g7, (hk 12 w (by omega) (by omega)).trans g2, g3, g4, (hk 14 w (by omega) (by omega)).trans g5, g6, fun j s t hj hj' => ?_⟩
    have := g8 j s t hj hj'
    rw [hk 15 _ (by omega) (by omega), hk 16 _ (by omega) (by omega)]
    exact this
end GJC
section GJC2
variable {d bc bs : Nat} {S : Nat → Nat → Int32} {P : Nat → Option Nat} {R : Nat → Int64} {E : gx_H} {a : gj_A}
theorem gjc_type (hJ : gj_C a S P R E) {x : Int32} (hbc : 1 ≤ bc) (hbs : 6 ≤ bs) : gx_X gc_P (d + 4) 14 (0, [some (.ref 0), some (.int x), none], [], gc_h S P R E, bc, bs) (gj_QC gj_ia (gj_type x a)) := by
  obtain ⟨T, ch, ⟨nn, c⟩, ⟨Lx, y⟩, cp, f, v⟩ := a
  obtain ⟨hg, ⟨h5, h20, hc, hz⟩, hx, hl⟩ := id hJ
  refine gc_type h5 h20 hbc hbs ?_
  cases hcs : gp_cs x with
  | none =>
    refine ⟨1, 0, _, S, P, R, E, ?_, hJ, rfl, .inr ⟨.inl rfl, rfl⟩⟩
    show (match gp_cs x with
      | none => _
      | some l => _)
    rw [hcs]
  | some l =>
    refine ⟨fun h => ⟨0, 0, _, S, P, R, E, ?_, hJ, rfl, .inl ⟨rfl, rfl⟩⟩, fun h S' e1 e2 e3 e4 => ⟨0, 1, (T, ch, (nn + l.length, gj_ap nn c l), (Lx, y), cp, f, v), S', P, R, E, ?_, ⟨gc_gr_S (fun j => e1 7 j (by omega) (by omega)) hg, ⟨e2, h, gj_put hcs hc e3 e4, fun j hj => gj_ap_z hj⟩, ⟨(e1 0 6 (by omega) (by omega)).trans hx.1, hx.2.1, fun p hp => by rw [e1 2 p (by omega) (by omega)]; exact hx.2.2 p hp⟩, gc_lt_S hl (e1 0 7 (by omega) (by omega)) (fun k j k1 k2 => e1 k j (by omega) (by omega))⟩, rfl, .inl ⟨rfl, rfl⟩⟩⟩
    · show (match gp_cs x with
        | none => _
        | some l => _)
      rw [hcs]
      exact .inl ⟨h, rfl⟩
    · show (match gp_cs x with
        | none => _
        | some l => _)
      rw [hcs]
      exact .inr ⟨h, rfl⟩
theorem gjc_text (hJ : gj_C a S P R E) {x : Int32} (hbc : 1 ≤ bc) (hbs : 6 ≤ bs) : gx_X gc_P (d + 4) 48 (0, [some (.ref 0), some (.int x), none], [], gc_h S P R E, bc, bs) (gj_QC gj_ia (gj_text x a)) := by
  obtain ⟨T, ch, ⟨nn, c⟩, ⟨Lx, y⟩, cp, f, v⟩ := a
  obtain ⟨hg, ⟨h5, h20, hc, hz⟩, ⟨x1, x2, x3⟩, hl⟩ := id hJ
  refine gc_text x1 x2 hbc hbs ?_
  cases hcs : gp_cs x with
  | none =>
    refine ⟨1, 0, _, S, P, R, E, ?_, hJ, rfl, .inr ⟨.inl rfl, rfl⟩⟩
    show (match gp_cs x with
      | none => _
      | some l => _)
    rw [hcs]
  | some l =>
    refine ⟨fun h => ⟨0, 0, _, S, P, R, E, ?_, hJ, rfl, .inl ⟨rfl, rfl⟩⟩, fun h S' e1 e2 e3 e4 => ⟨0, 1, (T, ch, (nn, c), (Lx + l.length, gj_ap Lx y l), cp, f, v), S', P, R, E, ?_, ⟨gc_gr_S (fun j => e1 7 j (by omega) (by omega)) hg, ⟨(e1 0 5 (by omega) (by omega)).trans h5, h20, fun j hj => by rw [e1 1 j (by omega) (by omega)]; exact hc j hj, hz⟩, ⟨e2, h, gj_put' hcs x3 e3 e4⟩, gc_lt_S hl (e1 0 7 (by omega) (by omega)) (fun k j k1 k2 => e1 k j (by omega) (by omega))⟩, rfl, .inl ⟨rfl, rfl⟩⟩⟩
    · show (match gp_cs x with
        | none => _
        | some l => _)
      rw [hcs]
      exact .inl ⟨h, rfl⟩
    · show (match gp_cs x with
        | none => _
        | some l => _)
      rw [hcs]
      exact .inr ⟨h, rfl⟩
theorem gjc_drop (hJ : gj_C a S P R E) {x : Int32} (hbc : 1 ≤ bc) (hbs : 6 ≤ bs) : gx_X gc_P (d + 3) 46 (0, [some (.ref 0), some (.int x)], [], gc_h S P R E, bc, bs) (gj_QC gj_io (gj_drop x a)) := by
  obtain ⟨T, ch, ⟨nn, c⟩, ⟨Lx, y⟩, cp, f, v⟩ := a
  obtain ⟨hg, ⟨h5, h20, hc, hz⟩, ⟨x1, x2, x3⟩, hl⟩ := id hJ
  refine gc_drop hg hbc hbs (fun h => ⟨1, 0, _, S, P, R, E, .inl ⟨h, rfl⟩, hJ, rfl, .inr ⟨.inl rfl, rfl⟩⟩) (fun r hr hx S' e1 g' => ⟨0, _, (va_up T r none, va_up ch r (fun _ => 0), (nn, c), (Lx, y), cp, f, v), S', _, R, E, .inr ⟨r, hr, hx, rfl⟩, ⟨g', ⟨(e1 0 5 (by omega)).trans h5, h20, fun j hj => by rw [e1 1 j (by omega)]; exact hc j hj, hz⟩, ⟨(e1 0 6 (by omega)).trans x1, x2, fun p hp => by rw [e1 2 p (by omega)]; exact x3 p hp⟩, gc_lt_S hl (e1 0 7 (by omega)) (fun k j k1 k2 => e1 k j (by omega))⟩, rfl, .inl ⟨rfl, rfl⟩⟩)
theorem gjc_shown (hJ : gj_C a S P R E) {x1 x2 : Int32} : gx_X gc_P (d + 2) 4 (0, [some (.ref 0), some (.int x1), some (.int x2)], [], gc_h S P R E, bc, bs) (gj_QC gj_io (gj_shown x1 x2 a)) := by
  obtain ⟨T, ch, ⟨nn, c⟩, ⟨Lx, y⟩, cp, f, v⟩ := a
  exact gc_shown hJ.1 (fun h => ⟨0, 0, _, S, P, R, E, .inl ⟨h, rfl⟩, hJ, rfl, .inl ⟨rfl, rfl⟩⟩) (fun r k hr hk e1 e2 => ⟨0, _, _, S, P, R, E, .inr ⟨r, k, hr, hk, e1, e2, rfl⟩, hJ, rfl, .inl ⟨rfl, rfl⟩⟩)
theorem gjc_clear (hJ : gj_C a S P R E) {o1 : Option Value} : gx_X gc_P (d + 1) 7 (0, [some (.ref 0), o1], [], gc_h S P R E, bc, bs) (gj_QC gj_io (gj_clear a)) := by
  obtain ⟨T, ch, ⟨nn, c⟩, ⟨Lx, y⟩, cp, f, v⟩ := a
  obtain ⟨hg, ⟨h5, h20, hc, hz⟩, ⟨x1, x2, x3⟩, hl⟩ := id hJ
  have e1 : ∀ k j, (k = 0 → j ≠ 6) → gm_u S 0 6 0 k j = S k j := fun k j h => by rw [gm_u_at, if_neg (by omega)]
  refine gd_M_clear_0 ?_
  rw [x1]
  exact ⟨0, _, (T, ch, (nn, c), (0, y), cp, f, v), _, P, R, E, rfl, ⟨gc_gr_S (fun j => e1 7 j (by omega)) hg, ⟨(e1 0 5 (by omega)).trans h5, h20, fun j hj => by rw [e1 1 j (by omega)]; exact hc j hj, hz⟩, ⟨by rw [gm_u_at, if_pos ⟨rfl, rfl⟩]; rfl, by omega, fun p hp => by omega⟩, gc_lt_S hl (e1 0 7 (by omega)) (fun k j k1 k2 => e1 k j (by omega))⟩, rfl, .inl ⟨rfl, rfl⟩⟩
theorem gjc_check (hJ : gj_C a S P R E) {x : Int32} (hbc : 1 ≤ bc) (hbs : 6 ≤ bs) : gx_X gc_P (d + 109) 49 (0, [some (.ref 0), some (.int x)], [], gc_h S P R E, bc, bs) (gj_QC gj_io (gj_check x a)) := by
  obtain ⟨T, ch, ⟨nn, c⟩, ⟨Lx, y⟩, cp, f, v⟩ := a
  obtain ⟨hg, ⟨h5, h20, hc, hz⟩, ⟨x1, x2, x3⟩, hl⟩ := id hJ
  exact gc_check hg hbc hbs (fun h => ⟨1, 0, _, S, P, R, E, .inl ⟨h, rfl⟩, hJ, rfl, .inr ⟨.inl rfl, rfl⟩⟩) (fun r hr hx S' g' e1 => ⟨0, _, (T, ch, (nn, c), (Lx, y), cp, f, v), S', P, R, E, .inr ⟨r, hr, hx, rfl⟩, ⟨g', ⟨(e1 0 5 (by omega) (by omega)).trans h5, h20, fun j hj => by rw [e1 1 j (by omega) (by omega)]; exact hc j hj, hz⟩, ⟨(e1 0 6 (by omega) (by omega)).trans x1, x2, fun p hp => by rw [e1 2 p (by omega) (by omega)]; exact x3 p hp⟩, gc_lt_S hl (e1 0 7 (by omega) (by omega)) (fun k j k1 k2 => e1 k j (by omega) (by omega))⟩, rfl, .inl ⟨rfl, rfl⟩⟩)
theorem gjc_match (hJ : gj_C a S P R E) {z1 z2 : Int32} (hbc : 3 ≤ bc) (hbs : 18 ≤ bs) : gx_X gc_P (d + 110) 79 (0, [some (.ref 0), some (.int z1), some (.int z2)], [], gc_h S P R E, bc, bs) (gj_QC gj_io (gj_match z1 z2 a)) := by
  obtain ⟨T, ch, ⟨nn, c⟩, ⟨Lx, y⟩, cp, f, v⟩ := a
  obtain ⟨hg, ⟨h5, h20, hc, hz⟩, ⟨x1, x2, x3⟩, hl⟩ := id hJ
  refine gc_match hg ⟨x1, x2, x3⟩ hbc hbs (fun h => ⟨1, 0, _, S, P, R, E, .inl ⟨h, rfl⟩, hJ, rfl, .inr ⟨.inl rfl, rfl⟩⟩)
    (fun r p hr hp e e' hk S' g' e1 => ⟨2, 0, (T, ch, (nn, c), (Lx, y), cp, f, v), S', P, R, E, .inr ⟨r, p, hr, hp, e, e', .inl ⟨hk, rfl⟩⟩, ⟨g', ⟨(e1 0 5 (by omega) (by omega)).trans h5, h20, fun j hj => by rw [e1 1 j (by omega) (by omega)]; exact hc j hj, hz⟩, ⟨(e1 0 6 (by omega) (by omega)).trans x1, x2, fun p hp => by rw [e1 2 p (by omega) (by omega)]; exact x3 p hp⟩, gc_lt_S hl (e1 0 7 (by omega) (by omega)) (fun k j k1 k2 => e1 k j (by omega) (by omega))⟩, rfl, .inr ⟨.inr rfl, rfl⟩⟩)
    (fun r p hr hp e e' hk S' R' f' v' g' e1 hl' hF hV => ⟨0, _, (T, ch, (nn, c), (Lx, y), _, f', v'), S', P, R', E, .inr ⟨r, p, hr, hp, e, e', .inr ⟨hk, f', v', hF, hV, rfl⟩⟩, ⟨g', ⟨(e1 0 5 (by omega) (by omega) (by omega)).trans h5, h20, fun j hj => by rw [e1 1 j (by omega) (by omega) (by omega)]; exact hc j hj, hz⟩, ⟨(e1 0 6 (by omega) (by omega) (by omega)).trans x1, x2, fun p hp => by rw [e1 2 p (by omega) (by omega) (by omega)]; exact x3 p hp⟩, hl'⟩, rfl, .inl ⟨rfl, rfl⟩⟩)
theorem gjc_find (hJ : gj_C a S P R E) {z1 : Int32} (hbc : 3 ≤ bc) (hbs : 18 ≤ bs) : gx_X gc_P (d + 110) 100 (0, [some (.ref 0), some (.int z1), none], [], gc_h S P R E, bc, bs) (gj_QC gj_io (gj_find z1 a)) := by
  obtain ⟨T, ch, ⟨nn, c⟩, ⟨Lx, y⟩, cp, f, v⟩ := a
  obtain ⟨hg, ⟨h5, h20, hc, hz⟩, ⟨x1, x2, x3⟩, hl⟩ := id hJ
  refine gc_find hg ⟨x1, x2, x3⟩ hbc hbs (fun h => ⟨1, 0, _, S, P, R, E, .inl ⟨h, rfl⟩, hJ, rfl, .inr ⟨.inl rfl, rfl⟩⟩)
    (fun r hr e hk S' g' e1 => ⟨2, 0, (T, ch, (nn, c), (Lx, y), cp, f, v), S', P, R, E, .inr ⟨r, hr, e, .inl ⟨hk, rfl⟩⟩, ⟨g', ⟨(e1 0 5 (by omega) (by omega)).trans h5, h20, fun j hj => by rw [e1 1 j (by omega) (by omega)]; exact hc j hj, hz⟩, ⟨(e1 0 6 (by omega) (by omega)).trans x1, x2, fun p hp => by rw [e1 2 p (by omega) (by omega)]; exact x3 p hp⟩, gc_lt_S hl (e1 0 7 (by omega) (by omega)) (fun k j k1 k2 => e1 k j (by omega) (by omega))⟩, rfl, .inr ⟨.inr rfl, rfl⟩⟩)
    (fun r hr e hk S' R' p f' v' hp hpL g' e1 hl' hF hV => ⟨0, _, (T, ch, (nn, c), (Lx, y), _, f', v'), S', P, R', E, .inr ⟨r, hr, e, .inr ⟨hk, p, f', v', hp, hF, hV, rfl⟩⟩, ⟨g', ⟨(e1 0 5 (by omega) (by omega) (by omega)).trans h5, h20, fun j hj => by rw [e1 1 j (by omega) (by omega) (by omega)]; exact hc j hj, hz⟩, ⟨(e1 0 6 (by omega) (by omega) (by omega)).trans x1, x2, fun p hp => by rw [e1 2 p (by omega) (by omega) (by omega)]; exact x3 p hp⟩, hl'⟩, rfl, .inl ⟨rfl, rfl⟩⟩)
theorem gjc_captures (hJ : gj_C a S P R E) : gx_X gc_P (d + 2) 8 (0, [some (.ref 0)], [], gc_h S P R E, bc, bs) (gj_QC gj_io (gj_captures a)) := by
  obtain ⟨T, ch, ⟨nn, c⟩, ⟨Lx, y⟩, cp, f, v⟩ := a
  exact gc_captures hJ.2.2.2 ⟨0, _, _, S, P, R, E, rfl, hJ, rfl, .inl ⟨rfl, rfl⟩⟩
theorem gjc_farthest (hJ : gj_C a S P R E) : gx_X gc_P (d + 2) 10 (0, [some (.ref 0)], [], gc_h S P R E, bc, bs) (gj_QC gj_io (gj_farthest a)) := by
  obtain ⟨T, ch, ⟨nn, c⟩, ⟨Lx, y⟩, cp, f, v⟩ := a
  exact gc_farthest hJ.2.2.2 ⟨0, _, _, S, P, R, E, rfl, hJ, rfl, .inl ⟨rfl, rfl⟩⟩
theorem gjc_tried (hJ : gj_C a S P R E) : gx_X gc_P (d + 2) 12 (0, [some (.ref 0)], [], gc_h S P R E, bc, bs) (gj_QC gj_io (gj_tried a)) := by
  obtain ⟨T, ch, ⟨nn, c⟩, ⟨Lx, y⟩, cp, f, v⟩ := a
  exact gc_tried hJ.2.2.2 ⟨0, _, _, S, P, R, E, rfl, hJ, rfl, .inl ⟨rfl, rfl⟩⟩
theorem gjc_capture (hJ : gj_C a S P R E) {z1 z2 : Int32} (hbc : 1 ≤ bc) (hbs : 6 ≤ bs) : gx_X gc_P (d + 3) 101 (0, [some (.ref 0), some (.int z1), some (.int z2)], [], gc_h S P R E, bc, bs) (gj_QC gj_io (gj_capture z1 z2 a)) := by
  obtain ⟨T, ch, ⟨nn, c⟩, ⟨Lx, y⟩, cp, f, v⟩ := a
  exact gc_capture hJ.2.2.2 hbc hbs (fun h => ⟨1, 0, _, S, P, R, E, .inl ⟨h, rfl⟩, hJ, rfl, .inr ⟨.inl rfl, rfl⟩⟩) (fun k s t e1 e2 e3 e4 => ⟨0, _, _, S, P, R, E, .inr ⟨k, s, t, e1, e2, e3, e4, rfl⟩, hJ, rfl, .inl ⟨rfl, rfl⟩⟩)
/-- define of the empty line takes next to nothing -/
theorem gc_define0 {Q : gx_R → Prop} {c : Nat → Nat} (hs : S 0 5 = nI 0) (hz : ∀ j, c j = 0) (hbc : 1 ≤ bc) (hbs : 6 ≤ bs) {o1 o2 o3 : Option Value}
    (hq : ∀ S', (∀ k j, k ≠ 3 → k ≠ 4 → (k = 0 → j ≠ 5) → S' k j = S k j) → S' 0 5 = 0 → Q (.inr "java/lang/IllegalArgumentException", gc_h S' P R E)) :
    gx_X gc_P (d + 48) 18 (0, [some (.ref 0), o1, o2, o3], [], gc_h S P R E, bc, bs) Q := by
  have hS : ∀ k j, (k = 0 → j ≠ 5) → gm_u S 0 5 0 k j = S k j := fun k j h => by rw [gm_u_at, if_neg (by omega)]
  refine gd_M_define_0 ?_
  rw [hs]
  refine ⟨1, 6, ⟨hbc, hbs⟩, gd_R_readLine_0 ?_⟩
  rw [nI_clamp (show 0 < 2 ^ 31 by omega)]
  refine ⟨⟨⟨by decide, by decide, nI_pos (by omega)⟩, by decide, by decide, fun i hi => by omega⟩, 0, 0, ⟨Nat.zero_le _, Nat.zero_le _⟩, ?_⟩
  have hb : gc_lb (gm_u (gc_v (gm_u S 0 5 0) 4 (va_cpy (gm_u S 0 5 0 1) (gm_u S 0 5 0 4) (0 : Int32).toNatClampNeg (0 : Int32).toNatClampNeg 0)) 3 1 (nI 0)) 0 c :=
    ⟨by rw [gm_u_at, if_pos ⟨rfl, rfl⟩], by omega, fun j hj => by omega, fun j _ => hz j⟩
  generalize hS0 : gm_u (gc_v (gm_u S 0 5 0) 4 (va_cpy (gm_u S 0 5 0 1) (gm_u S 0 5 0 4) (0 : Int32).toNatClampNeg (0 : Int32).toNatClampNeg 0)) 3 1 (nI 0) = S0 at hb
  have hS1 : ∀ (j k l : Nat), k ≠ 3 → k ≠ 4 → gm_u S0 3 2 (nI j) k l = gm_u S 0 5 0 k l := fun j k l h1 h2 => by
    rw [gm_u_at, if_neg (by omega), ← hS0, gm_u_at, if_neg (by omega), gc_v_at, if_neg h2]
  refine gc_next (i := 0) hb (Nat.zero_le _) (gd_R_readLine_25 ⟨0, 0, ⟨Nat.zero_le _, Nat.zero_le _⟩, gc_isName (hb.le 0) (gd_R_readLine_28 ⟨fun h => ?_, fun h => ⟨⟨by omega, by omega⟩, hq _ (fun k j k3 k4 k5 => (hS1 0 k j k3 k4).trans (hS k j k5)) ((hS1 0 0 5 (by omega) (by omega)).trans (by rw [gm_u_at, if_pos ⟨rfl, rfl⟩]))⟩⟩)⟩)
  exact absurd (gp_b_1 h) (by rw [hz 0]; decide)
theorem gjc_define (hJ : gj_C a S P R E) (hbc : (if a.2.2.1.1 = 0 then 1 else 1300) ≤ bc) (hbs : (if a.2.2.1.1 = 0 then 6 else 9000) ≤ bs) : gx_X gc_P (d + 48) 18 (0, [some (.ref 0), none, none, none], [], gc_h S P R E, bc, bs) (gj_QC gj_ia (gj_define a)) := by
  obtain ⟨T, ch, ⟨nn, c⟩, ⟨Lx, y⟩, cp, f, v⟩ := a
  obtain ⟨hg, ⟨h5, h20, hc, hz⟩, ⟨x1, x2, x3⟩, hl⟩ := id hJ
  have hJ2 : ∀ S' P' E' T' ch', (∀ k j, k ≠ 3 → k ≠ 4 → k ≠ 7 → (k = 0 → j ≠ 5) → S' k j = S k j) → S' 0 5 = 0 → gc_gr S' P' E' T' ch' → gj_C (T', ch', (0, fun _ => 0), (Lx, y), cp, f, v) S' P' R E' := fun S' P' E' T' ch' e1 e2 g' =>
    ⟨g', ⟨e2, by omega, fun j hj => by omega, fun j _ => rfl⟩, ⟨(e1 0 6 (by omega) (by omega) (by omega) (by omega)).trans x1, x2, fun p hp => by rw [e1 2 p (by omega) (by omega) (by omega) (by omega)]; exact x3 p hp⟩, gc_lt_S hl (e1 0 7 (by omega) (by omega) (by omega) (by omega)) (fun k j k1 k2 => e1 k j (by omega) (by omega) (by omega) (by omega))⟩
  by_cases hn : nn = 0
  · subst hn
    rw [if_pos rfl] at hbc hbs
    refine gc_define0 h5 (fun j => hz j (Nat.zero_le _)) hbc hbs (fun S' e1 e2 => ⟨1, 0, _, S', P, R, E, ?_, hJ2 S' P E T ch (fun k j k3 k4 _ k5 => e1 k j k3 k4 k5) e2 (gc_gr_S (fun j => e1 7 j (by omega) (by omega) (by omega)) hg), rfl, .inr ⟨.inl rfl, rfl⟩⟩)
    have hq : gq_line c 0 = none := by
      unfold gq_line
      rw [show c 0 = 0 from hz 0 (Nat.zero_le _)]
      rfl
    show (match gq_line c 0 with
      | none => _
      | some (r, t) => _)
    rw [hq]
  · rw [if_neg hn] at hbc hbs
    refine gc_define hg h5 h20 hc hz hbc hbs ?_
    cases hq : gq_line c nn with
    | none =>
      refine fun S' E' e1 e2 fr g' => ⟨1, 0, _, S', P, R, E', ?_, hJ2 S' P E' T ch (fun k j k3 k4 _ k5 => e1 k j k3 k4 k5) e2 g', rfl, .inr ⟨.inl rfl, rfl⟩⟩
      show (match gq_line c nn with
        | none => _
        | some (r, t) => _)
      rw [hq]
    | some rt =>
      obtain ⟨r, t⟩ := rt
      refine fun S' P' E' e1 e2 fr g' => ⟨0, nI r, _, S', P', R, E', ?_, hJ2 S' P' E' _ _ e1 e2 g', rfl, .inl ⟨rfl, rfl⟩⟩
      show (match gq_line c nn with
        | none => _
        | some (r, t) => _)
      rw [hq]
end GJC2
