/-! Class Reader: what sequences and choices are made of. -/
theorem gc_tr_single {E : gx_H} {t : gt_T} {w : Nat} (h9 : gt_isl 9 t = false) (h10 : gt_isl 10 t = false) (h : gc_tr E t (.inl none) w) : gc_tr E t (.inr [w]) 0 := by
  cases t with
  | sepBy x s y b => cases h9
  | sepBy1 x s y b => cases h10
  | trailingNode m b l a => exact ⟨w, rfl, h⟩
  | cat l hi => exact ⟨w, rfl, h⟩
  | parser r => exact ⟨w, rfl, h⟩
  | const r => exact ⟨w, rfl, h⟩
  | unary m a => exact ⟨w, rfl, h⟩
  | node m k a => exact ⟨w, rfl, h⟩
  | nodeWithAntiquot s k a => exact ⟨w, rfl, h⟩
  | _ => exact False.elim h
theorem gc_tr_pc {E : gx_H} (t : gt_T) : ∀ {w : Nat}, gc_tr E t (.inl none) w → gc_pc E w := by
  induction t with
  | cat l hi => exact fun {w} h => ⟨5, _, h.1, by decide⟩
  | parser r => exact fun {w} h => ⟨6, _, h.1, by decide⟩
  | const r => exact fun {w} h => ⟨7, _, h, by decide⟩
  | unary m a ih => exact fun {w} ⟨w', h, _⟩ => ⟨7, _, h, by decide⟩
  | node m k a ih => exact fun {w} ⟨w', _, h, _⟩ => ⟨8, _, h, by decide⟩
  | trailingNode m b l a ih =>
    intro w h
    obtain ⟨w', h1, _⟩ := gc_tr_look a _ w h
    exact ⟨9, _, h1, by decide⟩
  | nodeWithAntiquot s k a ih =>
    intro w h
    have h : (if gt_isl 9 a || gt_isl 10 a then (gt_nm k = 9 ∧ gt_isl 9 a = true ∨ gt_nm k = 10 ∧ gt_isl 10 a = true) ∧ ∃ lw ws, gc_ob E w (gt_nm k + 1) [.ref lw] ∧ gc_li E lw ws ∧ gc_tr E a (.inr ws) 0 else gc_tr E a (.inl none) w) := h
    split at h
    · obtain ⟨hk, lw, ws, h1, _⟩ := h
      rcases hk with ⟨hk, _⟩ | ⟨hk, _⟩
      · rw [hk] at h1; exact ⟨10, _, h1, by decide⟩
      · rw [hk] at h1; exact ⟨11, _, h1, by decide⟩
    · exact ih h
  | _ => exact fun {w} h => False.elim h
theorem gc_pc.le {E E' : gx_H} (h : gc_le E E') {w : Nat} (hp : gc_pc E w) : gc_pc E' w := by
  obtain ⟨c, fs, h1, h2⟩ := hp
  exact ⟨c, fs, h1.le h (by rintro rfl; exact absurd h2 (by decide)), h2⟩
theorem gt_atm_isl {t : gt_T} (h : gt_atm t = true) : gt_isl 9 t = false ∧ gt_isl 10 t = false := by
  cases t <;> first | exact ⟨rfl, rfl⟩ | cases h
theorem gq_lk_isl {ch : Nat → Nat} {t : gt_T} (h : gt_atm t = true) : ∀ (n i : Nat), gt_isl 9 (gq_lk ch n i t) = false ∧ gt_isl 10 (gq_lk ch n i t) = false
  | 0, i => gt_atm_isl h
  | n + 1, i => ⟨rfl, rfl⟩
theorem gq_item_isl {ch : Nat → Nat} {f : Option (Nat → Option (gt_T × Nat))} (hf : ∀ g, f = some g → ∀ i t q, g i = some (t, q) → gt_atm t = true) {i : Nat} {t : gt_T} {q : Nat} (h : gq_item ch f i = some (t, q)) : gt_isl 9 t = false ∧ gt_isl 10 t = false := by
  unfold gq_item at h
  cases hat : gq_atom ch f (gq_pre ch 20 i) with
  | none => rw [hat] at h; cases h
  | some tq =>
    obtain ⟨t0, q0⟩ := tq
    rw [hat] at h
    cases h
    exact gq_lk_isl (gq_suf_atm (gq_atom_atm hf hat) q0) _ _
/-- no cell is changed but a list's own -/
def gc_fx (E E' : gx_H) (ln : Nat) (D : Option Nat) : Prop := E.length ≤ E'.length ∧ ∀ n : Nat, n < E.length → n ≠ ln → some n ≠ D → E'[n]? = E[n]?
theorem gc_ls.mk {E : gx_H} {ln Dn b : Nat} {ws : List Nat} (h : gc_ls E ln (some Dn) ws) (h1 : b ≤ ln) (h2 : b ≤ Dn) : gc_li (gc_mk b E) (ln + 17) ws := by
  obtain ⟨mc, m, f, k1, k2, k3, k4, k5, k6, _⟩ := h
  refine ⟨Dn + 17, mc, m, f, Dn, ⟨ln, rfl, ?_⟩, rfl, ?_, k3, k4, fun i a hi => by rw [k5 i]; exact hi, k6⟩
  · rw [gc_mk_at, if_neg (by omega)]; exact k1
  · rw [gc_mk_at, if_neg (by omega)]; exact k2
section GCV
variable {d bc bs : Nat} {S : Nat → Nat → Int32} {P : Nat → Option Nat} {R : Nat → Int64} {E : gx_H} {Q : gx_R → Prop}
/-- the call of ArrayList.add -/
theorem gc_callAdd {ln w : Nat} {D : Option Nat} {ws : List Nat} (hl : gc_ls E ln D ws) (hD : ∀ Dn, D = some Dn → ln ≠ Dn) (hw : gc_pc E w) (hw20 : ws.length < 20) (hbc : 1 ≤ bc) (hbs : 30 ≤ bs) {nx pc : Nat} {lv : List (Option Value)} {K : gx_S → Prop}
    (k : ∀ E' D', gc_ls E' ln (some D') (ws ++ [w]) → (D = some D' ∨ D' = E.length) → gc_fx E E' ln D → K (nx, lv, [.int 1], gc_h S P R E', bc - 1, bs - 30)) :
    gi_vpcall (gx_sel 12 105 2) 1 nx (pc, lv, [.ref w, .ref (ln + 17)], gc_h S P R E, bc, bs) K Q (fun m9 E9 Q9 => gx_X gc_P (d + 6) m9 E9 Q9) := by
  have ho : ∃ fs, (gc_h S P R E)[ln + 17]? = some (.inr (12, fs)) := by
    cases D with
    | none => obtain ⟨_, mc, h⟩ := hl; exact ⟨_, gc_n h⟩
    | some Dn => obtain ⟨mc, m, f, h, _⟩ := hl; exact ⟨_, gc_n h⟩
  obtain ⟨fs, ho⟩ := ho
  show (match (gc_h S P R E)[ln + 17]? with
      | some (.inr (c, _)) => match gx_sel 12 105 2 c with
        | some (m', nL) => gi_callK m' (1 + 1) nL [.ref w, .ref (ln + 17)] (gc_h S P R E) bc bs (fun kc ks => gx_k1 lv (([.ref w, .ref (ln + 17)] : List Value).drop (1 + 1)) nx (bc - kc) (bs - ks) K) (fun m9 E9 Q9 => gx_X gc_P (d + 6) m9 E9 Q9)
        | none => False
      | _ => False)
  rw [ho]
  exact ⟨1, 30, ⟨hbc, hbs⟩, gc_add hl hD hw hw20 (Nat.le_refl _) (Nat.le_refl _) (fun E' D' g1 g2 g3 g4 => k E' D' g1 g3 ⟨g2, g4⟩)⟩
theorem gc_seqAdd {n ln w : Nat} {D : Option Nat} {ws : List Nat} (hn : E[n]? = some (.inr (10, [.ref (ln + 17)]))) (hnl : n ≠ ln) (hnD : some n ≠ D) (hl : gc_ls E ln D ws) (hD : ∀ Dn, D = some Dn → ln ≠ Dn) (hw : gc_pc E w) (hw20 : ws.length < 20) (hbc : 1 ≤ bc) (hbs : 30 ≤ bs) {nx pc : Nat} {lv : List (Option Value)} {K : gx_S → Prop}
    (k : ∀ E' D', gc_ls E' ln (some D') (ws ++ [w]) → (D = some D' ∨ D' = E.length) → gc_fx E E' ln D → K (nx, lv, [], gc_h S P R E', bc - 1, bs - 30)) :
    gi_vcall (gx_sel 10 41 2) 1 nx (pc, lv, [.ref w, .ref (n + 17)], gc_h S P R E, bc, bs) K Q (fun m9 E9 Q9 => gx_X gc_P (d + 7) m9 E9 Q9) := by
  show (match (gc_h S P R E)[n + 17]? with
      | some (.inr (c, _)) => match gx_sel 10 41 2 c with
        | some (m', nL) => gi_call m' (1 + 1) nL nx (pc, lv, [.ref w, .ref (n + 17)], gc_h S P R E, bc, bs) K Q (fun m9 E9 Q9 => gx_X gc_P (d + 7) m9 E9 Q9)
        | none => False
      | _ => False)
  rw [show (gc_h S P R E)[n + 17]? = some (.inr (10, [.ref (ln + 17)])) from gc_n hn]
  have hnE := (List.getElem?_eq_some_iff.mp hn).1
  refine ⟨1, 30, ⟨hbc, hbs⟩, gd_Sequence_add_0 hn (gc_callAdd hl hD hw hw20 (Nat.le_refl _) (Nat.le_refl _) (fun E' D' g1 g2 g3 => gd_Sequence_add_10 (w := ln + 17) ?_ (k E' D' g1 g2 g3)))⟩
  rw [g3.2 n hnE hnl hnD]
  exact hn
theorem gc_choAdd {n ln w : Nat} {D : Option Nat} {ws : List Nat} (hn : E[n]? = some (.inr (11, [.ref (ln + 17)]))) (hnl : n ≠ ln) (hnD : some n ≠ D) (hl : gc_ls E ln D ws) (hD : ∀ Dn, D = some Dn → ln ≠ Dn) (hw : gc_pc E w) (hw20 : ws.length < 20) (hbc : 1 ≤ bc) (hbs : 30 ≤ bs) {nx pc : Nat} {lv : List (Option Value)} {K : gx_S → Prop}
    (k : ∀ E' D', gc_ls E' ln (some D') (ws ++ [w]) → (D = some D' ∨ D' = E.length) → gc_fx E E' ln D → K (nx, lv, [], gc_h S P R E', bc - 1, bs - 30)) :
    gi_vcall (gx_sel 11 43 2) 1 nx (pc, lv, [.ref w, .ref (n + 17)], gc_h S P R E, bc, bs) K Q (fun m9 E9 Q9 => gx_X gc_P (d + 7) m9 E9 Q9) := by
  show (match (gc_h S P R E)[n + 17]? with
      | some (.inr (c, _)) => match gx_sel 11 43 2 c with
        | some (m', nL) => gi_call m' (1 + 1) nL nx (pc, lv, [.ref w, .ref (n + 17)], gc_h S P R E, bc, bs) K Q (fun m9 E9 Q9 => gx_X gc_P (d + 7) m9 E9 Q9)
        | none => False
      | _ => False)
  rw [show (gc_h S P R E)[n + 17]? = some (.inr (11, [.ref (ln + 17)])) from gc_n hn]
  have hnE := (List.getElem?_eq_some_iff.mp hn).1
  refine ⟨1, 30, ⟨hbc, hbs⟩, gd_Choice_add_0 hn (gc_callAdd hl hD hw hw20 (Nat.le_refl _) (Nat.le_refl _) (fun E' D' g1 g2 g3 => gd_Choice_add_10 (w := ln + 17) ?_ (k E' D' g1 g2 g3)))⟩
  rw [g3.2 n hnE hnl hnD]
  exact hn
end GCV
