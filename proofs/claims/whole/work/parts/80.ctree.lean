/-! The class's patterns: cells that are a tree; calls on them. -/
/-- the cell at address w is an object of class c -/
def gc_ob (E : gx_H) (w c : Nat) (fs : List Value) : Prop := ∃ n, w = n + 17 ∧ E[n]? = some (.inr (c, fs))
/-- the list at address w has the cells ws -/
def gc_li (E : gx_H) (w : Nat) (ws : List Nat) : Prop := ∃ D mc m f n, gc_ob E w 12 [.ref D, .int (nI ws.length), .int mc] ∧ D = n + 17 ∧ E[n]? = some (.inl (5, m, .inr (.inr (.inr (.inr f))))) ∧ ws.length ≤ m ∧ m ≤ 100 ∧ (∀ i a, ws[i]? = some a → f i = some a) ∧ ws.length ≤ 20
/-- in which way a tree stands: alone, behind & and ! (whether it is wanted), or as the rest of a list -/
def gc_md (E : gx_H) (base : Nat → Prop) : (Option Bool ⊕ List Nat) → Nat → Prop
  | .inl none, w => base w
  | .inl (some v), w => ∃ w', gc_ob E w 9 [.ref w', .int (gp_b v)] ∧ base w'
  | .inr ws, _ => ∃ w, ws = [w] ∧ base w
/-- the cell at address w is the tree -/
def gc_tr (E : gx_H) : gt_T → (Option Bool ⊕ List Nat) → Nat → Prop
  | .cat l hi, md, w => gc_md E (fun w => gc_ob E w 5 [.int (nI (gt_nm l)), .int (nI hi)] ∧ gt_nm l ≤ 255 ∧ hi ≤ 255) md w
  | .parser r, md, w => gc_md E (fun w => gc_ob E w 6 [.int (nI (gt_nm r))] ∧ gt_nm r < 4) md w
  | .const _, md, w => gc_md E (fun w => gc_ob E w 7 [.null]) md w
  | .unary _ a, md, w => gc_md E (fun w => ∃ w', gc_ob E w 7 [.ref w'] ∧ gc_tr E a (.inl none) w') md w
  | .node _ k a, md, w => gc_md E (fun w => ∃ w', k < 3 ∧ gc_ob E w 8 [.ref w', .int (if k = 1 then 1 else 0), .int (nI (gt_most k))] ∧ gc_tr E a (.inl none) w') md w
  | .trailingNode _ b _ a, md, w => match md with
    | .inl none => gc_tr E a (.inl (some (b == 1))) w
    | .inl (some v) => gc_tr E a (.inl (some (v == (b == 1)))) w
    | .inr ws => ∃ w, ws = [w] ∧ gc_tr E a (.inl (some (b == 1))) w
  | .nodeWithAntiquot _ k a, md, w => gc_md E (fun w => if gt_isl 9 a || gt_isl 10 a then (gt_nm k = 9 ∧ gt_isl 9 a = true ∨ gt_nm k = 10 ∧ gt_isl 10 a = true) ∧ ∃ lw ws, gc_ob E w (gt_nm k + 1) [.ref lw] ∧ gc_li E lw ws ∧ gc_tr E a (.inr ws) 0 else gc_tr E a (.inl none) w) md w
  | .sepBy x _ y _, md, _ => match md with
    | .inr (w :: ws) => gc_tr E x (.inl none) w ∧ gt_isl 10 y = false ∧ gc_tr E y (.inr ws) 0
    | _ => False
  | .sepBy1 x _ y _, md, _ => match md with
    | .inr (w :: ws) => gc_tr E x (.inl none) w ∧ gt_isl 9 y = false ∧ gc_tr E y (.inr ws) 0
    | _ => False
  | _, _, _ => False
/-- how deep calls on it go -/
def gt_ht : gt_T → Nat
  | .unary _ a => gt_ht a + 1
  | .node _ _ a => gt_ht a + 1
  | .trailingNode _ _ _ a => gt_ht a + 1
  | .nodeWithAntiquot _ _ a => gt_ht a + 1
  | .sepBy x _ y _ => max (gt_ht x) (gt_ht y)
  | .sepBy1 x _ y _ => max (gt_ht x) (gt_ht y)
  | _ => 0
section GCA
variable {d bc bs : Nat} {S : Nat → Nat → Int32} {P : Nat → Option Nat} {R : Nat → Int64} {E : gx_H}
theorem gc_ob_at {w c : Nat} {fs : List Value} (h : gc_ob E w c fs) : (gc_h S P R E)[w]? = some (.inr (c, fs)) := by
  obtain ⟨n, rfl, hn⟩ := h
  exact gc_n hn
/-- a call by the receiver's class, with one number -/
theorem gi_vpcall1 {sel : Nat → Option (Nat × Nat)} {nx pc w c m' nL : Nat} {lv : List (Option Value)} {st : List Value} {a : Int32} {fs : List Value} {K : gx_S → Prop} {Q : gx_R → Prop} {h : gx_H} (ho : h[w]? = some (.inr (c, fs))) (hs : sel c = some (m', nL)) (hst : (st.map Value.category).sum ≤ 8)
    (x : gx_X gc_P d m' (0, [some (.ref w), some (.int a)] ++ List.replicate (nL - 2) none, [], h, 0, 0) (gx_k1 lv st nx bc bs K)) :
    gi_vpcall sel 1 nx (pc, lv, .int a :: .ref w :: st, h, bc, bs) K Q (fun m9 E9 Q9 => gx_X gc_P d m9 E9 Q9) := by
  show (match h[w]? with
      | some (.inr (c, _)) => match sel c with
        | some (m', nL) => gi_callK m' (1 + 1) nL (.int a :: .ref w :: st) h bc bs (fun kc ks => gx_k1 lv ((.int a :: .ref w :: st).drop (1 + 1)) nx (bc - kc) (bs - ks) K) (fun m9 E9 Q9 => gx_X gc_P d m9 E9 Q9)
        | none => False
      | _ => False)
  rw [ho]
  simp only [hs]
  have hb : Nat.ble ((st).map Value.category).sum 8 = true := Nat.ble_eq.mpr hst
  show (match Nat.ble ((st).map Value.category).sum 8, true, true with
    | true, true, true => ∃ kc ks, (kc ≤ bc ∧ ks ≤ bs) ∧ _
    | _, _, _ => False)
  rw [hb]
  exact ⟨0, 0, ⟨Nat.zero_le _, Nat.zero_le _⟩, x⟩
end GCA
