/-! Cells that are made: what stays as it is, trees in new cells, constructors, ArrayList.add. -/
/-- what stands for a cell that doesn't count -/
def gc_du : gx_E := .inr (0, [])
/-- the cells from b on -/
def gc_mk (b : Nat) (E : gx_H) : gx_H := List.replicate b gc_du ++ E.drop b
theorem gc_mk_at (b : Nat) (E : gx_H) (n : Nat) : (gc_mk b E)[n]? = if n < b then some gc_du else E[n]? := by
  unfold gc_mk
  rw [List.getElem?_append]
  simp only [List.length_replicate]
  split
  · rename_i h; rw [List.getElem?_replicate, if_pos h]
  · rename_i h
    rw [List.getElem?_drop, show b + (n - b) = n by omega]
/-- every cell that counts is there -/
def gc_le (E E' : gx_H) : Prop := ∀ (n : Nat) (c : gx_E), E[n]? = some c → c ≠ gc_du → E'[n]? = some c
theorem gc_ob.le {E E' : gx_H} (h : gc_le E E') {w c : Nat} {fs : List Value} (hc : c ≠ 0) (ho : gc_ob E w c fs) : gc_ob E' w c fs := by
  obtain ⟨n, hn, h1⟩ := ho
  refine ⟨n, hn, h n _ h1 (fun e => hc ?_)⟩
  unfold gc_du at e
  injection e with e
  exact congrArg Prod.fst e
theorem gc_li.le {E E' : gx_H} (h : gc_le E E') {lw : Nat} {ws : List Nat} (hl : gc_li E lw ws) : gc_li E' lw ws := by
  obtain ⟨D, mc, m, f, n, h1, h2, h3, h4⟩ := hl
  exact ⟨D, mc, m, f, n, h1.le h (by decide), h2, h n _ h3 (fun e => by unfold gc_du at e; cases e), h4⟩
theorem gc_md.le {E E' : gx_H} (h : gc_le E E') {b b' : Nat → Prop} (hb : ∀ w, b w → b' w) : ∀ {md : Option Bool ⊕ List Nat} {w : Nat}, gc_md E b md w → gc_md E' b' md w
  | .inl none, w, hw => hb w hw
  | .inl (some v), w, ⟨w', h1, h2⟩ => ⟨w', h1.le h (by decide), hb w' h2⟩
  | .inr ws, w, ⟨w', h1, h2⟩ => ⟨w', h1, hb w' h2⟩
theorem gc_tr.le {E E' : gx_H} (h : gc_le E E') (t : gt_T) : ∀ {md : Option Bool ⊕ List Nat} {w : Nat}, gc_tr E t md w → gc_tr E' t md w := by
  induction t with
  | cat l hi => exact fun {md w} hw => gc_md.le h (fun w ⟨h1, h2⟩ => ⟨h1.le h (by decide), h2⟩) hw
  | parser r => exact fun {md w} hw => gc_md.le h (fun w ⟨h1, h2⟩ => ⟨h1.le h (by decide), h2⟩) hw
  | const r => exact fun {md w} hw => gc_md.le h (fun w h1 => h1.le h (by decide)) hw
  | unary m a ih => exact fun {md w} hw => gc_md.le h (fun w ⟨w', h1, h2⟩ => ⟨w', h1.le h (by decide), ih h2⟩) hw
  | node m k a ih => exact fun {md w} hw => gc_md.le h (fun w ⟨w', h0, h1, h2⟩ => ⟨w', h0, h1.le h (by decide), ih h2⟩) hw
  | trailingNode m b l a ih =>
    intro md w hw
    match md, hw with
    | .inl none, hw => exact ih hw
    | .inl (some v), hw => exact ih hw
    | .inr ws, ⟨w', h1, h2⟩ => exact ⟨w', h1, ih h2⟩
  | nodeWithAntiquot s k a ih =>
    intro md w hw
    refine gc_md.le h (fun w hw => ?_) hw
    split at hw
    · rename_i hl
      rw [if_pos hl]
      obtain ⟨hk, lw, ws, h1, h2, h3⟩ := hw
      exact ⟨hk, lw, ws, h1.le h (by omega), h2.le h, ih h3⟩
    · rename_i hl
      rw [if_neg hl]
      exact ih hw
  | sepBy x s y b ihx ihy =>
    intro md w hw
    match md, hw with
    | .inr (w' :: ws), ⟨h1, h2, h3⟩ => exact ⟨ihx h1, h2, ihy h3⟩
    | .inr [], hw => exact False.elim hw
    | .inl _, hw => exact False.elim hw
  | sepBy1 x s y b ihx ihy =>
    intro md w hw
    match md, hw with
    | .inr (w' :: ws), ⟨h1, h2, h3⟩ => exact ⟨ihx h1, h2, ihy h3⟩
    | .inr [], hw => exact False.elim hw
    | .inl _, hw => exact False.elim hw
  | _ => exact fun {md w} hw => False.elim hw
/-- a tree in the cells from b on is left alone -/
theorem gc_mk_le {E E' : gx_H} {b b' : Nat} (hb : b' ≤ b) (h : ∀ n, b ≤ n → n < E.length → E'[n]? = E[n]?) : gc_le (gc_mk b E) (gc_mk b' E') := fun n c hn hc => by
  rw [gc_mk_at] at hn ⊢
  split at hn
  · exact absurd (Option.some.inj hn).symm hc
  · rename_i hl
    rw [if_neg (by omega), h n (by omega) (List.getElem?_eq_some_iff.mp hn).1]
    exact hn
theorem gc_mk_all {E : gx_H} {b : Nat} : gc_le (gc_mk b E) E := fun n c hn hc => by
  rw [gc_mk_at] at hn
  split at hn
  · exact absurd (Option.some.inj hn).symm hc
  · exact hn
/-- no old cell is changed -/
def gc_fr (E E' : gx_H) : Prop := E.length ≤ E'.length ∧ ∀ n : Nat, n < E.length → E'[n]? = E[n]?
theorem gc_fr.rfl {E : gx_H} : gc_fr E E := ⟨Nat.le_refl _, fun _ _ => Eq.refl _⟩
theorem gc_fr.trans {E E' E2 : gx_H} (h : gc_fr E E') (h' : gc_fr E' E2) : gc_fr E E2 := ⟨Nat.le_trans h.1 h'.1, fun n hn => by rw [h'.2 n (by have := h.1; omega), h.2 n hn]⟩
theorem gc_fr.app {E : gx_H} (N : gx_H) : gc_fr E (E ++ N) := ⟨by simp, fun n hn => List.getElem?_append_left hn⟩
theorem gc_fr.le {E E' : gx_H} (h : gc_fr E E') : gc_le E E' := fun n c hn _ => by
  rw [h.2 n (List.getElem?_eq_some_iff.mp hn).1]
  exact hn
theorem gc_fr.gr {S : Nat → Nat → Int32} {P : Nat → Option Nat} {E E' : gx_H} {T : Nat → Option gt_T} {ch : Nat → Nat → Nat} (h : gc_fr E E') (hg : gc_gr S P E T ch) : gc_gr S P E' T ch :=
  ⟨hg.1, fun r t ht => by
    obtain ⟨w, h1, h2, h3⟩ := hg.2.1 r t ht
    exact ⟨w, h1, gc_tr.le h.le t h2, h3⟩, hg.2.2⟩
/-- a tree is kept where no old cell is changed -/
theorem gc_tr.keep {E E' : gx_H} {b b' : Nat} (hb : b' ≤ b) (h : gc_fr E E') {t : gt_T} {md : Option Bool ⊕ List Nat} {w : Nat} (ht : gc_tr (gc_mk b E) t md w) : gc_tr (gc_mk b' E') t md w :=
  gc_tr.le (gc_mk_le hb (fun n _ hn => h.2 n hn)) t ht
section GCP
variable {d bc bs : Nat} {S : Nat → Nat → Int32} {P : Nat → Option Nat} {R : Nat → Int64} {E : gx_H} {Q : gx_R → Prop}
theorem gc_len : (gc_h S P R E).length = E.length + 17 := rfl
theorem gc_last (x : gx_E) : (E ++ [x])[E.length]? = some x := by simp
theorem gc_set_last (x y : gx_E) : (E ++ [x]).set E.length y = E ++ [y] := by simp
theorem gc_set2 (x y z : gx_E) : (E ++ [x] ++ [y]).set E.length z = E ++ [z, y] := by
  rw [List.append_assoc, List.set_append_right _ _ (Nat.le_refl _), Nat.sub_self]
  rfl
theorem gc_hset (n : Nat) (y : gx_E) : (gc_h S P R E).set (n + 17) y = gc_h S P R (E.set n y) := rfl
theorem gc_happ (N : gx_H) : gc_h S P R E ++ N = gc_h S P R (E ++ N) := rfl
theorem gc_hat (n : Nat) : (gc_h S P R E)[n + 17]? = E[n]? := rfl
/-- constructors of patterns -/
theorem gc_newSingle {lo hi : Nat} (hlo : lo ≤ 255) (hhi : hi ≤ 255) (q : Q (.inl none, gc_h S P R (E ++ [.inr (5, [.int (nI lo), .int (nI hi)])]))) :
    gx_X gc_P (d + 2) 35 (0, [some (.ref (gc_h S P R E).length), some (.int (nI lo)), some (.int (nI hi))], [], gc_h S P R (E ++ [.inr (5, [.int 0, .int 0])]), bc, bs) Q := by
  have hc : (gc_h S P R (E ++ [.inr (5, [.int 0, .int 0])]))[(gc_h S P R E).length]? = some (.inr (5, [.int 0, .int 0])) := gc_last _
  have nr : ∀ k, k ≤ 255 → narrow .char (.int (nI k)) = .int (nI k) ∧ fits .char (.int (nI k)) = true := fun k hk => ⟨congrArg Value.int (gp_nar16 _ (by omega)), gp_fits _ (by omega)⟩
  refine gh_Single_init_0 hc ⟨0, 0, ⟨Nat.zero_le _, Nat.zero_le _⟩, gh_Pattern_init_0 (gh_Single_init_4 hc ⟨nr lo hlo, nr hi hhi, ?_⟩)⟩
  rw [gc_len, gc_hset, gc_hset, gc_set_last, gc_set_last]
  exact q
theorem gc_newName {r : Int32} (q : Q (.inl none, gc_h S P R (E ++ [.inr (6, [.int r])]))) :
    gx_X gc_P (d + 2) 36 (0, [some (.ref (gc_h S P R E).length), some (.int r)], [], gc_h S P R (E ++ [.inr (6, [.int 0])]), bc, bs) Q := by
  have hc : (gc_h S P R (E ++ [.inr (6, [.int 0])]))[(gc_h S P R E).length]? = some (.inr (6, [.int 0])) := gc_last _
  refine gh_Name_init_0 hc ⟨0, 0, ⟨Nat.zero_le _, Nat.zero_le _⟩, gh_Pattern_init_0 (gh_Name_init_4 hc ⟨⟨rfl, rfl⟩, ?_⟩)⟩
  rw [gc_len, gc_hset, gc_set_last]
  exact q
theorem gc_newCap {w : Nat} (q : Q (.inl none, gc_h S P R (E ++ [.inr (7, [.ref w])]))) :
    gx_X gc_P (d + 2) 30 (0, [some (.ref (gc_h S P R E).length), some (.ref w)], [], gc_h S P R (E ++ [.inr (7, [.null])]), bc, bs) Q := by
  have hc : (gc_h S P R (E ++ [.inr (7, [.null])]))[(gc_h S P R E).length]? = some (.inr (7, [.null])) := gc_last _
  refine gh_Capture_initr_0 hc ⟨0, 0, ⟨Nat.zero_le _, Nat.zero_le _⟩, gh_Pattern_init_0 (gh_Capture_initr_4 hc ?_)⟩
  rw [gc_len, gc_hset, gc_set_last]
  exact q
theorem gc_newCap0 (q : Q (.inl none, gc_h S P R (E ++ [.inr (7, [.null])]))) :
    gx_X gc_P (d + 2) 30 (0, [some (.ref (gc_h S P R E).length), some .null], [], gc_h S P R (E ++ [.inr (7, [.null])]), bc, bs) Q := by
  have hc : (gc_h S P R (E ++ [.inr (7, [.null])]))[(gc_h S P R E).length]? = some (.inr (7, [.null])) := gc_last _
  refine gh_Capture_initn_0 hc ⟨0, 0, ⟨Nat.zero_le _, Nat.zero_le _⟩, gh_Pattern_init_0 (gh_Capture_initn_4 hc ?_)⟩
  rw [gc_len, gc_hset, gc_set_last]
  exact q
theorem gc_newRep {w : Nat} {a b : Int32} (q : Q (.inl none, gc_h S P R (E ++ [.inr (8, [.ref w, .int a, .int b])]))) :
    gx_X gc_P (d + 2) 37 (0, [some (.ref (gc_h S P R E).length), some (.ref w), some (.int a), some (.int b)], [], gc_h S P R (E ++ [.inr (8, [.null, .int 0, .int 0])]), bc, bs) Q := by
  have hc : (gc_h S P R (E ++ [.inr (8, [.null, .int 0, .int 0])]))[(gc_h S P R E).length]? = some (.inr (8, [.null, .int 0, .int 0])) := gc_last _
  refine gh_Repeat_init_0 hc ⟨0, 0, ⟨Nat.zero_le _, Nat.zero_le _⟩, gh_Pattern_init_0 (gh_Repeat_init_4 hc ⟨⟨rfl, rfl⟩, ⟨rfl, rfl⟩, ?_⟩)⟩
  rw [gc_len, gc_hset, gc_hset, gc_hset, gc_set_last, gc_set_last, gc_set_last]
  exact q
theorem gc_newLook {w : Nat} {b : Bool} (q : Q (.inl none, gc_h S P R (E ++ [.inr (9, [.ref w, .int (gp_b b)])]))) :
    gx_X gc_P (d + 2) 38 (0, [some (.ref (gc_h S P R E).length), some (.ref w), some (.int (gp_b b))], [], gc_h S P R (E ++ [.inr (9, [.null, .int 0])]), bc, bs) Q := by
  have hc : (gc_h S P R (E ++ [.inr (9, [.null, .int 0])]))[(gc_h S P R E).length]? = some (.inr (9, [.null, .int 0])) := gc_last _
  refine gh_Look_init_0 hc ⟨0, 0, ⟨Nat.zero_le _, Nat.zero_le _⟩, gh_Pattern_init_0 (gh_Look_init_4 hc ⟨⟨gp_b_nar b, by cases b <;> rfl⟩, ?_⟩)⟩
  rw [gc_len, gc_hset, gc_hset, gc_set_last, gc_set_last]
  exact q
/-- a new ArrayList -/
theorem gc_newList (q : Q (.inl none, gc_h S P R (E ++ [.inr (12, [.retAddr 1, .int 0, .int 0])]))) :
    gx_X gc_P (d + 3) 104 (0, [some (.ref (gc_h S P R E).length)], [], gc_h S P R E ++ ([.inr (12, [.null, .int 0, .int 0])] : gx_H), bc, bs) Q := by
  have hc : (gc_h S P R E ++ ([.inr (12, [.null, .int 0, .int 0])] : gx_H))[(gc_h S P R E).length]? = some (.inr (12, [.null, .int 0, .int 0])) := by simp
  refine gh_ArrayList_init_0 hc ⟨0, 0, ⟨Nat.zero_le _, Nat.zero_le _⟩, gh_AbstractList_init_0 hc ⟨0, 0, ⟨Nat.zero_le _, Nat.zero_le _⟩, gh_AbstractCollection_init_0 (gh_AbstractList_init_4 hc ?_)⟩⟩
  have hs : ∀ (x y : gx_E), (gc_h S P R E ++ ([x] : gx_H)).set (gc_h S P R E).length y = gc_h S P R E ++ [y] := fun x y => by simp
  rw [hs]
  have hc2 : (gc_h S P R E ++ ([.inr (12, [.null, .int 0, .int 0])] : gx_H))[(gc_h S P R E).length]? = some (.inr (12, [.null, .int 0, .int 0])) := hc
  refine gh_ArrayList_init_4 hc2 ?_
  rw [hs]
  exact q
theorem gc_newSeq (hbc : 1 ≤ bc) (hbs : 3 ≤ bs) (q : Q (.inl none, gc_h S P R (E ++ [.inr (10, [.ref (E.length + 18)]), .inr (12, [.retAddr 1, .int 0, .int 0])]))) :
    gx_X gc_P (d + 4) 40 (0, [some (.ref (gc_h S P R E).length)], [], gc_h S P R (E ++ [.inr (10, [.null])]), bc, bs) Q := by
  have hc : (gc_h S P R (E ++ [.inr (10, [.null])]))[(gc_h S P R E).length]? = some (.inr (10, [.null])) := gc_last _
  refine gh_Sequence_init_0 hc ⟨0, 0, ⟨Nat.zero_le _, Nat.zero_le _⟩, gh_Pattern_init_0 (gh_Sequence_init_4 hc ⟨⟨hbc, hbs⟩, 0, 0, ⟨Nat.zero_le _, Nat.zero_le _⟩, gc_newList (d := d) ?_⟩)⟩
  have hc2 : (gc_h S P R (E ++ [.inr (10, [.null])] ++ [.inr (12, [.retAddr 1, .int 0, .int 0])]))[(gc_h S P R E).length]? = some (.inr (10, [.null])) := by
    rw [gc_len, gc_hat, List.getElem?_append_left (by simp)]
    exact gc_last _
  refine gh_Sequence_init_12 hc2 ?_
  rw [gc_len, gc_hset]
  rw [gc_set2]
  have e : (gc_h S P R (E ++ [.inr (10, [.null])])).length = E.length + 18 := by rw [gc_len, List.length_append]; rfl
  rw [e]
  exact q
theorem gc_newCho (hbc : 1 ≤ bc) (hbs : 3 ≤ bs) (q : Q (.inl none, gc_h S P R (E ++ [.inr (11, [.ref (E.length + 18)]), .inr (12, [.retAddr 1, .int 0, .int 0])]))) :
    gx_X gc_P (d + 4) 42 (0, [some (.ref (gc_h S P R E).length)], [], gc_h S P R (E ++ [.inr (11, [.null])]), bc, bs) Q := by
  have hc : (gc_h S P R (E ++ [.inr (11, [.null])]))[(gc_h S P R E).length]? = some (.inr (11, [.null])) := gc_last _
  refine gh_Choice_init_0 hc ⟨0, 0, ⟨Nat.zero_le _, Nat.zero_le _⟩, gh_Pattern_init_0 (gh_Choice_init_4 hc ⟨⟨hbc, hbs⟩, 0, 0, ⟨Nat.zero_le _, Nat.zero_le _⟩, gc_newList (d := d) ?_⟩)⟩
  have hc2 : (gc_h S P R (E ++ [.inr (11, [.null])] ++ [.inr (12, [.retAddr 1, .int 0, .int 0])]))[(gc_h S P R E).length]? = some (.inr (11, [.null])) := by
    rw [gc_len, gc_hat, List.getElem?_append_left (by simp)]
    exact gc_last _
  refine gh_Choice_init_12 hc2 ?_
  rw [gc_len, gc_hset]
  rw [gc_set2]
  have e : (gc_h S P R (E ++ [.inr (11, [.null])])).length = E.length + 18 := by rw [gc_len, List.length_append]; rfl
  rw [e]
  exact q
end GCP
