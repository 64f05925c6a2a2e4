/-! The abstract machine is right: what it says of a method is a contract. -/
section GXZ
variable {cl : List vw_C} {tyl : List FieldType} {Ts : List Cond} {G : (Nat → Nat) → (Nat → Prop) → State → Heap → Prop} {cc : ByteArray} {my : MethodName} {nL : Nat} {ret : Option FieldType} {pc nx : Nat} {l : Launch} {zs : Nat → gx_M}
/-- all that a table's row owes -/
def gx_Sn (l : Launch) (zs : Nat → gx_M) (z : gx_M) (pc : Nat) (T : gx_T) : Prop := ∀ (x : gx_C) (y : gx_D) (d : Nat) (lv : List (Option Value)) (st : List Value) (h : gx_H) (bc bs : Nat) (K : gx_S → Prop) (Q : gx_R → Prop) (C : Nat → gx_S → (gx_R → Prop) → Prop),
  x.2.1 = l → gx_Cx z x y → (∀ w ∈ x.2.2.2.2.2.2.2.2.2.exceptionTable.toList, False) → x.2.2.2.1.frames = d + 20 → x.2.2.2.1.locals = 64 * d + 2000 → T (pc, lv, st, h, bc, bs) K Q C → (∀ S', K S' → gx_Gd z x y (gx_Fin z x y Q) S') →
  (∀ m' lv' h' kc ks Q', C m' (0, lv', [], h', kc, ks) Q' → ∃ d', d = d' + 1 ∧ gx_Mt l (zs m') y.1 y.2.1 y.2.2.1 d' (0, lv', [], h', kc, ks) Q') → gx_Gd z x y (gx_Fin z x y Q) (pc, lv, st, h, bc, bs)
theorem gx_s1.sn {z : gx_M} {T : gx_T} (h : gx_s1 z pc T) : gx_Sn l zs z pc T := fun x y _ lv st h' bc bs K Q C _ hC _ _ _ hT hK _ => h x y _ lv st h' bc bs K Q C hC hT hK
theorem gx_sR.sn {z : gx_M} {T : gx_T} (h : gx_sR z pc T) : gx_Sn l zs z pc T := fun x y _ lv st h' bc bs K Q C _ hC _ _ _ hT _ _ => h x y lv st h' bc bs K Q C hC hT
theorem gx_Fin.mono {z : gx_M} {x : gx_C} {y : gx_D} {Q Q' : gx_R → Prop} (hq : ∀ r, Q r → Q' r) (t : State) (h : gx_Fin z x y Q t) : gx_Fin z x y Q' t := by
  obtain ⟨cl, tyl, G, Ts, cc, my, nL, ret⟩ := z
  obtain ⟨p, l, e, R, s, m, args, below, meth, c⟩ := x
  obtain ⟨D, dT, sp, A, n0, ad0⟩ := y
  obtain ⟨o, h1, h2, h3⟩ := h
  refine ⟨o, h1, h2, ?_⟩
  rcases h3 with ⟨⟨v, h', ad, hQ, h4⟩, h5⟩ | ⟨q, h4, E, ce, L, ⟨h', ad, hQ, h5⟩, h6⟩
  · exact Or.inl ⟨⟨v, h', ad, hq _ hQ, h4⟩, h5⟩
  · exact Or.inr ⟨q, h4, E, ce, L, ⟨h', ad, hq _ hQ, h5⟩, h6⟩
theorem gx_Gd.mono {z : gx_M} {x : gx_C} {y : gx_D} {F F' : State → Prop} {S : gx_S} (hq : ∀ t, F t → F' t) (h : gx_Gd z x y F S) : gx_Gd z x y F' S := by
  obtain ⟨cl, tyl, G, Ts, cc, my, nL, ret⟩ := z
  obtain ⟨p, l, e, R, s, m, args, below, meth, c⟩ := x
  obtain ⟨D, dT, sp, A, n0, ad0⟩ := y
  obtain ⟨pc, lv, st, h', bc, bs⟩ := S
  intro ad H locs ls h1 h2 h3 h4 h5 T hT X
  obtain ⟨t, a, b⟩ := h ad H locs ls h1 h2 h3 h4 h5 T hT X
  exact ⟨t, a, hq t b⟩
/-- a method's data: its words begin with its code -/
def gx_Zok (z : gx_M) : Prop := ∃ (cl : List vw_C) (tyl : List FieldType) (G : (Nat → Nat) → (Nat → Prop) → State → Heap → Prop) (Ts' : List Cond) (cc : ByteArray) (my : MethodName) (nL : Nat) (ret : Option FieldType), z = (cl, tyl, G, Cond.code my cc nL ret :: Ts', cc, my, nL, ret) ∧ plainName my.cls = true
theorem gx_sound {P : gx_P} (hok : ∀ m pc T, P m pc = some T → gx_Sn l zs (zs m) pc T) (hz : ∀ m, gx_Zok (zs m)) {d m : Nat} {lv : List (Option Value)} {h : gx_H} {kc ks : Nat} {Q : gx_R → Prop} (hX : gx_X P d m (0, lv, [], h, kc, ks) Q) (D : va_G) (dT : Nat → ClassId) (sp : Nat → Nat) :
    gx_Mt l (zs m) D dT sp d (0, lv, [], h, kc, ks) Q := by
  have mt : ∀ {d m : Nat} {lv : List (Option Value)} {h : gx_H} {kc ks : Nat} {Q : gx_R → Prop} (D : va_G) (dT : Nat → ClassId) (sp : Nat → Nat),
      (∀ (x : gx_C) (y : gx_D), x.2.1 = l → gx_Cx (zs m) x y → (∀ w ∈ x.2.2.2.2.2.2.2.2.2.exceptionTable.toList, False) → x.2.2.2.1.frames = d + 20 → x.2.2.2.1.locals = 64 * d + 2000 → gx_Gd (zs m) x y (gx_Fin (zs m) x y Q) (0, lv, [], h, kc, ks)) → gx_Mt l (zs m) D dT sp d (0, lv, [], h, kc, ks) Q := by
    intro d m lv h kc ks Q D dT sp hF
    obtain ⟨cl, tyl, G, Ts', cc, my, nL, ret, ez, hy⟩ := hz m
    rw [ez] at hF ⊢
    exact gx_Mt.of hy rfl (fun x y e1 _ _ _ hC hex hf hl => hF x y e1 hC hex hf hl)
  refine mt D dT sp (hX (fun d m S Q => ∀ (x : gx_C) (y : gx_D), x.2.1 = l → gx_Cx (zs m) x y → (∀ w ∈ x.2.2.2.2.2.2.2.2.2.exceptionTable.toList, False) → x.2.2.2.1.frames = d + 20 → x.2.2.2.1.locals = 64 * d + 2000 → gx_Gd (zs m) x y (gx_Fin (zs m) x y Q) S) ?_ ?_)
  · intro d m S Q Q' hq hF x y e1 hC hex hf hl
    exact (hF x y e1 hC hex hf hl).mono (gx_Fin.mono hq)
  · intro d m S Q T K C hT hS hK hC x y e1 hCx hex hf hl
    obtain ⟨pc, lv, st, h, bc, bs⟩ := S
    refine hok m pc T hT x y d lv st h bc bs K Q C e1 hCx hex hf hl hS (fun S' k => hK S' k x y e1 hCx hex hf hl) (fun m' lv' h' kc ks Q' c => ?_)
    obtain ⟨d', e2, f⟩ := hC m' _ Q' c
    exact ⟨d', e2, mt y.1 y.2.1 y.2.2.1 f⟩
/-- a table all of whose rows are right -/
def gx_all (F : Nat → gx_T → Prop) : List (Nat × gx_T) → Prop
  | [] => True
  | q :: r => F q.1 q.2 ∧ gx_all F r
theorem gx_all.mem {F : Nat → gx_T → Prop} : ∀ {tb : List (Nat × gx_T)}, gx_all F tb → ∀ q ∈ tb, F q.1 q.2
  | [], _, q, hq => by cases hq
  | x :: r, h, q, hq => by
    rcases List.mem_cons.mp hq with e | e
    · rw [e]; exact h.1
    · exact gx_all.mem h.2 q e
theorem gx_all.find {F : Nat → gx_T → Prop} {tb : List (Nat × gx_T)} (h : gx_all F tb) {pc : Nat} {T : gx_T} (hf : gx_find pc tb = some T) : F pc T := h.mem (pc, T) (gx_find_mem hf)
/-- the stack at a call -/
theorem gx_stack {sp ad : Nat → Nat} {st : List Value} {n : Nat} : st.map (gx_v sp ad) = ((st.take n).reverse.map (gx_v sp ad)).reverse ++ (st.drop n).map (gx_v sp ad) := by
  rw [← List.map_reverse, List.reverse_reverse, ← List.map_append, List.take_append_drop]
theorem gx_call_inv {m' n nL' bc bs : Nat} {st : List Value} {h : gx_H} {F : Nat → Nat → gx_R → Prop} {C : Nat → gx_S → (gx_R → Prop) → Prop} (hT : gi_callK m' n nL' st h bc bs F C) :
    (((st.drop n).map Value.category).sum ≤ 8 ∧ (∀ v ∈ (st.take n).reverse, v.category = 1) ∧ (st.take n).reverse.length = n) ∧ ∃ kc ks, (kc ≤ bc ∧ ks ≤ bs) ∧ C m' (0, ((st.take n).reverse.map some) ++ List.replicate (nL' - n) none, [], h, kc, ks) (F kc ks) := by
  unfold gi_callK at hT
  cases h1 : Nat.ble ((st.drop n).map Value.category).sum 8 with
  | false => rw [h1] at hT; exact False.elim hT
  | true =>
    cases h2 : (st.take n).all (fun v => Nat.beq v.category 1) with
    | false => rw [h1, h2] at hT; exact False.elim hT
    | true =>
      cases h3 : Nat.beq (st.take n).length n with
      | false => rw [h1, h2, h3] at hT; exact False.elim hT
      | true =>
        rw [h1, h2, h3] at hT
        refine ⟨⟨Nat.le_of_ble_eq_true h1, fun v hv => Nat.eq_of_beq_eq_true (List.all_eq_true.mp h2 v (List.mem_reverse.mp hv)), ?_⟩, hT⟩
        rw [List.length_reverse]
        exact Nat.eq_of_beq_eq_true h3
theorem gx_catsum {sp ad : Nat → Nat} (st : List Value) : ((st.map (gx_v sp ad)).map fun v => v.category).sum = (st.map Value.category).sum := by
  rw [List.map_map]
  congr 1
  exact List.map_congr_left (fun v _ => gx_v_cat sp ad v)
/-- what an old cell's word must keep -/
def gx_Gok (G : (Nat → Nat) → (Nat → Prop) → State → Heap → Prop) : Prop := (∀ (sp : Nat → Nat) (A : Nat → Prop) (u U : State) (H : Heap), u.WarmedH U.vm → G sp A u H → G sp A U H) ∧ (∀ (sp : Nat → Nat) (A : Nat → Prop) (U : State) (H H1 : Heap), (∀ a : Nat, a < H.size → ¬ A a → H1[a]? = H[a]?) → H.size ≤ H1.size → G sp A U H → G sp A U H1) ∧ (∀ (sp : Nat → Nat) (A B : Nat → Prop) (U : State) (H : Heap), (∀ q, B q → A q) → G sp A U H → G sp B U H)
theorem gx_G_in {D : va_G} {dT : Nat → ClassId} {sp ad ad0 : Nat → Nat} {A : Nat → Prop} {n0 : Nat} {s : State} {h : gx_H} {H : Heap} {locs : List Loc} (hGo : gx_Gok G) (hA : ∀ q, s.heap.size ≤ q → A q) (hh : gx_Rh cl (D, dT, sp, A, n0, ad0) s h ad H locs) (hG : G sp A s s.heap) {U : State} (hU : U.heap = H) (hvm : s.WarmedH U.vm) :
    G sp (va_A (gx_w dT sp ad h) H.size) U U.heap := by
  obtain ⟨hP, hD, hS, -⟩ := hh
  refine hGo.2.2 sp A _ _ _ (fun q hq => ?_) (hGo.1 sp A s U _ hvm ?_)
  · rcases hq with ⟨k, e9, hk⟩ | hq
    · exact hD.2 k (q, e9) hk
    · exact hA q (Nat.le_trans hS.1 hq)
  · rw [hU]
    exact hGo.2.1 sp A s _ _ hS.2.1 hS.1 hG
end GXZ
