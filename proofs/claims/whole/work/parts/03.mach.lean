/-! The abstract machine. A heap is a list of cells; a value .ref k is its k-th cell, .retAddr k the k-th special cell (0: the script). A state: pc, locals, stack, heap, cells left, slots left. A result: the value returned or the class thrown, and the heap. An instruction is what must hold at a state so that the next ones (K), the end (Q), a call (C) are right. -/
abbrev gx_E : Type := (Nat × vp_A) ⊕ (Nat × List Value)
abbrev gx_H : Type := List gx_E
abbrev gx_S : Type := Nat × List (Option Value) × List Value × gx_H × Nat × Nat
abbrev gx_R : Type := (Option Value ⊕ String) × gx_H
abbrev gx_T : Type := gx_S → (gx_S → Prop) → (gx_R → Prop) → (Nat → gx_S → (gx_R → Prop) → Prop) → Prop
abbrev gx_P : Type := Nat → Nat → Option gx_T
abbrev gx_F : Type := Nat → Nat → gx_S → (gx_R → Prop) → Prop
def gx_mono (F : gx_F) : Prop := ∀ (d m : Nat) (S : gx_S) (Q Q' : gx_R → Prop), (∀ r, Q r → Q' r) → F d m S Q → F d m S Q'
def gx_closed (P : gx_P) (F : gx_F) : Prop := ∀ (d m : Nat) (S : gx_S) (Q : gx_R → Prop) (T : gx_T) (K : gx_S → Prop) (C : Nat → gx_S → (gx_R → Prop) → Prop), P m S.1 = some T → T S K Q C → (∀ S', K S' → F d m S' Q) → (∀ m' E Q', C m' E Q' → ∃ d', d = d' + 1 ∧ F d' m' E Q') → F d m S Q
/-- method m of P, at the state S with d frames left, comes to a result with Q -/
def gx_X (P : gx_P) (d m : Nat) (S : gx_S) (Q : gx_R → Prop) : Prop := ∀ F : gx_F, gx_mono F → gx_closed P F → F d m S Q
theorem gx_X.mono {P : gx_P} {d m : Nat} {S : gx_S} {Q Q' : gx_R → Prop} (h : gx_X P d m S Q) (hq : ∀ r, Q r → Q' r) : gx_X P d m S Q' := fun F hm hc => hm d m S Q Q' hq (h F hm hc)
theorem gx_X.intro {P : gx_P} {d m : Nat} {S : gx_S} {Q : gx_R → Prop} {T : gx_T} {K : gx_S → Prop} {C : Nat → gx_S → (gx_R → Prop) → Prop} (hT : P m S.1 = some T) (h : T S K Q C) (hK : ∀ S', K S' → gx_X P d m S' Q) (hC : ∀ m' E Q', C m' E Q' → ∃ d', d = d' + 1 ∧ gx_X P d' m' E Q') : gx_X P d m S Q :=
  fun F hm hc => hc d m S Q T K C hT h (fun S' k => hK S' k F hm hc) (fun m' E Q' k => by
    obtain ⟨d', e, x⟩ := hC m' E Q' k
    exact ⟨d', e, x F hm hc⟩)
theorem gx_X.deep {P : gx_P} {d m : Nat} {S : gx_S} {Q : gx_R → Prop} (h : gx_X P d m S Q) : gx_X P (d + 1) m S Q := by
  refine h (fun d m S Q => gx_X P (d + 1) m S Q) (fun d m S Q Q' hq k => k.mono hq) ?_
  intro d m S Q T K C hT hS hK hC
  refine gx_X.intro hT hS hK (fun m' E Q' k => ?_)
  obtain ⟨d', e, x⟩ := hC m' E Q' k
  exact ⟨d' + 1, by omega, x⟩
theorem gx_X.deeper {P : gx_P} {d m : Nat} {S : gx_S} {Q : gx_R → Prop} (h : gx_X P d m S Q) (k : Nat) : gx_X P (d + k) m S Q := by
  induction k with
  | zero => exact h
  | succ k ih => exact ih.deep
theorem gx_X.le {P : gx_P} {d d' m : Nat} {S : gx_S} {Q : gx_R → Prop} (h : gx_X P d m S Q) (hd : d ≤ d') : gx_X P d' m S Q := by
  have h1 := h.deeper (d' - d)
  rw [show d + (d' - d) = d' by omega] at h1
  exact h1
def gx_isin (p : Nat) : List Nat → Bool
  | [] => false
  | q :: r => match Nat.beq p q with
    | true => true
    | false => gx_isin p r
/-- instructions at once, k at most, up to one of the stops -/
def gx_bs (P : gx_P) (d m : Nat) (stop : List Nat) (Q : gx_R → Prop) : Nat → gx_S → Prop
  | 0, S => gx_X P (d + 1) m S Q
  | k + 1, S => match P m S.1 with
    | some T => T S (fun S' => match gx_isin S'.1 stop with
      | true => gx_X P (d + 1) m S' Q
      | false => gx_bs P d m stop Q k S') Q (fun m' E Q' => gx_X P d m' E Q')
    | none => False
theorem gx_X.bs {P : gx_P} {d m : Nat} {Q : gx_R → Prop} (stop : List Nat) : ∀ (k : Nat) {S : gx_S}, gx_bs P d m stop Q k S → gx_X P (d + 1) m S Q
  | 0, S, h => h
  | k + 1, S, h => by
    have h1 : (match P m S.1 with
      | some T => T S (fun S' => match gx_isin S'.1 stop with
        | true => gx_X P (d + 1) m S' Q
        | false => gx_bs P d m stop Q k S') Q (fun m' E Q' => gx_X P d m' E Q')
      | none => False) := h
    cases hT : P m S.1 with
    | none =>
      rw [hT] at h1
      exact False.elim h1
    | some T =>
      rw [hT] at h1
      refine gx_X.intro hT h1 (fun S' hk => ?_) (fun m' E Q' hc => ⟨d, rfl, hc⟩)
      cases hi : gx_isin S'.1 stop with
      | true => rw [hi] at hk; exact hk
      | false => rw [hi] at hk; exact gx_X.bs stop k hk
/-- a table of instructions by their pc -/
def gx_find (pc : Nat) : List (Nat × gx_T) → Option gx_T
  | [] => none
  | q :: r => match Nat.beq q.1 pc with
    | true => some q.2
    | false => gx_find pc r
theorem gx_find_mem {pc : Nat} {T : gx_T} : ∀ {l : List (Nat × gx_T)}, gx_find pc l = some T → (pc, T) ∈ l
  | [], h => by cases h
  | q :: r, h => by
    have h1 : (match Nat.beq q.1 pc with
      | true => some q.2
      | false => gx_find pc r) = some T := h
    cases hb : Nat.beq q.1 pc with
    | true =>
      rw [hb] at h1
      have e1 : q.1 = pc := Nat.eq_of_beq_eq_true hb
      have e2 : q.2 = T := Option.some.inj h1
      rw [← e1, ← e2]
      exact List.mem_cons_self
    | false =>
      rw [hb] at h1
      exact List.mem_cons_of_mem _ (gx_find_mem h1)
-- the instructions
def gx_isI : Value → Bool
  | .int _ => true
  | _ => false
def gx_isR : Value → Bool
  | .ref _ => true
  | .null => true
  | .retAddr _ => true
  | _ => false
def gi_ld (kd : Value → Bool) (i nx : Nat) : gx_T := fun S K _ _ => match S with
  | (_, lv, st, h, bc, bs) => match lv[i]? with
    | some (some v) => match kd v with
      | true => K (nx, lv, v :: st, h, bc, bs)
      | false => False
    | _ => False
def gi_k (v : Value) (nx : Nat) : gx_T := fun S K _ _ => match S with
  | (_, lv, st, h, bc, bs) => K (nx, lv, v :: st, h, bc, bs)
def gi_st (kd : Value → Bool) (i nx : Nat) : gx_T := fun S K _ _ => match S with
  | (_, lv, v :: st, h, bc, bs) => match lv[i]? with
    | some _ => match kd v with
      | true => K (nx, lv.set i (some v), st, h, bc, bs)
      | false => False
    | none => False
  | _ => False
def gi_inc (i : Nat) (n : Int32) (nx : Nat) : gx_T := fun S K _ _ => match S with
  | (_, lv, st, h, bc, bs) => match lv[i]? with
    | some (some (.int x)) => K (nx, lv.set i (some (.int (x + n))), st, h, bc, bs)
    | _ => False
def gi_un (f : Int32 → Int32) (nx : Nat) : gx_T := fun S K _ _ => match S with
  | (_, lv, .int x :: st, h, bc, bs) => K (nx, lv, .int (f x) :: st, h, bc, bs)
  | _ => False
def gi_bin (f : Int32 → Int32 → Int32) (nx : Nat) : gx_T := fun S K _ _ => match S with
  | (_, lv, .int y :: .int x :: st, h, bc, bs) => K (nx, lv, .int (f x y) :: st, h, bc, bs)
  | _ => False
def gi_div (f : Int32 → Int32 → Int32) (nx : Nat) : gx_T := fun S K _ _ => match S with
  | (_, lv, .int y :: .int x :: st, h, bc, bs) => ¬ y = 0 ∧ K (nx, lv, .int (f x y) :: st, h, bc, bs)
  | _ => False
def gi_goto (tg : Nat) : gx_T := fun S K _ _ => match S with
  | (_, lv, st, h, bc, bs) => K (tg, lv, st, h, bc, bs)
def gi_if (ct cf : Int32 → Prop) (tg nx : Nat) : gx_T := fun S K _ _ => match S with
  | (_, lv, .int x :: st, h, bc, bs) => (ct x → K (tg, lv, st, h, bc, bs)) ∧ (cf x → K (nx, lv, st, h, bc, bs))
  | _ => False
def gi_cmp (ct cf : Int32 → Int32 → Prop) (tg nx : Nat) : gx_T := fun S K _ _ => match S with
  | (_, lv, .int y :: .int x :: st, h, bc, bs) => (ct x y → K (tg, lv, st, h, bc, bs)) ∧ (cf x y → K (nx, lv, st, h, bc, bs))
  | _ => False
/-- ifnull: tn where it is null, tr where it is a cell -/
def gi_nul (tn tr : Nat) : gx_T := fun S K _ _ => match S with
  | (_, lv, .null :: st, h, bc, bs) => K (tn, lv, st, h, bc, bs)
  | (_, lv, .ref _ :: st, h, bc, bs) => K (tr, lv, st, h, bc, bs)
  | _ => False
def gi_dup (nx : Nat) : gx_T := fun S K _ _ => match S with
  | (_, lv, v :: st, h, bc, bs) => match Nat.beq v.category 1 with
    | true => K (nx, lv, v :: v :: st, h, bc, bs)
    | false => False
  | _ => False
def gi_dup2 (nx : Nat) : gx_T := fun S K _ _ => match S with
  | (_, lv, v :: w :: st, h, bc, bs) => match Nat.beq v.category 1, Nat.beq w.category 1 with
    | true, true => K (nx, lv, v :: w :: v :: w :: st, h, bc, bs)
    | _, _ => False
  | _ => False
def gi_pop (nx : Nat) : gx_T := fun S K _ _ => match S with
  | (_, lv, v :: st, h, bc, bs) => match Nat.beq v.category 1 with
    | true => K (nx, lv, st, h, bc, bs)
    | false => False
  | _ => False
def gi_get (ci k nx : Nat) : gx_T := fun S K _ _ => match S with
  | (_, lv, .ref a :: st, h, bc, bs) => match h[a]? with
    | some (.inr (c, fs)) => match Nat.beq c ci, fs[k]? with
      | true, some v => K (nx, lv, v :: st, h, bc, bs)
      | _, _ => False
    | _ => False
  | _ => False
/-- what of a value tells whether a field takes it -/
def gx_r : Value → Value
  | .ref _ => .ref 0
  | .retAddr _ => .ref 0
  | v => v
def gi_put (ci k : Nat) (ty : FieldType) (nx : Nat) : gx_T := fun S K _ _ => match S with
  | (_, lv, v :: .ref a :: st, h, bc, bs) => match h[a]? with
    | some (.inr (c, fs)) => match Nat.beq c ci, fs[k]? with
      | true, some _ => (narrow ty (gx_r v) = gx_r v ∧ fits ty (gx_r v) = true) ∧ K (nx, lv, st, h.set a (.inr (c, fs.set k v)), bc, bs)
      | _, _ => False
    | _ => False
  | _ => False
/-- a field of type int -/
def gi_puti (ci k nx : Nat) : gx_T := fun S K _ _ => match S with
  | (_, lv, .int x :: .ref a :: st, h, bc, bs) => match h[a]? with
    | some (.inr (c, fs)) => match Nat.beq c ci, fs[k]? with
      | true, some _ => K (nx, lv, st, h.set a (.inr (c, fs.set k (.int x))), bc, bs)
      | _, _ => False
    | _ => False
  | _ => False
theorem gi_puti.to {ci k nx : Nat} {S : gx_S} {K : gx_S → Prop} {Q : gx_R → Prop} {C : Nat → gx_S → (gx_R → Prop) → Prop} (h : gi_puti ci k nx S K Q C) : gi_put ci k .int nx S K Q C := by
  obtain ⟨pc, lv, st, hp, bc, bs⟩ := S
  rcases st with _ | ⟨v, st⟩
  · exact False.elim h
  cases v with
  | int x =>
    rcases st with _ | ⟨v, st⟩
    · exact False.elim h
    cases v with
    | ref a =>
      cases hc : hp[a]? with
      | none => simp only [gi_puti, hc] at h
      | some ce =>
        obtain ⟨t0, x0⟩ | ⟨c0, fs⟩ := ce
        · simp only [gi_puti, hc] at h
        · cases hb : Nat.beq c0 ci with
          | false => simp only [gi_puti, hc, hb] at h
          | true =>
            cases hf : fs[k]? with
            | none => simp only [gi_puti, hc, hb, hf] at h
            | some w =>
              simp only [gi_puti, hc, hb, hf] at h
              simp only [gi_put, hc, hb, hf]
              exact ⟨⟨rfl, rfl⟩, h⟩
    | _ => exact False.elim h
  | _ => exact False.elim h
def gi_ald (t nx : Nat) : gx_T := fun S K _ _ => match S with
  | (_, lv, .int i :: .ref a :: st, h, bc, bs) => match h[a]? with
    | some (.inl (t', n, .inl f)) => match Nat.beq t' t with
      | true => vp_in i n ∧ K (nx, lv, .int (f i.toNatClampNeg) :: st, h, bc, bs)
      | false => False
    | _ => False
  | _ => False
def gi_ast (t : Nat) (g : Int32 → Int32) (nx : Nat) : gx_T := fun S K _ _ => match S with
  | (_, lv, .int x :: .int i :: .ref a :: st, h, bc, bs) => match h[a]? with
    | some (.inl (t', n, .inl f)) => match Nat.beq t' t with
      | true => vp_in i n ∧ K (nx, lv, st, h.set a (.inl (t', n, .inl (upd f i.toNatClampNeg (g x)))), bc, bs)
      | false => False
    | _ => False
  | _ => False
def gi_alen (nx : Nat) : gx_T := fun S K _ _ => match S with
  | (_, lv, .ref a :: st, h, bc, bs) => match h[a]? with
    | some (.inl (_, x)) => K (nx, lv, .int (Int32.ofNat x.1) :: st, h, bc, bs)
    | _ => False
  | _ => False
def gi_ret : gx_T := fun S _ Q _ => match S with
  | (_, _, [], h, _, _) => Q (.inl none, h)
  | _ => False
/-- a number of a small type too: of type ty -/
def gi_iret (ty : FieldType) : gx_T := fun S _ Q _ => match S with
  | (_, _, [.int x], h, _, _) => narrow ty (.int x) = .int x ∧ Q (.inl (some (.int x)), h)
  | _ => False
def gi_ireti : gx_T := fun S _ Q _ => match S with
  | (_, _, [.int x], h, _, _) => Q (.inl (some (.int x)), h)
  | _ => False
theorem gi_ireti.to {S : gx_S} {K : gx_S → Prop} {Q : gx_R → Prop} {C : Nat → gx_S → (gx_R → Prop) → Prop} (h : gi_ireti S K Q C) : gi_iret .int S K Q C := by
  obtain ⟨pc, lv, st, hp, bc, bs⟩ := S
  rcases st with _ | ⟨v, st⟩
  · exact False.elim h
  cases v with
  | int x =>
    rcases st with _ | ⟨v, st⟩
    · exact ⟨rfl, h⟩
    · exact False.elim h
  | _ => exact False.elim h
/-- a new array of ints of a small type or of int -/
def gi_newa (t : Nat) (nx : Nat) : gx_T := fun S K _ _ => match S with
  | (_, lv, .int n :: st, h, bc, bs) => (¬ n < 0 ∧ n.toNatClampNeg * 8 ≤ 536870912) ∧ (1 ≤ bc ∧ n.toNatClampNeg ≤ bs) ∧ K (nx, lv, .ref h.length :: st, h ++ [.inl (t, n.toNatClampNeg, .inl (fun _ => 0))], bc - 1, bs - n.toNatClampNeg)
  | _ => False
def gi_new (ci N : Nat) (fs : List Value) (nx : Nat) : gx_T := fun S K _ _ => match S with
  | (_, lv, st, h, bc, bs) => (1 ≤ bc ∧ N ≤ bs) ∧ K (nx, lv, .ref h.length :: st, h ++ [.inr (ci, fs)], bc - 1, bs - N)
/-- behind a call -/
def gx_k (lv : List (Option Value)) (st : List Value) (nx bc bs : Nat) (K : gx_S → Prop) (Q : gx_R → Prop) : gx_R → Prop := fun r => match r with
  | (.inl none, h) => K (nx, lv, st, h, bc, bs)
  | (.inl (some v), h) => K (nx, lv, v :: st, h, bc, bs)
  | (.inr x, h) => Q (.inr x, h)
/-- a call of method m' (n values are taken, with the receiver; nL locals); F: what is behind it -/
def gi_callK (m' n nL : Nat) (st : List Value) (h : gx_H) (bc bs : Nat) (F : Nat → Nat → gx_R → Prop) (C : Nat → gx_S → (gx_R → Prop) → Prop) : Prop :=
  match Nat.ble ((st.drop n).map Value.category).sum 8, ((st.take n).all (fun v => Nat.beq v.category 1)), Nat.beq (st.take n).length n with
    | true, true, true => ∃ kc ks, (kc ≤ bc ∧ ks ≤ bs) ∧ C m' (0, ((st.take n).reverse.map some) ++ List.replicate (nL - n) none, [], h, kc, ks) (F kc ks)
    | _, _, _ => False
def gi_call (m' n nL nx : Nat) : gx_T := fun S K Q C => match S with
  | (_, lv, st, h, bc, bs) => gi_callK m' n nL st h bc bs (fun kc ks => gx_k lv (st.drop n) nx (bc - kc) (bs - ks) K Q) C
/-- behind a constructor: it never throws -/
def gx_k0 (lv : List (Option Value)) (st : List Value) (nx bc bs : Nat) (K : gx_S → Prop) : gx_R → Prop := fun r => match r with
  | (.inl none, h) => K (nx, lv, st, h, bc, bs)
  | _ => False
/-- a call by the receiver's class: the receiver stands at place k of the stack, k values over it -/
def gi_vcall (sel : Nat → Option (Nat × Nat)) (k nx : Nat) : gx_T := fun S K Q C => match S with
  | (pc, lv, st, h, bc, bs) => match st[k]? with
    | some (.ref a) => match h[a]? with
      | some (.inr (c, _)) => match sel c with
        | some (m', nL) => gi_call m' (k + 1) nL nx (pc, lv, st, h, bc, bs) K Q C
        | none => False
      | _ => False
    | _ => False
/-- of one class alone -/
def gx_sel (ci m' nL : Nat) : Nat → Option (Nat × Nat) := fun c => match Nat.beq c ci with
  | true => some (m', nL)
  | false => none
/-- invokespecial of a constructor: on the cell at place k -/
def gi_scall (m' k nL nx : Nat) : gx_T := fun S K _ C => match S with
  | (_, lv, st, h, bc, bs) => match st[k]? with
    | some (.ref _) => gi_callK m' (k + 1) nL st h bc bs (fun kc ks => gx_k0 lv (st.drop (k + 1)) nx (bc - kc) (bs - ks) K) C
    | _ => False
/-- Object(): nothing -/
def gi_obj (nx : Nat) : gx_T := fun S K _ _ => match S with
  | (_, lv, .ref _ :: st, h, bc, bs) => match Nat.ble (st.map Value.category).sum 8 with
    | true => K (nx, lv, st, h, bc, bs)
    | false => False
  | _ => False
