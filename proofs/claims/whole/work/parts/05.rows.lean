/-! The instructions are right: each by the kit's row. Written by wip/tools/rows.py. -/
section GXS
variable {cl : List vw_C} {tyl : List FieldType} {Ts : List Cond} {G : (Nat → Nat) → (Nat → Prop) → State → Heap → Prop} {cc : ByteArray} {my : MethodName} {nL : Nat} {ret : Option FieldType} {pc nx : Nat}
theorem gs_ild {i : Nat} (hrow : ∀ (ls : Array Slot) (rest : List Value) (x : Int32), ls[i]? = some (.val (.int x)) → gx_go cc (fun m => F0 m pc ls rest) (fun m => F0 m nx ls (.int x :: rest))) : gx_s1 (cl, tyl, G, Ts, cc, my, nL, ret) pc (gi_ld gx_isI i nx) := by
  rintro ⟨p, l, e, R, s, m, args, below, meth, c⟩ ⟨D, dT, sp, A, n0, ad0⟩ Fin lv st h bc bs K Q C ⟨⟨hx, hb, hml, hown, hnm0, hret⟩, hts, hK0, hA, hlk, hG⟩ hT hK ad H locs ls hh hv hs hc1 hc2
  cases hi : lv[i]? with
  | none => simp only [gi_ld, hi] at hT
  | some o =>
    cases o with
    | none => simp only [gi_ld, hi] at hT
    | some v =>
      cases v with
      | int x =>
        simp only [gi_ld, hi, gx_isI] at hT
        have h1 := hv.2.2.2 i _ hi
        exact hrow ls _ x h1.1 p l e R s m args below meth c H locs _ _ Fin hx hb (hK _ hT ad H locs ls hh hv (fun w hm => by
          rcases List.mem_cons.mp hm with e1 | e1
          · rw [e1]; trivial
          · exact hs w e1) hc1 hc2)
      | _ =>
        simp only [gi_ld, hi, gx_isI] at hT
theorem gs_rld {i : Nat} (hrow : ∀ (ls : Array Slot) (rest : List Value) (x : Option Nat), ls[i]? = some (.val (va_rf x)) → gx_go cc (fun m => F0 m pc ls rest) (fun m => F0 m nx ls (va_rf x :: rest))) : gx_s1 (cl, tyl, G, Ts, cc, my, nL, ret) pc (gi_ld gx_isR i nx) := by
  rintro ⟨p, l, e, R, s, m, args, below, meth, c⟩ ⟨D, dT, sp, A, n0, ad0⟩ Fin lv st h bc bs K Q C ⟨⟨hx, hb, hml, hown, hnm0, hret⟩, hts, hK0, hA, hlk, hG⟩ hT hK ad H locs ls hh hv hs hc1 hc2
  cases hi : lv[i]? with
  | none => simp only [gi_ld, hi] at hT
  | some o =>
    cases o with
    | none => simp only [gi_ld, hi] at hT
    | some v =>
      have h1 := hv.2.2.2 i _ hi
      have hst : gx_Rs (v :: st) h.length := (fun w hm => by
          rcases List.mem_cons.mp hm with e1 | e1
          · rw [e1]; exact h1.2.1
          · exact hs w e1)
      cases v with
      | ref k =>
        simp only [gi_ld, hi, gx_isR] at hT
        exact hrow ls _ (some (ad k)) h1.1 p l e R s m args below meth c H locs _ _ Fin hx hb (hK _ hT ad H locs ls hh hv hst hc1 hc2)
      | retAddr k =>
        simp only [gi_ld, hi, gx_isR] at hT
        exact hrow ls _ (some (sp k)) h1.1 p l e R s m args below meth c H locs _ _ Fin hx hb (hK _ hT ad H locs ls hh hv hst hc1 hc2)
      | null =>
        simp only [gi_ld, hi, gx_isR] at hT
        exact hrow ls _ none h1.1 p l e R s m args below meth c H locs _ _ Fin hx hb (hK _ hT ad H locs ls hh hv hst hc1 hc2)
      | _ =>
        simp only [gi_ld, hi, gx_isR] at hT
theorem gs_k {v : Value} (hok : gx_ok 0 v) (hv0 : ∀ sp ad, gx_v sp ad v = v) (hrow : ∀ (ls : Array Slot) (rest : List Value), gx_go cc (fun m => F0 m pc ls rest) (fun m => F0 m nx ls (v :: rest))) : gx_s1 (cl, tyl, G, Ts, cc, my, nL, ret) pc (gi_k v nx) := by
  rintro ⟨p, l, e, R, s, m, args, below, meth, c⟩ ⟨D, dT, sp, A, n0, ad0⟩ Fin lv st h bc bs K Q C ⟨⟨hx, hb, hml, hown, hnm0, hret⟩, hts, hK0, hA, hlk, hG⟩ hT hK ad H locs ls hh hv hs hc1 hc2
  have h1 := hK _ hT ad H locs ls hh hv (fun w hm => by
          rcases List.mem_cons.mp hm with e1 | e1
          · rw [e1]; exact hok.le (Nat.zero_le _)
          · exact hs w e1) hc1 hc2
  rw [List.map_cons, hv0] at h1
  exact hrow ls _ p l e R s m args below meth c H locs _ _ Fin hx hb h1
theorem gs_bin {f : Int32 → Int32 → Int32} (hrow : ∀ (ls : Array Slot) (rest : List Value) (a b : Int32), gx_go cc (fun m => F0 m pc ls (.int b :: .int a :: rest)) (fun m => F0 m nx ls (.int (f a b) :: rest))) : gx_s1 (cl, tyl, G, Ts, cc, my, nL, ret) pc (gi_bin f nx) := by
  rintro ⟨p, l, e, R, s, m, args, below, meth, c⟩ ⟨D, dT, sp, A, n0, ad0⟩ Fin lv st h bc bs K Q C ⟨⟨hx, hb, hml, hown, hnm0, hret⟩, hts, hK0, hA, hlk, hG⟩ hT hK ad H locs ls hh hv hs hc1 hc2
  rcases st with _ | ⟨v, st⟩
  · exact False.elim hT
  cases v with
  | int b =>
    rcases st with _ | ⟨v, st⟩
    · exact False.elim hT
    cases v with
    | int a =>
      exact hrow ls _ a b p l e R s m args below meth c H locs _ _ Fin hx hb (hK _ hT ad H locs ls hh hv (fun w hm => by
                rcases List.mem_cons.mp hm with e1 | e1
                · rw [e1]; trivial
                · exact hs w (List.mem_cons_of_mem _ (List.mem_cons_of_mem _ e1))) hc1 hc2)
    | _ => exact False.elim hT
  | _ => exact False.elim hT
theorem gs_div {f : Int32 → Int32 → Int32} (hrow : ∀ (ls : Array Slot) (rest : List Value) (a b : Int32), ¬ b = 0 → gx_go cc (fun m => F0 m pc ls (.int b :: .int a :: rest)) (fun m => F0 m nx ls (.int (f a b) :: rest))) : gx_s1 (cl, tyl, G, Ts, cc, my, nL, ret) pc (gi_div f nx) := by
  rintro ⟨p, l, e, R, s, m, args, below, meth, c⟩ ⟨D, dT, sp, A, n0, ad0⟩ Fin lv st h bc bs K Q C ⟨⟨hx, hb, hml, hown, hnm0, hret⟩, hts, hK0, hA, hlk, hG⟩ hT hK ad H locs ls hh hv hs hc1 hc2
  rcases st with _ | ⟨v, st⟩
  · exact False.elim hT
  cases v with
  | int b =>
    rcases st with _ | ⟨v, st⟩
    · exact False.elim hT
    cases v with
    | int a =>
      obtain ⟨hz, hT⟩ := hT
      exact hrow ls _ a b hz p l e R s m args below meth c H locs _ _ Fin hx hb (hK _ hT ad H locs ls hh hv (fun w hm => by
                rcases List.mem_cons.mp hm with e1 | e1
                · rw [e1]; trivial
                · exact hs w (List.mem_cons_of_mem _ (List.mem_cons_of_mem _ e1))) hc1 hc2)
    | _ => exact False.elim hT
  | _ => exact False.elim hT
theorem gs_un {f : Int32 → Int32} (hrow : ∀ (ls : Array Slot) (rest : List Value) (a : Int32), gx_go cc (fun m => F0 m pc ls (.int a :: rest)) (fun m => F0 m nx ls (.int (f a) :: rest))) : gx_s1 (cl, tyl, G, Ts, cc, my, nL, ret) pc (gi_un f nx) := by
  rintro ⟨p, l, e, R, s, m, args, below, meth, c⟩ ⟨D, dT, sp, A, n0, ad0⟩ Fin lv st h bc bs K Q C ⟨⟨hx, hb, hml, hown, hnm0, hret⟩, hts, hK0, hA, hlk, hG⟩ hT hK ad H locs ls hh hv hs hc1 hc2
  rcases st with _ | ⟨v, st⟩
  · exact False.elim hT
  cases v with
  | int a =>
    exact hrow ls _ a p l e R s m args below meth c H locs _ _ Fin hx hb (hK _ hT ad H locs ls hh hv (fun w hm => by
              rcases List.mem_cons.mp hm with e1 | e1
              · rw [e1]; trivial
              · exact hs w (List.mem_cons_of_mem _ e1)) hc1 hc2)
  | _ => exact False.elim hT
theorem gs_goto {tg : Nat} (hrow : ∀ (ls : Array Slot) (rest : List Value), gx_go cc (fun m => F0 m pc ls rest) (fun m => F0 m tg ls rest)) : gx_s1 (cl, tyl, G, Ts, cc, my, nL, ret) pc (gi_goto tg) := by
  rintro ⟨p, l, e, R, s, m, args, below, meth, c⟩ ⟨D, dT, sp, A, n0, ad0⟩ Fin lv st h bc bs K Q C ⟨⟨hx, hb, hml, hown, hnm0, hret⟩, hts, hK0, hA, hlk, hG⟩ hT hK ad H locs ls hh hv hs hc1 hc2
  exact hrow ls _ p l e R s m args below meth c H locs _ _ Fin hx hb (hK _ hT ad H locs ls hh hv hs hc1 hc2)
/-- a branch on one number, on two -/
def gx_br1 (cc : ByteArray) (ct cf : Int32 → Prop) (pc tg nx : Nat) : Prop := ∀ (p : Program) (l : Launch) (e : Env) (R : Room) (s : State) (m : MethodId) (args : Array Value) (below : List Frame) (meth : Method) (c : Code) (H : Heap) (locs : List Loc) (cells slots : Nat) (Fin : State → Prop) (ls : Array Slot) (rest : List Value) (a : Int32), p.tables.exec = Jvm.exec → c.code = cc → (ct a → W p l e R s m args below meth c H locs cells slots Fin (F0 m tg ls rest)) → (cf a → W p l e R s m args below meth c H locs cells slots Fin (F0 m nx ls rest)) → W p l e R s m args below meth c H locs cells slots Fin (F0 m pc ls (.int a :: rest))
def gx_br2 (cc : ByteArray) (ct cf : Int32 → Int32 → Prop) (pc tg nx : Nat) : Prop := ∀ (p : Program) (l : Launch) (e : Env) (R : Room) (s : State) (m : MethodId) (args : Array Value) (below : List Frame) (meth : Method) (c : Code) (H : Heap) (locs : List Loc) (cells slots : Nat) (Fin : State → Prop) (ls : Array Slot) (rest : List Value) (a b : Int32), p.tables.exec = Jvm.exec → c.code = cc → (ct a b → W p l e R s m args below meth c H locs cells slots Fin (F0 m tg ls rest)) → (cf a b → W p l e R s m args below meth c H locs cells slots Fin (F0 m nx ls rest)) → W p l e R s m args below meth c H locs cells slots Fin (F0 m pc ls (.int b :: .int a :: rest))
theorem gs_if {ct cf : Int32 → Prop} {tg : Nat} (hrow : gx_br1 cc ct cf pc tg nx) : gx_s1 (cl, tyl, G, Ts, cc, my, nL, ret) pc (gi_if ct cf tg nx) := by
  rintro ⟨p, l, e, R, s, m, args, below, meth, c⟩ ⟨D, dT, sp, A, n0, ad0⟩ Fin lv st h bc bs K Q C ⟨⟨hx, hb, hml, hown, hnm0, hret⟩, hts, hK0, hA, hlk, hG⟩ hT hK ad H locs ls hh hv hs hc1 hc2
  rcases st with _ | ⟨v, st⟩
  · exact False.elim hT
  cases v with
  | int a =>
    have hs' : gx_Rs st h.length := (fun w e1 => hs w (List.mem_cons_of_mem _ e1))
    exact hrow p l e R s m args below meth c H locs _ _ Fin ls _ a hx hb (fun q => hK _ (hT.1 q) ad H locs ls hh hv hs' hc1 hc2) (fun q => hK _ (hT.2 q) ad H locs ls hh hv hs' hc1 hc2)
  | _ => exact False.elim hT
theorem gs_cmp {ct cf : Int32 → Int32 → Prop} {tg : Nat} (hrow : gx_br2 cc ct cf pc tg nx) : gx_s1 (cl, tyl, G, Ts, cc, my, nL, ret) pc (gi_cmp ct cf tg nx) := by
  rintro ⟨p, l, e, R, s, m, args, below, meth, c⟩ ⟨D, dT, sp, A, n0, ad0⟩ Fin lv st h bc bs K Q C ⟨⟨hx, hb, hml, hown, hnm0, hret⟩, hts, hK0, hA, hlk, hG⟩ hT hK ad H locs ls hh hv hs hc1 hc2
  rcases st with _ | ⟨v, st⟩
  · exact False.elim hT
  cases v with
  | int b =>
    rcases st with _ | ⟨v, st⟩
    · exact False.elim hT
    cases v with
    | int a =>
      have hs' : gx_Rs st h.length := (fun w e1 => hs w (List.mem_cons_of_mem _ (List.mem_cons_of_mem _ e1)))
      exact hrow p l e R s m args below meth c H locs _ _ Fin ls _ a b hx hb (fun q => hK _ (hT.1 q) ad H locs ls hh hv hs' hc1 hc2) (fun q => hK _ (hT.2 q) ad H locs ls hh hv hs' hc1 hc2)
    | _ => exact False.elim hT
  | _ => exact False.elim hT
theorem gs_dup (hd : decode cc pc = .ok (.dup, 1)) : gx_s1 (cl, tyl, G, Ts, cc, my, nL, ret) pc (gi_dup (pc + 1)) := by
  rintro ⟨p, l, e, R, s, m, args, below, meth, c⟩ ⟨D, dT, sp, A, n0, ad0⟩ Fin lv st h bc bs K Q C ⟨⟨hx, hb, hml, hown, hnm0, hret⟩, hts, hK0, hA, hlk, hG⟩ hT hK ad H locs ls hh hv hs hc1 hc2
  rcases st with _ | ⟨v, st⟩
  · exact False.elim hT
  cases hc : Nat.beq v.category 1 with
  | false => simp only [gi_dup, hc] at hT
  | true =>
    simp only [gi_dup, hc] at hT
    exact lv_dup hx hb hd (by rw [gx_v_cat]; exact Nat.eq_of_beq_eq_true hc) (hK _ hT ad H locs ls hh hv (fun w hm => by
          rcases List.mem_cons.mp hm with e1 | e1
          · rw [e1]; exact hs v List.mem_cons_self
          · exact hs w e1) hc1 hc2)
theorem gs_pop (hd : decode cc pc = .ok (.pop, 1)) : gx_s1 (cl, tyl, G, Ts, cc, my, nL, ret) pc (gi_pop (pc + 1)) := by
  rintro ⟨p, l, e, R, s, m, args, below, meth, c⟩ ⟨D, dT, sp, A, n0, ad0⟩ Fin lv st h bc bs K Q C ⟨⟨hx, hb, hml, hown, hnm0, hret⟩, hts, hK0, hA, hlk, hG⟩ hT hK ad H locs ls hh hv hs hc1 hc2
  rcases st with _ | ⟨v, st⟩
  · exact False.elim hT
  cases hc : Nat.beq v.category 1 with
  | false => simp only [gi_pop, hc] at hT
  | true =>
    simp only [gi_pop, hc] at hT
    exact lv_pop hx hb hd (by rw [gx_v_cat]; exact Nat.eq_of_beq_eq_true hc) (hK _ hT ad H locs ls hh hv (fun w e1 => hs w (List.mem_cons_of_mem _ e1)) hc1 hc2)
theorem gs_dup2 (hd : decode cc pc = .ok (.dup2, 1)) : gx_s1 (cl, tyl, G, Ts, cc, my, nL, ret) pc (gi_dup2 (pc + 1)) := by
  rintro ⟨p, l, e, R, s, m, args, below, meth, c⟩ ⟨D, dT, sp, A, n0, ad0⟩ Fin lv st h bc bs K Q C ⟨⟨hx, hb, hml, hown, hnm0, hret⟩, hts, hK0, hA, hlk, hG⟩ hT hK ad H locs ls hh hv hs hc1 hc2
  rcases st with _ | ⟨v, _ | ⟨w, st⟩⟩
  · exact False.elim hT
  · exact False.elim hT
  cases hc : Nat.beq v.category 1 with
  | false => simp only [gi_dup2, hc] at hT
  | true =>
    cases hw : Nat.beq w.category 1 with
    | false => simp only [gi_dup2, hc, hw] at hT
    | true =>
      simp only [gi_dup2, hc, hw] at hT
      exact lv_dup2_11 hx hb hd (by rw [gx_v_cat]; exact Nat.eq_of_beq_eq_true hc) (by rw [gx_v_cat]; exact Nat.eq_of_beq_eq_true hw) (hK _ hT ad H locs ls hh hv (fun u hm => by
        rcases List.mem_cons.mp hm with e1 | e1
        · rw [e1]; exact hs v List.mem_cons_self
        · rcases List.mem_cons.mp e1 with e2 | e2
          · rw [e2]; exact hs w (List.mem_cons_of_mem _ List.mem_cons_self)
          · exact hs u e2) hc1 hc2)
/-- the locals as a list for the kit -/
def gx_ll (sp ad : Nat → Nat) (lv : List (Option Value)) : List (Nat × Value) := (List.range lv.length).filterMap (fun i => match lv[i]? with
  | some (some v) => some (i, gx_v sp ad v)
  | _ => none)
theorem gx_ll_mem {sp ad : Nat → Nat} {lv : List (Option Value)} {i : Nat} {v : Value} (h : lv[i]? = some (some v)) : (i, gx_v sp ad v) ∈ gx_ll sp ad lv := by
  refine List.mem_filterMap.mpr ⟨i, List.mem_range.mpr (List.getElem?_eq_some_iff.mp h).1, ?_⟩
  rw [h]
theorem gx_ll_has {sp ad : Nat → Nat} {lv : List (Option Value)} {n : Nat} {ls : Array Slot} (h : gx_Rv sp nL lv n ad ls) : lv_has ls nL (gx_ll sp ad lv) := by
  refine ⟨h.1, h.2.1, fun q hq => ?_⟩
  obtain ⟨i, -, hi⟩ := List.mem_filterMap.mp hq
  cases hl : lv[i]? with
  | none => rw [hl] at hi; cases hi
  | some o =>
    cases o with
    | none => rw [hl] at hi; cases hi
    | some v =>
      rw [hl] at hi
      cases hi
      exact (h.2.2.2 i v hl).1
theorem gx_Rv.set {sp ad : Nat → Nat} {lv : List (Option Value)} {n i : Nat} {v : Value} {ls ls' : Array Slot} (h : gx_Rv sp nL lv n ad ls) (hok : gx_ok n v) (hcv : v.category = 1)
    (h' : lv_has ls' nL ((i, gx_v sp ad v) :: (gx_ll sp ad lv).filter (fun q => !(q.1 == i) && !(q.1 + 1 == i && q.2.category == 2)))) : gx_Rv sp nL (lv.set i (some v)) n ad ls' := by
  refine ⟨h'.1, h'.2.1, by rw [List.length_set]; exact h.2.2.1, fun j u hj => ?_⟩
  rw [List.getElem?_set] at hj
  by_cases hij : i = j
  · rw [if_pos hij] at hj
    by_cases hl : i < lv.length
    · rw [if_pos hl] at hj
      cases hj
      exact ⟨by rw [← hij]; exact h'.2.2 (i, gx_v sp ad v) List.mem_cons_self, hok, hcv⟩
    · rw [if_neg hl] at hj
      cases hj
  · rw [if_neg hij] at hj
    refine ⟨h'.2.2 (j, gx_v sp ad u) (List.mem_cons_of_mem _ (List.mem_filter.mpr ⟨gx_ll_mem hj, ?_⟩)), (h.2.2.2 j u hj).2⟩
    have h1 : (j == i) = false := by rw [beq_eq_false_iff_ne]; exact fun z => hij z.symm
    have h2 : ((gx_v sp ad u).category == 2) = false := by rw [gx_v_cat, (h.2.2.2 j u hj).2.2]; rfl
    show (!(j == i) && !(j + 1 == i && (gx_v sp ad u).category == 2)) = true
    rw [h1, h2]
    simp
/-- a store into local i -/
def gx_stR (cc : ByteArray) (nL i pc nx : Nat) (v : Value) : Prop := ∀ (p : Program) (l : Launch) (e : Env) (R : Room) (s : State) (m : MethodId) (args : Array Value) (below : List Frame) (meth : Method) (c : Code) (H : Heap) (locs : List Loc) (cells slots : Nat) (Fin : State → Prop) (ls : Array Slot) (rest : List Value) (l1 : List (Nat × Value)), p.tables.exec = Jvm.exec → c.code = cc → lv_has ls nL l1 → i < nL → (∀ ls' : Array Slot, lv_has ls' nL ((i, v) :: l1.filter (fun q => !(q.1 == i) && !(q.1 + 1 == i && q.2.category == 2))) → W p l e R s m args below meth c H locs cells slots Fin (F0 m nx ls' rest)) → W p l e R s m args below meth c H locs cells slots Fin (F0 m pc ls (v :: rest))
theorem gs_ist {i : Nat} (hrow : ∀ x : Int32, gx_stR cc nL i pc nx (.int x)) : gx_s1 (cl, tyl, G, Ts, cc, my, nL, ret) pc (gi_st gx_isI i nx) := by
  rintro ⟨p, l, e, R, s, m, args, below, meth, c⟩ ⟨D, dT, sp, A, n0, ad0⟩ Fin lv st h bc bs K Q C ⟨⟨hx, hb, hml, hown, hnm0, hret⟩, hts, hK0, hA, hlk, hG⟩ hT hK ad H locs ls hh hv hs hc1 hc2
  rcases st with _ | ⟨v, st⟩
  · exact False.elim hT
  cases hi : lv[i]? with
  | none => simp only [gi_st, hi] at hT
  | some o =>
    have hlt : i < nL := Nat.lt_of_lt_of_le (List.getElem?_eq_some_iff.mp hi).1 hv.2.2.1
    have hs' : gx_Rs st h.length := (fun w e1 => hs w (List.mem_cons_of_mem _ e1))
    have hv1 : gx_ok h.length v := hs v List.mem_cons_self
    cases v with
    | int x =>
      simp only [gi_st, hi, gx_isI] at hT
      exact hrow x p l e R s m args below meth c H locs _ _ Fin ls _ _ hx hb (gx_ll_has hv) hlt (fun ls' hl' => hK _ hT ad H locs ls' hh (hv.set hv1 rfl hl') hs' hc1 hc2)
    | _ =>
      simp only [gi_st, hi, gx_isI] at hT
theorem gs_rst {i : Nat} (hrow : ∀ x : Option Nat, gx_stR cc nL i pc nx (va_rf x)) : gx_s1 (cl, tyl, G, Ts, cc, my, nL, ret) pc (gi_st gx_isR i nx) := by
  rintro ⟨p, l, e, R, s, m, args, below, meth, c⟩ ⟨D, dT, sp, A, n0, ad0⟩ Fin lv st h bc bs K Q C ⟨⟨hx, hb, hml, hown, hnm0, hret⟩, hts, hK0, hA, hlk, hG⟩ hT hK ad H locs ls hh hv hs hc1 hc2
  rcases st with _ | ⟨v, st⟩
  · exact False.elim hT
  cases hi : lv[i]? with
  | none => simp only [gi_st, hi] at hT
  | some o =>
    have hlt : i < nL := Nat.lt_of_lt_of_le (List.getElem?_eq_some_iff.mp hi).1 hv.2.2.1
    have hs' : gx_Rs st h.length := (fun w e1 => hs w (List.mem_cons_of_mem _ e1))
    have hv1 : gx_ok h.length v := hs v List.mem_cons_self
    cases v with
    | ref k =>
      simp only [gi_st, hi, gx_isR] at hT
      exact hrow (some (ad k)) p l e R s m args below meth c H locs _ _ Fin ls _ _ hx hb (gx_ll_has hv) hlt (fun ls' hl' => hK _ hT ad H locs ls' hh (hv.set hv1 rfl hl') hs' hc1 hc2)
    | retAddr k =>
      simp only [gi_st, hi, gx_isR] at hT
      exact hrow (some (sp k)) p l e R s m args below meth c H locs _ _ Fin ls _ _ hx hb (gx_ll_has hv) hlt (fun ls' hl' => hK _ hT ad H locs ls' hh (hv.set hv1 rfl hl') hs' hc1 hc2)
    | null =>
      simp only [gi_st, hi, gx_isR] at hT
      exact hrow none p l e R s m args below meth c H locs _ _ Fin ls _ _ hx hb (gx_ll_has hv) hlt (fun ls' hl' => hK _ hT ad H locs ls' hh (hv.set hv1 rfl hl') hs' hc1 hc2)
    | _ =>
      simp only [gi_st, hi, gx_isR] at hT
theorem gs_inc {i : Nat} {n : Int} (hd : decode cc pc = .ok (.iinc i n, 3)) : gx_s1 (cl, tyl, G, Ts, cc, my, nL, ret) pc (gi_inc i (Int32.ofInt n) (pc + 3)) := by
  rintro ⟨p, l, e, R, s, m, args, below, meth, c⟩ ⟨D, dT, sp, A, n0, ad0⟩ Fin lv st h bc bs K Q C ⟨⟨hx, hb, hml, hown, hnm0, hret⟩, hts, hK0, hA, hlk, hG⟩ hT hK ad H locs ls hh hv hs hc1 hc2
  cases hi : lv[i]? with
  | none => simp only [gi_inc, hi] at hT
  | some o =>
    have hlt : i < nL := Nat.lt_of_lt_of_le (List.getElem?_eq_some_iff.mp hi).1 hv.2.2.1
    cases o with
    | none => simp only [gi_inc, hi] at hT
    | some v =>
      cases v with
      | int x =>
        simp only [gi_inc, hi] at hT
        obtain ⟨k, hk⟩ := List.getElem?_of_mem (gx_ll_mem (sp := sp) (ad := ad) hi)
        exact lv_iinc hx hb hd (gx_ll_has hv) hk rfl hlt rfl (fun ls' hl' => hK _ hT ad H locs ls' hh (hv.set (v := .int (x + Int32.ofInt n)) trivial rfl hl') hs hc1 hc2)
      | _ =>
        simp only [gi_inc, hi] at hT
theorem gs_ifnull {off : Int} {tg : Nat} (hd : decode cc pc = .ok (.ifnull off, 3)) (ht : (pc : Int) + off = (tg : Int)) : gx_s1 (cl, tyl, G, Ts, cc, my, nL, ret) pc (gi_nul tg (pc + 3)) := by
  rintro ⟨p, l, e, R, s, m, args, below, meth, c⟩ ⟨D, dT, sp, A, n0, ad0⟩ Fin lv st h bc bs K Q C ⟨⟨hx, hb, hml, hown, hnm0, hret⟩, hts, hK0, hA, hlk, hG⟩ hT hK ad H locs ls hh hv hs hc1 hc2
  rcases st with _ | ⟨v, st⟩
  · exact False.elim hT
  have hs' : gx_Rs st h.length := (fun w e1 => hs w (List.mem_cons_of_mem _ e1))
  cases v with
  | null => exact lv_ifnullN hx hb hd ht (hK _ hT ad H locs ls hh hv hs' hc1 hc2)
  | ref k => exact lv_ifnull hx hb hd (hK _ hT ad H locs ls hh hv hs' hc1 hc2)
  | _ => exact False.elim hT
theorem gs_ifnonnull {off : Int} {tg : Nat} (hd : decode cc pc = .ok (.ifnonnull off, 3)) (ht : (pc : Int) + off = (tg : Int)) : gx_s1 (cl, tyl, G, Ts, cc, my, nL, ret) pc (gi_nul (pc + 3) tg) := by
  rintro ⟨p, l, e, R, s, m, args, below, meth, c⟩ ⟨D, dT, sp, A, n0, ad0⟩ Fin lv st h bc bs K Q C ⟨⟨hx, hb, hml, hown, hnm0, hret⟩, hts, hK0, hA, hlk, hG⟩ hT hK ad H locs ls hh hv hs hc1 hc2
  rcases st with _ | ⟨v, st⟩
  · exact False.elim hT
  have hs' : gx_Rs st h.length := (fun w e1 => hs w (List.mem_cons_of_mem _ e1))
  cases v with
  | null => exact lv_ifnonnullN hx hb hd (hK _ hT ad H locs ls hh hv hs' hc1 hc2)
  | ref k => exact lv_ifnonnull hx hb hd ht (hK _ hT ad H locs ls hh hv hs' hc1 hc2)
  | _ => exact False.elim hT
theorem gx_narrow {ty : FieldType} {sp ad : Nat → Nat} {v : Value} (h : narrow ty (gx_r v) = gx_r v) : narrow ty (gx_v sp ad v) = gx_v sp ad v := by
  cases v with
  | ref k => cases ty <;> rfl
  | retAddr k => cases ty <;> rfl
  | _ => exact h
theorem gx_fits {ty : FieldType} {sp ad : Nat → Nat} {v : Value} (h : fits ty (gx_r v) = true) : fits ty (gx_v sp ad v) = true := by
  cases v with
  | ref k => cases ty <;> exact h
  | retAddr k => cases ty <;> exact h
  | _ => exact h
theorem gs_get {ci k idx N : Nat} {Cn : String} {T : u_T} (hc : cl[ci]? = some (Cn, T, N)) (hin : ∀ w ∈ u_ws Cn T N, w ∈ Ts) (hk : k < N) (hlink : Cond.fieldLink my.cls idx (T k).1 (T k).2.1 (T k).2.2.1 ∈ Ts) (hd : decode cc pc = .ok (.getfield idx, 3)) : gx_s1 (cl, tyl, G, Ts, cc, my, nL, ret) pc (gi_get ci k (pc + 3)) := by
  rintro ⟨p, l, e, R, s, m, args, below, meth, c⟩ ⟨D, dT, sp, A, n0, ad0⟩ Fin lv st h bc bs K Q C ⟨⟨hx, hb, hml, hown, hnm0, hret⟩, hts, hK0, hA, hlk, hG⟩ hT hK ad H locs ls hh hv hs hc1 hc2
  rcases st with _ | ⟨v0, st⟩
  · exact False.elim hT
  cases v0 with
  | ref a =>
    cases hcell : h[a]? with
    | none => simp only [gi_get, hcell] at hT
    | some ce =>
      obtain ⟨t0, x0⟩ | ⟨c0, fs⟩ := ce
      · simp only [gi_get, hcell] at hT
      · cases hb1 : Nat.beq c0 ci with
        | false => simp only [gi_get, hcell, hb1] at hT
        | true =>
          cases hf : fs[k]? with
          | none => simp only [gi_get, hcell, hb1, hf] at hT
          | some v =>
            simp only [gi_get, hcell, hb1, hf] at hT
            have e0 : c0 = ci := Nat.eq_of_beq_eq_true hb1
            subst e0
            obtain ⟨hP, hD, hS, hok, hn0, had⟩ := id hh
            have hvok : gx_ok h.length v := hok a _ hcell v (List.mem_of_getElem? hf)
            exact va_get hx hb hts hin hown hK0 hP a (gx_w_at hcell) hc k hk (hts _ hlink) (fun _ q => q) (v := gx_v sp ad v) (by rw [List.getElem?_map, hf]; rfl) hd (hK _ hT ad H locs ls hh hv (fun w hm => by
          rcases List.mem_cons.mp hm with e1 | e1
          · rw [e1]; exact hvok
          · exact hs w (List.mem_cons_of_mem _ e1)) hc1 hc2)
  | _ => exact False.elim hT
theorem gs_getN {ci k idx N : Nat} {Cn host : String} {T : u_T} (hc : cl[ci]? = some (Cn, T, N)) (hin : ∀ w ∈ u_ws Cn T N, w ∈ Ts) (hk : k < N) (hlink : Cond.fieldLinkNest my.cls idx (T k).1 (T k).2.1 (T k).2.2.1 host ∈ Ts) (hd : decode cc pc = .ok (.getfield idx, 3)) : gx_s1 (cl, tyl, G, Ts, cc, my, nL, ret) pc (gi_get ci k (pc + 3)) := by
  rintro ⟨p, l, e, R, s, m, args, below, meth, c⟩ ⟨D, dT, sp, A, n0, ad0⟩ Fin lv st h bc bs K Q C ⟨⟨hx, hb, hml, hown, hnm0, hret⟩, hts, hK0, hA, hlk, hG⟩ hT hK ad H locs ls hh hv hs hc1 hc2
  rcases st with _ | ⟨v0, st⟩
  · exact False.elim hT
  cases v0 with
  | ref a =>
    cases hcell : h[a]? with
    | none => simp only [gi_get, hcell] at hT
    | some ce =>
      obtain ⟨t0, x0⟩ | ⟨c0, fs⟩ := ce
      · simp only [gi_get, hcell] at hT
      · cases hb1 : Nat.beq c0 ci with
        | false => simp only [gi_get, hcell, hb1] at hT
        | true =>
          cases hf : fs[k]? with
          | none => simp only [gi_get, hcell, hb1, hf] at hT
          | some v =>
            simp only [gi_get, hcell, hb1, hf] at hT
            have e0 : c0 = ci := Nat.eq_of_beq_eq_true hb1
            subst e0
            obtain ⟨hP, hD, hS, hok, hn0, had⟩ := id hh
            have hvok : gx_ok h.length v := hok a _ hcell v (List.mem_of_getElem? hf)
            exact va_getN hx hb hts hin hown hK0 hP a (gx_w_at hcell) hc k hk (hts _ hlink) (fun _ q => q) (v := gx_v sp ad v) (by rw [List.getElem?_map, hf]; rfl) hd (hK _ hT ad H locs ls hh hv (fun w hm => by
          rcases List.mem_cons.mp hm with e1 | e1
          · rw [e1]; exact hvok
          · exact hs w (List.mem_cons_of_mem _ e1)) hc1 hc2)
  | _ => exact False.elim hT
theorem gs_putF {ci k idx N : Nat} {Cn : String} {T : u_T} {ty : FieldType} (hc : cl[ci]? = some (Cn, T, N)) (hin : ∀ w ∈ u_ws Cn T N, w ∈ Ts) (ty0 : Nat → FieldType) (hty : ∀ k, k < N → parseFieldDescriptor (T k).2.2.1 = some (ty0 k)) (hnm : ∀ a, a < N → ∀ b, b < N → a ≠ b → (T a).2.1 ≠ (T b).2.1) (hk : k < N) (hty1 : parseFieldDescriptor (T k).2.2.1 = some ty) (hlink : Cond.fieldLink my.cls idx (T k).1 (T k).2.1 (T k).2.2.1 ∈ Ts) (hfin : (T k).2.2.2 = true) (hini : my.name = "<init>") (hdecl : (T k).1 = my.cls) (hd : decode cc pc = .ok (.putfield idx, 3)) : gx_s1 (cl, tyl, G, Ts, cc, my, nL, ret) pc (gi_put ci k ty (pc + 3)) := by
  rintro ⟨p, l, e, R, s, m, args, below, meth, c⟩ ⟨D, dT, sp, A, n0, ad0⟩ Fin lv st h bc bs K Q C ⟨⟨hx, hb, hml, hown, hnm0, hret⟩, hts, hK0, hA, hlk, hG⟩ hT hK ad H locs ls hh hv hs hc1 hc2
  rcases st with _ | ⟨v, _ | ⟨v0, st⟩⟩
  · exact False.elim hT
  · exact False.elim hT
  cases v0 with
  | ref a =>
    cases hcell : h[a]? with
    | none => simp only [gi_put, hcell] at hT
    | some ce =>
      obtain ⟨t0, x0⟩ | ⟨c0, fs⟩ := ce
      · simp only [gi_put, hcell] at hT
      · cases hb1 : Nat.beq c0 ci with
        | false => simp only [gi_put, hcell, hb1] at hT
        | true =>
          cases hf : fs[k]? with
          | none => simp only [gi_put, hcell, hb1, hf] at hT
          | some v1 =>
            simp only [gi_put, hcell, hb1, hf] at hT
            have e0 : c0 = ci := Nat.eq_of_beq_eq_true hb1
            subst e0
            obtain ⟨⟨hna, hfi⟩, hT⟩ := hT
            obtain ⟨hP, hD, hS, hok, hn0, had⟩ := id hh
            have hvok : gx_ok h.length v := hs v List.mem_cons_self
            have hkl : k < fs.length := (List.getElem?_eq_some_iff.mp hf).1
            have ew : ∀ fs' : List Value, fs' = (fs.map (gx_v sp ad)).set k (gx_v sp ad v) → (gx_w dT sp ad h).set a (ad a, .inr (c0, fs')) = gx_w dT sp ad (h.set a (.inr (c0, fs.set k v))) := fun fs' e1 => by
              rw [← gx_w_set]
              show _ = (gx_w dT sp ad h).set a (ad a, Sum.inr (c0, (fs.set k v).map (gx_v sp ad)))
              rw [e1, List.map_set]
            refine va_putF hx hb hts hin ty0 hty hnm hown hK0 hP hD hS a (gx_w_at hcell) hc k hk (hts _ hlink) (fun _ q => q) hfin (hnm0.trans hini) hdecl (ty := ty) (v := gx_v sp ad v) hty1 (gx_narrow hna) (gx_fits hfi) (by rw [List.length_map]; exact hkl) hd (fun H1 locs1 hP1 hD1 hS1 => ?_)
            have el : (h.set a (.inr (c0, fs.set k v))).length = h.length := List.length_set
            rw [ew _ rfl] at hP1 hD1
            refine hK _ hT ad H1 locs1 ls ⟨hP1, hD1, hS1, hok.set (fun u hu => ?_), by rw [el]; exact hn0, had⟩ (by rw [el]; exact hv) (by rw [el]; exact (fun w e1 => hs w (List.mem_cons_of_mem _ (List.mem_cons_of_mem _ e1)))) hc1 hc2
            rcases List.mem_or_eq_of_mem_set hu with h9 | h9
            · exact hok a _ hcell u h9
            · rw [h9]; exact hvok
  | _ => exact False.elim hT
theorem gs_put {ci k idx N : Nat} {Cn : String} {T : u_T} {ty : FieldType} (hc : cl[ci]? = some (Cn, T, N)) (hin : ∀ w ∈ u_ws Cn T N, w ∈ Ts) (ty0 : Nat → FieldType) (hty : ∀ k, k < N → parseFieldDescriptor (T k).2.2.1 = some (ty0 k)) (hnm : ∀ a, a < N → ∀ b, b < N → a ≠ b → (T a).2.1 ≠ (T b).2.1) (hk : k < N) (hty1 : parseFieldDescriptor (T k).2.2.1 = some ty) (hlink : Cond.fieldLink my.cls idx (T k).1 (T k).2.1 (T k).2.2.1 ∈ Ts) (hfin : (T k).2.2.2 = false) (hd : decode cc pc = .ok (.putfield idx, 3)) : gx_s1 (cl, tyl, G, Ts, cc, my, nL, ret) pc (gi_put ci k ty (pc + 3)) := by
  rintro ⟨p, l, e, R, s, m, args, below, meth, c⟩ ⟨D, dT, sp, A, n0, ad0⟩ Fin lv st h bc bs K Q C ⟨⟨hx, hb, hml, hown, hnm0, hret⟩, hts, hK0, hA, hlk, hG⟩ hT hK ad H locs ls hh hv hs hc1 hc2
  rcases st with _ | ⟨v, _ | ⟨v0, st⟩⟩
  · exact False.elim hT
  · exact False.elim hT
  cases v0 with
  | ref a =>
    cases hcell : h[a]? with
    | none => simp only [gi_put, hcell] at hT
    | some ce =>
      obtain ⟨t0, x0⟩ | ⟨c0, fs⟩ := ce
      · simp only [gi_put, hcell] at hT
      · cases hb1 : Nat.beq c0 ci with
        | false => simp only [gi_put, hcell, hb1] at hT
        | true =>
          cases hf : fs[k]? with
          | none => simp only [gi_put, hcell, hb1, hf] at hT
          | some v1 =>
            simp only [gi_put, hcell, hb1, hf] at hT
            have e0 : c0 = ci := Nat.eq_of_beq_eq_true hb1
            subst e0
            obtain ⟨⟨hna, hfi⟩, hT⟩ := hT
            obtain ⟨hP, hD, hS, hok, hn0, had⟩ := id hh
            have hvok : gx_ok h.length v := hs v List.mem_cons_self
            have hkl : k < fs.length := (List.getElem?_eq_some_iff.mp hf).1
            have ew : ∀ fs' : List Value, fs' = (fs.map (gx_v sp ad)).set k (gx_v sp ad v) → (gx_w dT sp ad h).set a (ad a, .inr (c0, fs')) = gx_w dT sp ad (h.set a (.inr (c0, fs.set k v))) := fun fs' e1 => by
              rw [← gx_w_set]
              show _ = (gx_w dT sp ad h).set a (ad a, Sum.inr (c0, (fs.set k v).map (gx_v sp ad)))
              rw [e1, List.map_set]
            refine va_put hx hb hts hin ty0 hty hnm hown hK0 hP hD hS a (gx_w_at hcell) hc k hk (hts _ hlink) (fun _ q => q) hfin (ty := ty) (v := gx_v sp ad v) hty1 (gx_narrow hna) (gx_fits hfi) (by rw [List.length_map]; exact hkl) hd (fun H1 locs1 hP1 hD1 hS1 => ?_)
            have el : (h.set a (.inr (c0, fs.set k v))).length = h.length := List.length_set
            rw [ew _ rfl] at hP1 hD1
            refine hK _ hT ad H1 locs1 ls ⟨hP1, hD1, hS1, hok.set (fun u hu => ?_), by rw [el]; exact hn0, had⟩ (by rw [el]; exact hv) (by rw [el]; exact (fun w e1 => hs w (List.mem_cons_of_mem _ (List.mem_cons_of_mem _ e1)))) hc1 hc2
            rcases List.mem_or_eq_of_mem_set hu with h9 | h9
            · exact hok a _ hcell u h9
            · rw [h9]; exact hvok
  | _ => exact False.elim hT
theorem gs_iald {t : Nat} (ht : tyl[t]? = some .int) (hd : decode cc pc = .ok (.iaload, 1)) : gx_s1 (cl, tyl, G, Ts, cc, my, nL, ret) pc (gi_ald t (pc + 1)) := by
  rintro ⟨p, l, e, R, s, m, args, below, meth, c⟩ ⟨D, dT, sp, A, n0, ad0⟩ Fin lv st h bc bs K Q C ⟨⟨hx, hb, hml, hown, hnm0, hret⟩, hts, hK0, hA, hlk, hG⟩ hT hK ad H locs ls hh hv hs hc1 hc2
  rcases st with _ | ⟨v0, st⟩
  · exact False.elim hT
  cases v0 with
  | int i =>
    rcases st with _ | ⟨v1, st⟩
    · exact False.elim hT
    cases v1 with
    | ref a =>
      cases hcell : h[a]? with
      | none => simp only [gi_ald, hcell] at hT
      | some ce =>
        obtain ⟨t0, n, f | x0⟩ | ⟨c0, fs⟩ := ce
        · cases hb1 : Nat.beq t0 t with
          | false => simp only [gi_ald, hcell, hb1] at hT
          | true =>
            simp only [gi_ald, hcell, hb1] at hT
            have e0 : t0 = t := Nat.eq_of_beq_eq_true hb1
            subst e0
            exact va_iald hx hb hK0 hh.1 a t0 (gx_w_at hcell) (gx_ty_at ht) hT.1 hd (hK _ hT.2 ad H locs ls hh hv (fun w hm => by
          rcases List.mem_cons.mp hm with e1 | e1
          · rw [e1]; trivial
          · exact hs w (List.mem_cons_of_mem _ (List.mem_cons_of_mem _ e1))) hc1 hc2)
        · simp only [gi_ald, hcell] at hT
        · simp only [gi_ald, hcell] at hT
    | _ => exact False.elim hT
  | _ => exact False.elim hT
theorem gs_cald {t : Nat} (ht : tyl[t]? = some .char) (hd : decode cc pc = .ok (.caload, 1)) : gx_s1 (cl, tyl, G, Ts, cc, my, nL, ret) pc (gi_ald t (pc + 1)) := by
  rintro ⟨p, l, e, R, s, m, args, below, meth, c⟩ ⟨D, dT, sp, A, n0, ad0⟩ Fin lv st h bc bs K Q C ⟨⟨hx, hb, hml, hown, hnm0, hret⟩, hts, hK0, hA, hlk, hG⟩ hT hK ad H locs ls hh hv hs hc1 hc2
  rcases st with _ | ⟨v0, st⟩
  · exact False.elim hT
  cases v0 with
  | int i =>
    rcases st with _ | ⟨v1, st⟩
    · exact False.elim hT
    cases v1 with
    | ref a =>
      cases hcell : h[a]? with
      | none => simp only [gi_ald, hcell] at hT
      | some ce =>
        obtain ⟨t0, n, f | x0⟩ | ⟨c0, fs⟩ := ce
        · cases hb1 : Nat.beq t0 t with
          | false => simp only [gi_ald, hcell, hb1] at hT
          | true =>
            simp only [gi_ald, hcell, hb1] at hT
            have e0 : t0 = t := Nat.eq_of_beq_eq_true hb1
            subst e0
            exact va_cald hx hb hK0 hh.1 a t0 (gx_w_at hcell) (gx_ty_at ht) hT.1 hd (hK _ hT.2 ad H locs ls hh hv (fun w hm => by
          rcases List.mem_cons.mp hm with e1 | e1
          · rw [e1]; trivial
          · exact hs w (List.mem_cons_of_mem _ (List.mem_cons_of_mem _ e1))) hc1 hc2)
        · simp only [gi_ald, hcell] at hT
        · simp only [gi_ald, hcell] at hT
    | _ => exact False.elim hT
  | _ => exact False.elim hT
theorem gs_zald {t : Nat} (ht : tyl[t]? = some .boolean) (hd : decode cc pc = .ok (.baload, 1)) : gx_s1 (cl, tyl, G, Ts, cc, my, nL, ret) pc (gi_ald t (pc + 1)) := by
  rintro ⟨p, l, e, R, s, m, args, below, meth, c⟩ ⟨D, dT, sp, A, n0, ad0⟩ Fin lv st h bc bs K Q C ⟨⟨hx, hb, hml, hown, hnm0, hret⟩, hts, hK0, hA, hlk, hG⟩ hT hK ad H locs ls hh hv hs hc1 hc2
  rcases st with _ | ⟨v0, st⟩
  · exact False.elim hT
  cases v0 with
  | int i =>
    rcases st with _ | ⟨v1, st⟩
    · exact False.elim hT
    cases v1 with
    | ref a =>
      cases hcell : h[a]? with
      | none => simp only [gi_ald, hcell] at hT
      | some ce =>
        obtain ⟨t0, n, f | x0⟩ | ⟨c0, fs⟩ := ce
        · cases hb1 : Nat.beq t0 t with
          | false => simp only [gi_ald, hcell, hb1] at hT
          | true =>
            simp only [gi_ald, hcell, hb1] at hT
            have e0 : t0 = t := Nat.eq_of_beq_eq_true hb1
            subst e0
            exact va_zald hx hb hK0 hh.1 a t0 (gx_w_at hcell) (gx_ty_at ht) hT.1 hd (hK _ hT.2 ad H locs ls hh hv (fun w hm => by
          rcases List.mem_cons.mp hm with e1 | e1
          · rw [e1]; trivial
          · exact hs w (List.mem_cons_of_mem _ (List.mem_cons_of_mem _ e1))) hc1 hc2)
        · simp only [gi_ald, hcell] at hT
        · simp only [gi_ald, hcell] at hT
    | _ => exact False.elim hT
  | _ => exact False.elim hT
theorem gs_iast {t : Nat} (ht : tyl[t]? = some .int) (hd : decode cc pc = .ok (.iastore, 1)) : gx_s1 (cl, tyl, G, Ts, cc, my, nL, ret) pc (gi_ast t (fun z => z) (pc + 1)) := by
  rintro ⟨p, l, e, R, s, m, args, below, meth, c⟩ ⟨D, dT, sp, A, n0, ad0⟩ Fin lv st h bc bs K Q C ⟨⟨hx, hb, hml, hown, hnm0, hret⟩, hts, hK0, hA, hlk, hG⟩ hT hK ad H locs ls hh hv hs hc1 hc2
  rcases st with _ | ⟨v0, st⟩
  · exact False.elim hT
  cases v0 with
  | int x =>
    rcases st with _ | ⟨v1, st⟩
    · exact False.elim hT
    cases v1 with
    | int i =>
      rcases st with _ | ⟨v2, st⟩
      · exact False.elim hT
      cases v2 with
      | ref a =>
        cases hcell : h[a]? with
        | none => simp only [gi_ast, hcell] at hT
        | some ce =>
          obtain ⟨t0, n, f | x0⟩ | ⟨c0, fs⟩ := ce
          · cases hb1 : Nat.beq t0 t with
            | false => simp only [gi_ast, hcell, hb1] at hT
            | true =>
              simp only [gi_ast, hcell, hb1] at hT
              have e0 : t0 = t := Nat.eq_of_beq_eq_true hb1
              subst e0
              obtain ⟨hP, hD, hS, hok, hn0, had⟩ := id hh
              refine va_iast hx hb hK0 hP hD hS a t0 (gx_w_at hcell) (gx_ty_at ht) hT.1 hd (fun H1 locs1 hP1 hD1 hS1 => ?_)
              have ew : (gx_w dT sp ad h).set a (ad a, .inl (dT t0, n, .inl (upd f i.toNatClampNeg ((fun z => z) x)))) = gx_w dT sp ad (h.set a (.inl (t0, n, .inl (upd f i.toNatClampNeg ((fun z => z) x))))) := gx_w_set dT sp ad h a (.inl (t0, n, .inl (upd f i.toNatClampNeg ((fun z => z) x))))
              have el : (h.set a (.inl (t0, n, .inl (upd f i.toNatClampNeg ((fun z => z) x))))).length = h.length := List.length_set
              have hP1' : va_P D cl (gx_w dT sp ad (h.set a (.inl (t0, n, .inl (upd f i.toNatClampNeg ((fun z => z) x)))))) H1 := by rw [← ew]; exact hP1
              have hD1' : va_D A (gx_w dT sp ad (h.set a (.inl (t0, n, .inl (upd f i.toNatClampNeg ((fun z => z) x)))))) := by rw [← ew]; exact hD1
              exact hK _ hT.2 ad H1 locs1 ls ⟨hP1', hD1', hS1, hok.set trivial, by rw [el]; exact hn0, had⟩ (by rw [el]; exact hv) (by rw [el]; exact (fun w e1 => hs w (List.mem_cons_of_mem _ (List.mem_cons_of_mem _ (List.mem_cons_of_mem _ e1))))) hc1 hc2
          · simp only [gi_ast, hcell] at hT
          · simp only [gi_ast, hcell] at hT
      | _ => exact False.elim hT
    | _ => exact False.elim hT
  | _ => exact False.elim hT
theorem gs_cast {t : Nat} (ht : tyl[t]? = some .char) (hd : decode cc pc = .ok (.castore, 1)) : gx_s1 (cl, tyl, G, Ts, cc, my, nL, ret) pc (gi_ast t (vp_nar .char) (pc + 1)) := by
  rintro ⟨p, l, e, R, s, m, args, below, meth, c⟩ ⟨D, dT, sp, A, n0, ad0⟩ Fin lv st h bc bs K Q C ⟨⟨hx, hb, hml, hown, hnm0, hret⟩, hts, hK0, hA, hlk, hG⟩ hT hK ad H locs ls hh hv hs hc1 hc2
  rcases st with _ | ⟨v0, st⟩
  · exact False.elim hT
  cases v0 with
  | int x =>
    rcases st with _ | ⟨v1, st⟩
    · exact False.elim hT
    cases v1 with
    | int i =>
      rcases st with _ | ⟨v2, st⟩
      · exact False.elim hT
      cases v2 with
      | ref a =>
        cases hcell : h[a]? with
        | none => simp only [gi_ast, hcell] at hT
        | some ce =>
          obtain ⟨t0, n, f | x0⟩ | ⟨c0, fs⟩ := ce
          · cases hb1 : Nat.beq t0 t with
            | false => simp only [gi_ast, hcell, hb1] at hT
            | true =>
              simp only [gi_ast, hcell, hb1] at hT
              have e0 : t0 = t := Nat.eq_of_beq_eq_true hb1
              subst e0
              obtain ⟨hP, hD, hS, hok, hn0, had⟩ := id hh
              refine va_cast hx hb hK0 hP hD hS a t0 (gx_w_at hcell) (gx_ty_at ht) hT.1 hd (fun H1 locs1 hP1 hD1 hS1 => ?_)
              have ew : (gx_w dT sp ad h).set a (ad a, .inl (dT t0, n, .inl (upd f i.toNatClampNeg ((vp_nar .char) x)))) = gx_w dT sp ad (h.set a (.inl (t0, n, .inl (upd f i.toNatClampNeg ((vp_nar .char) x))))) := gx_w_set dT sp ad h a (.inl (t0, n, .inl (upd f i.toNatClampNeg ((vp_nar .char) x))))
              have el : (h.set a (.inl (t0, n, .inl (upd f i.toNatClampNeg ((vp_nar .char) x))))).length = h.length := List.length_set
              have hP1' : va_P D cl (gx_w dT sp ad (h.set a (.inl (t0, n, .inl (upd f i.toNatClampNeg ((vp_nar .char) x)))))) H1 := by rw [← ew]; exact hP1
              have hD1' : va_D A (gx_w dT sp ad (h.set a (.inl (t0, n, .inl (upd f i.toNatClampNeg ((vp_nar .char) x)))))) := by rw [← ew]; exact hD1
              exact hK _ hT.2 ad H1 locs1 ls ⟨hP1', hD1', hS1, hok.set trivial, by rw [el]; exact hn0, had⟩ (by rw [el]; exact hv) (by rw [el]; exact (fun w e1 => hs w (List.mem_cons_of_mem _ (List.mem_cons_of_mem _ (List.mem_cons_of_mem _ e1))))) hc1 hc2
          · simp only [gi_ast, hcell] at hT
          · simp only [gi_ast, hcell] at hT
      | _ => exact False.elim hT
    | _ => exact False.elim hT
  | _ => exact False.elim hT
theorem gs_zast {t : Nat} (ht : tyl[t]? = some .boolean) (hd : decode cc pc = .ok (.bastore, 1)) : gx_s1 (cl, tyl, G, Ts, cc, my, nL, ret) pc (gi_ast t (vp_nar .boolean) (pc + 1)) := by
  rintro ⟨p, l, e, R, s, m, args, below, meth, c⟩ ⟨D, dT, sp, A, n0, ad0⟩ Fin lv st h bc bs K Q C ⟨⟨hx, hb, hml, hown, hnm0, hret⟩, hts, hK0, hA, hlk, hG⟩ hT hK ad H locs ls hh hv hs hc1 hc2
  rcases st with _ | ⟨v0, st⟩
  · exact False.elim hT
  cases v0 with
  | int x =>
    rcases st with _ | ⟨v1, st⟩
    · exact False.elim hT
    cases v1 with
    | int i =>
      rcases st with _ | ⟨v2, st⟩
      · exact False.elim hT
      cases v2 with
      | ref a =>
        cases hcell : h[a]? with
        | none => simp only [gi_ast, hcell] at hT
        | some ce =>
          obtain ⟨t0, n, f | x0⟩ | ⟨c0, fs⟩ := ce
          · cases hb1 : Nat.beq t0 t with
            | false => simp only [gi_ast, hcell, hb1] at hT
            | true =>
              simp only [gi_ast, hcell, hb1] at hT
              have e0 : t0 = t := Nat.eq_of_beq_eq_true hb1
              subst e0
              obtain ⟨hP, hD, hS, hok, hn0, had⟩ := id hh
              refine va_zast hx hb hK0 hP hD hS a t0 (gx_w_at hcell) (gx_ty_at ht) hT.1 hd (fun H1 locs1 hP1 hD1 hS1 => ?_)
              have ew : (gx_w dT sp ad h).set a (ad a, .inl (dT t0, n, .inl (upd f i.toNatClampNeg ((vp_nar .boolean) x)))) = gx_w dT sp ad (h.set a (.inl (t0, n, .inl (upd f i.toNatClampNeg ((vp_nar .boolean) x))))) := gx_w_set dT sp ad h a (.inl (t0, n, .inl (upd f i.toNatClampNeg ((vp_nar .boolean) x))))
              have el : (h.set a (.inl (t0, n, .inl (upd f i.toNatClampNeg ((vp_nar .boolean) x))))).length = h.length := List.length_set
              have hP1' : va_P D cl (gx_w dT sp ad (h.set a (.inl (t0, n, .inl (upd f i.toNatClampNeg ((vp_nar .boolean) x)))))) H1 := by rw [← ew]; exact hP1
              have hD1' : va_D A (gx_w dT sp ad (h.set a (.inl (t0, n, .inl (upd f i.toNatClampNeg ((vp_nar .boolean) x)))))) := by rw [← ew]; exact hD1
              exact hK _ hT.2 ad H1 locs1 ls ⟨hP1', hD1', hS1, hok.set trivial, by rw [el]; exact hn0, had⟩ (by rw [el]; exact hv) (by rw [el]; exact (fun w e1 => hs w (List.mem_cons_of_mem _ (List.mem_cons_of_mem _ (List.mem_cons_of_mem _ e1))))) hc1 hc2
          · simp only [gi_ast, hcell] at hT
          · simp only [gi_ast, hcell] at hT
      | _ => exact False.elim hT
    | _ => exact False.elim hT
  | _ => exact False.elim hT
end GXS
