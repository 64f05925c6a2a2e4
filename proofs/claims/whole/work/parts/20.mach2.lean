/-! More instructions: longs, arrays of references, lengths, throws, copies, calls that never throw. Written by wip/tools/mach2.py. -/
def gi_lald (t nx : Nat) : gx_T := fun S K _ _ => match S with
  | (_, lv, .int i :: .ref a :: st, h, bc, bs) => match h[a]? with
    | some (.inl (t', n, .inr (.inl f))) => match Nat.beq t' t with
      | true => vp_in i n ∧ K (nx, lv, .long (f i.toNatClampNeg) :: st, h, bc, bs)
      | false => False
    | _ => False
  | _ => False
def gi_last (t nx : Nat) : gx_T := fun S K _ _ => match S with
  | (_, lv, .long x :: .int i :: .ref a :: st, h, bc, bs) => match h[a]? with
    | some (.inl (t', n, .inr (.inl f))) => match Nat.beq t' t with
      | true => vp_in i n ∧ K (nx, lv, st, h.set a (.inl (t', n, .inr (.inl (vp_updL f i.toNatClampNeg x)))), bc, bs)
      | false => False
    | _ => False
  | _ => False
def gi_lbin (f : Int64 → Int64 → Int64) (nx : Nat) : gx_T := fun S K _ _ => match S with
  | (_, lv, .long y :: .long x :: st, h, bc, bs) => K (nx, lv, .long (f x y) :: st, h, bc, bs)
  | _ => False
def gi_lsh (f : Int64 → Int32 → Int64) (nx : Nat) : gx_T := fun S K _ _ => match S with
  | (_, lv, .int y :: .long x :: st, h, bc, bs) => K (nx, lv, .long (f x y) :: st, h, bc, bs)
  | _ => False
def gi_i2l (nx : Nat) : gx_T := fun S K _ _ => match S with
  | (_, lv, .int x :: st, h, bc, bs) => K (nx, lv, .long x.toInt64 :: st, h, bc, bs)
  | _ => False
/-- a new array of longs -/
def gi_newl (t nx : Nat) : gx_T := fun S K _ _ => match S with
  | (_, lv, .int n :: st, h, bc, bs) => (¬ n < 0 ∧ n.toNatClampNeg * 8 ≤ 536870912) ∧ (1 ≤ bc ∧ n.toNatClampNeg ≤ bs) ∧ K (nx, lv, .ref h.length :: st, h ++ [.inl (t, n.toNatClampNeg, .inr (.inl (fun _ => 0)))], bc - 1, bs - n.toNatClampNeg)
  | _ => False
/-- an array of references -/
def gi_newr (t nx : Nat) : gx_T := fun S K _ _ => match S with
  | (_, lv, .int n :: st, h, bc, bs) => (¬ n < 0 ∧ n.toNatClampNeg * 8 ≤ 536870912) ∧ (1 ≤ bc ∧ n.toNatClampNeg ≤ bs) ∧ K (nx, lv, .ref h.length :: st, h ++ [.inl (t, n.toNatClampNeg, .inr (.inr (.inr (.inr (fun _ => none)))))], bc - 1, bs - n.toNatClampNeg)
  | _ => False
def gi_rald (t nx : Nat) : gx_T := fun S K _ _ => match S with
  | (_, lv, .int i :: .ref a :: st, h, bc, bs) => match h[a]? with
    | some (.inl (t', n, .inr (.inr (.inr (.inr f))))) => match Nat.beq t' t with
      | true => vp_in i n ∧ (f i.toNatClampNeg = none → K (nx, lv, .null :: st, h, bc, bs)) ∧ (∀ k, f i.toNatClampNeg = some k → K (nx, lv, .ref k :: st, h, bc, bs))
      | false => False
    | _ => False
  | _ => False
/-- a cell of one of the classes cs, or null -/
def gi_rast (t : Nat) (cs : List Nat) (nx : Nat) : gx_T := fun S K _ _ => match S with
  | (_, lv, .null :: .int i :: .ref a :: st, h, bc, bs) => match h[a]? with
    | some (.inl (t', n, .inr (.inr (.inr (.inr f))))) => match Nat.beq t' t with
      | true => vp_in i n ∧ K (nx, lv, st, h.set a (.inl (t', n, .inr (.inr (.inr (.inr (va_up f i.toNatClampNeg none)))))), bc, bs)
      | false => False
    | _ => False
  | (_, lv, .ref b :: .int i :: .ref a :: st, h, bc, bs) => match h[a]? with
    | some (.inl (t', n, .inr (.inr (.inr (.inr f))))) => match Nat.beq t' t with
      | true => (∃ c fs, h[b]? = some (.inr (c, fs)) ∧ c ∈ cs) ∧ vp_in i n ∧ K (nx, lv, st, h.set a (.inl (t', n, .inr (.inr (.inr (.inr (va_up f i.toNatClampNeg (some b))))))), bc, bs)
      | false => False
    | _ => False
  | _ => False
/-- a length, of an array of one of the first nT tags -/
def gi_alenT (nT nx : Nat) : gx_T := fun S K _ _ => match S with
  | (_, lv, .ref a :: st, h, bc, bs) => match h[a]? with
    | some (.inl (t', x)) => match Nat.blt t' nT with
      | true => K (nx, lv, .int (Int32.ofNat x.1) :: st, h, bc, bs)
      | false => False
    | _ => False
  | _ => False
def gi_aret : gx_T := fun S _ Q _ => match S with
  | (_, _, [v], h, _, _) => match gx_isR v with
    | true => Q (.inl (some v), h)
    | false => False
  | _ => False
/-- throw new E() -/
def gi_thr (E : String) : gx_T := fun S _ Q _ => match S with
  | (_, _, st, h, bc, bs) => match Nat.ble (st.map Value.category).sum 8 with
    | true => (1 ≤ bc ∧ 6 ≤ bs) ∧ Q (.inr E, h)
    | false => False
/-- Math.max -/
def gi_max (nx : Nat) : gx_T := fun S K _ _ => match S with
  | (_, lv, .int y :: .int x :: st, h, bc, bs) => match Nat.ble (st.map Value.category).sum 8 with
    | true => K (nx, lv, .int (if x < y then y else x) :: st, h, bc, bs)
    | false => False
  | _ => False
/-- System.arraycopy between two arrays of tag t -/
def gi_copy (t : Nat) (fit : Int32 → Prop) (nx : Nat) : gx_T := fun S K _ _ => match S with
  | (_, lv, .int n :: .int dp :: .ref a1 :: .int sp :: .ref a0 :: st, h, bc, bs) => match h[a0]?, h[a1]? with
    | some (.inl (t0, n0, .inl f)), some (.inl (t1, n1, .inl g)) => match Nat.beq t0 t, Nat.beq t1 t, Nat.ble (st.map Value.category).sum 8 with
      | true, true, true => ((¬ sp < 0 ∧ ¬ dp < 0 ∧ ¬ n < 0) ∧ sp.toNatClampNeg + n.toNatClampNeg ≤ n0 ∧ dp.toNatClampNeg + n.toNatClampNeg ≤ n1 ∧ ∀ i, i < n.toNatClampNeg → fit (f (sp.toNatClampNeg + i))) ∧
          K (nx, lv, st, h.set a1 (.inl (t1, n1, .inl (va_cpy f g sp.toNatClampNeg dp.toNatClampNeg n.toNatClampNeg))), bc, bs)
      | _, _, _ => False
    | _, _ => False
  | _ => False
/-- behind a call that never throws -/
def gx_k1 (lv : List (Option Value)) (st : List Value) (nx bc bs : Nat) (K : gx_S → Prop) : gx_R → Prop := fun r => match r with
  | (.inl none, h) => K (nx, lv, st, h, bc, bs)
  | (.inl (some v), h) => K (nx, lv, v :: st, h, bc, bs)
  | _ => False
def gi_pcall (m' n nL nx : Nat) : gx_T := fun S K _ C => match S with
  | (_, lv, st, h, bc, bs) => gi_callK m' n nL st h bc bs (fun kc ks => gx_k1 lv (st.drop n) nx (bc - kc) (bs - ks) K) C
/-- a call by the receiver's class that never throws -/
def gi_vpcall (sel : Nat → Option (Nat × Nat)) (k nx : Nat) : gx_T := fun S K _ C => match S with
  | (_, lv, st, h, bc, bs) => match st[k]? with
    | some (.ref a) => match h[a]? with
      | some (.inr (c, _)) => match sel c with
        | some (m', nL) => gi_callK m' (k + 1) nL st h bc bs (fun kc ks => gx_k1 lv (st.drop (k + 1)) nx (bc - kc) (bs - ks) K) C
        | none => False
      | _ => False
    | _ => False
/-- checkcast of a cell of one of the classes cs -/
def gi_cast (cs : List Nat) (nx : Nat) : gx_T := fun S K _ _ => match S with
  | (_, lv, .null :: st, h, bc, bs) => K (nx, lv, .null :: st, h, bc, bs)
  | (_, lv, .ref a :: st, h, bc, bs) => (∃ c fs, h[a]? = some (.inr (c, fs)) ∧ c ∈ cs) ∧ K (nx, lv, .ref a :: st, h, bc, bs)
  | _ => False
section GXM
variable {cl : List vw_C} {tyl : List FieldType} {Ts : List Cond} {G : (Nat → Nat) → (Nat → Prop) → State → Heap → Prop} {cc : ByteArray} {my : MethodName} {nL : Nat} {ret : Option FieldType} {pc nx : Nat} {l : Launch} {zs : Nat → gx_M}
theorem gs_lbin {f : Int64 → Int64 → Int64} (hrow : ∀ (ls : Array Slot) (rest : List Value) (a b : Int64), gx_go cc (fun m => F0 m pc ls (.long b :: .long a :: rest)) (fun m => F0 m nx ls (.long (f a b) :: rest))) : gx_s1 (cl, tyl, G, Ts, cc, my, nL, ret) pc (gi_lbin f nx) := by
  rintro ⟨p, l, e, R, s, m, args, below, meth, c⟩ ⟨D, dT, sp, A, n0, ad0⟩ Fin lv st h bc bs K Q C ⟨⟨hx, hb, hml, hown, hnm0, hret⟩, hts, hK0, hA, hlk, hG⟩ hT hK ad H locs ls hh hv hs hc1 hc2
  rcases st with _ | ⟨v, st⟩
  · exact False.elim hT
  cases v with
  | long b =>
    rcases st with _ | ⟨v, st⟩
    · exact False.elim hT
    cases v with
    | long a =>
      exact hrow ls _ a b p l e R s m args below meth c H locs _ _ Fin hx hb (hK _ hT ad H locs ls hh hv (fun w hm => by
                rcases List.mem_cons.mp hm with e1 | e1
                · rw [e1]; trivial
                · exact hs w (List.mem_cons_of_mem _ (List.mem_cons_of_mem _ e1))) hc1 hc2)
    | _ => exact False.elim hT
  | _ => exact False.elim hT
theorem gs_lsh {f : Int64 → Int32 → Int64} (hrow : ∀ (ls : Array Slot) (rest : List Value) (a : Int64) (b : Int32), gx_go cc (fun m => F0 m pc ls (.int b :: .long a :: rest)) (fun m => F0 m nx ls (.long (f a b) :: rest))) : gx_s1 (cl, tyl, G, Ts, cc, my, nL, ret) pc (gi_lsh f nx) := by
  rintro ⟨p, l, e, R, s, m, args, below, meth, c⟩ ⟨D, dT, sp, A, n0, ad0⟩ Fin lv st h bc bs K Q C ⟨⟨hx, hb, hml, hown, hnm0, hret⟩, hts, hK0, hA, hlk, hG⟩ hT hK ad H locs ls hh hv hs hc1 hc2
  rcases st with _ | ⟨v, st⟩
  · exact False.elim hT
  cases v with
  | int b =>
    rcases st with _ | ⟨v, st⟩
    · exact False.elim hT
    cases v with
    | long a =>
      exact hrow ls _ a b p l e R s m args below meth c H locs _ _ Fin hx hb (hK _ hT ad H locs ls hh hv (fun w hm => by
                rcases List.mem_cons.mp hm with e1 | e1
                · rw [e1]; trivial
                · exact hs w (List.mem_cons_of_mem _ (List.mem_cons_of_mem _ e1))) hc1 hc2)
    | _ => exact False.elim hT
  | _ => exact False.elim hT
theorem gs_i2l (hd : decode cc pc = .ok (.i2l, 1)) : gx_s1 (cl, tyl, G, Ts, cc, my, nL, ret) pc (gi_i2l (pc + 1)) := by
  rintro ⟨p, l, e, R, s, m, args, below, meth, c⟩ ⟨D, dT, sp, A, n0, ad0⟩ Fin lv st h bc bs K Q C ⟨⟨hx, hb, hml, hown, hnm0, hret⟩, hts, hK0, hA, hlk, hG⟩ hT hK ad H locs ls hh hv hs hc1 hc2
  rcases st with _ | ⟨v, st⟩
  · exact False.elim hT
  cases v with
  | int a =>
    exact lv_i2l hx hb hd rfl (hK _ hT ad H locs ls hh hv (fun w hm => by
              rcases List.mem_cons.mp hm with e1 | e1
              · rw [e1]; trivial
              · exact hs w (List.mem_cons_of_mem _ e1)) hc1 hc2)
  | _ => exact False.elim hT
theorem gs_lald {t : Nat} (ht : tyl[t]? = some .long) (hd : decode cc pc = .ok (.laload, 1)) : gx_s1 (cl, tyl, G, Ts, cc, my, nL, ret) pc (gi_lald t (pc + 1)) := by
  rintro ⟨p, l, e, R, s, m, args, below, meth, c⟩ ⟨D, dT, sp, A, n0, ad0⟩ Fin lv st h bc bs K Q C ⟨⟨hx, hb, hml, hown, hnm0, hret⟩, hts, hK0, hA, hlk, hG⟩ hT hK ad H locs ls hh hv hs hc1 hc2
  rcases st with _ | ⟨v, st⟩
  · exact False.elim hT
  cases v with
  | int i =>
    rcases st with _ | ⟨v, st⟩
    · exact False.elim hT
    cases v with
    | ref a =>
      cases hcell : h[a]? with
      | none => simp only [gi_lald, hcell] at hT
      | some ce =>
        obtain ⟨t0, n, f | f | f⟩ | ⟨c0, fs⟩ := ce
        · simp only [gi_lald, hcell] at hT
        · cases hb1 : Nat.beq t0 t with
          | false => simp only [gi_lald, hcell, hb1] at hT
          | true =>
            simp only [gi_lald, hcell, hb1] at hT
            have e0 : t0 = t := Nat.eq_of_beq_eq_true hb1
            subst e0
            exact va_lald hx hb hK0 hh.1 a t0 (gx_w_at hcell) (gx_ty_at ht) hT.1 hd (hK _ hT.2 ad H locs ls hh hv (fun w hm => by
              rcases List.mem_cons.mp hm with e1 | e1
              · rw [e1]; trivial
              · exact hs w (List.mem_cons_of_mem _ (List.mem_cons_of_mem _ e1))) hc1 hc2)
        · simp only [gi_lald, hcell] at hT
        · simp only [gi_lald, hcell] at hT
    | _ => exact False.elim hT
  | _ => exact False.elim hT
theorem gs_last {t : Nat} (ht : tyl[t]? = some .long) (hd : decode cc pc = .ok (.lastore, 1)) : gx_s1 (cl, tyl, G, Ts, cc, my, nL, ret) pc (gi_last t (pc + 1)) := by
  rintro ⟨p, l, e, R, s, m, args, below, meth, c⟩ ⟨D, dT, sp, A, n0, ad0⟩ Fin lv st h bc bs K Q C ⟨⟨hx, hb, hml, hown, hnm0, hret⟩, hts, hK0, hA, hlk, hG⟩ hT hK ad H locs ls hh hv hs hc1 hc2
  rcases st with _ | ⟨v, st⟩
  · exact False.elim hT
  cases v with
  | long x =>
    rcases st with _ | ⟨v, st⟩
    · exact False.elim hT
    cases v with
    | int i =>
      rcases st with _ | ⟨v, st⟩
      · exact False.elim hT
      cases v with
      | ref a =>
        cases hcell : h[a]? with
        | none => simp only [gi_last, hcell] at hT
        | some ce =>
          obtain ⟨t0, n, f | f | f⟩ | ⟨c0, fs⟩ := ce
          · simp only [gi_last, hcell] at hT
          · cases hb1 : Nat.beq t0 t with
            | false => simp only [gi_last, hcell, hb1] at hT
            | true =>
              simp only [gi_last, hcell, hb1] at hT
              have e0 : t0 = t := Nat.eq_of_beq_eq_true hb1
              subst e0
              obtain ⟨hP, hD, hS, hok, hn0, had⟩ := id hh
              refine va_last hx hb hK0 hP hD hS a t0 (gx_w_at hcell) (gx_ty_at ht) hT.1 hd (fun H1 locs1 hP1 hD1 hS1 => ?_)
              have ew : (gx_w dT sp ad h).set a (ad a, .inl (dT t0, n, .inr (.inl (vp_updL f i.toNatClampNeg x)))) = gx_w dT sp ad (h.set a (.inl (t0, n, .inr (.inl (vp_updL f i.toNatClampNeg x))))) := gx_w_set dT sp ad h a (.inl (t0, n, .inr (.inl (vp_updL f i.toNatClampNeg x))))
              have el : (h.set a (.inl (t0, n, .inr (.inl (vp_updL f i.toNatClampNeg x))))).length = h.length := List.length_set
              exact hK _ hT.2 ad H1 locs1 ls ⟨by rw [← ew]; exact hP1, by rw [← ew]; exact hD1, hS1, hok.set trivial, by rw [el]; exact hn0, had⟩ (by rw [el]; exact hv) (by rw [el]; exact (fun w e1 => hs w (List.mem_cons_of_mem _ (List.mem_cons_of_mem _ (List.mem_cons_of_mem _ e1))))) hc1 hc2
          · simp only [gi_last, hcell] at hT
          · simp only [gi_last, hcell] at hT
      | _ => exact False.elim hT
    | _ => exact False.elim hT
  | _ => exact False.elim hT
theorem gs_rald {t : Nat} {E : String} (ht : tyl[t]? = some (.object E)) (hd : decode cc pc = .ok (.aaload, 1)) : gx_s1 (cl, tyl, G, Ts, cc, my, nL, ret) pc (gi_rald t (pc + 1)) := by
  rintro ⟨p, l, e, R, s, m, args, below, meth, c⟩ ⟨D, dT, sp, A, n0, ad0⟩ Fin lv st h bc bs K Q C ⟨⟨hx, hb, hml, hown, hnm0, hret⟩, hts, hK0, hA, hlk, hG⟩ hT hK ad H locs ls hh hv hs hc1 hc2
  rcases st with _ | ⟨v, st⟩
  · exact False.elim hT
  cases v with
  | int i =>
    rcases st with _ | ⟨v, st⟩
    · exact False.elim hT
    cases v with
    | ref a =>
      cases hcell : h[a]? with
      | none => simp only [gi_rald, hcell] at hT
      | some ce =>
        obtain ⟨t0, n, f | f | f | f | f⟩ | ⟨c0, fs⟩ := ce
        · simp only [gi_rald, hcell] at hT
        · simp only [gi_rald, hcell] at hT
        · simp only [gi_rald, hcell] at hT
        · simp only [gi_rald, hcell] at hT
        · cases hb1 : Nat.beq t0 t with
          | false => simp only [gi_rald, hcell, hb1] at hT
          | true =>
            simp only [gi_rald, hcell, hb1] at hT
            have e0 : t0 = t := Nat.eq_of_beq_eq_true hb1
            subst e0
            obtain ⟨hin, hn, hk⟩ := hT
            refine va_aldq hx hb hK0 hh.1 a t0 (f := fun j => (f j).map ad) (gx_w_at hcell) (gx_ty_at ht) hin hd ?_
            have hs' : gx_Rs st h.length := (fun w e1 => hs w (List.mem_cons_of_mem _ (List.mem_cons_of_mem _ e1)))
            cases hf : f i.toNatClampNeg with
            | none =>
              simp only [Option.map_none]
              exact hK _ (hn hf) ad H locs ls hh hv (fun w hm => by
                rcases List.mem_cons.mp hm with e1 | e1
                · rw [e1]; trivial
                · exact hs' w e1) hc1 hc2
            | some k =>
              simp only [Option.map_some]
              exact hK _ (hk k hf) ad H locs ls hh hv (fun w hm => by
                rcases List.mem_cons.mp hm with e1 | e1
                · rw [e1]; exact hh.2.2.2.1 a _ hcell _ _ hf
                · exact hs' w e1) hc1 hc2
        · simp only [gi_rald, hcell] at hT
    | _ => exact False.elim hT
  | _ => exact False.elim hT
theorem gs_rast {t : Nat} {E : String} {cs : List Nat} (ht : tyl[t]? = some (.object E)) (hca : ∀ ci ∈ cs, ∃ r : vw_C, cl[ci]? = some r ∧ ∀ sp A U H, G sp A U H → va_Nw (.castable r.1 E) U) (hd : decode cc pc = .ok (.aastore, 1)) : gx_s1 (cl, tyl, G, Ts, cc, my, nL, ret) pc (gi_rast t cs (pc + 1)) := by
  rintro ⟨p, l, e, R, s, m, args, below, meth, c⟩ ⟨D, dT, sp, A, n0, ad0⟩ Fin lv st h bc bs K Q C ⟨⟨hx, hb, hml, hown, hnm0, hret⟩, hts, hK0, hA, hlk, hG⟩ hT hK ad H locs ls hh hv hs hc1 hc2
  rcases st with _ | ⟨v, st⟩
  · exact False.elim hT
  cases v with
  | null =>
    rcases st with _ | ⟨v, st⟩
    · exact False.elim hT
    cases v with
    | int i =>
      rcases st with _ | ⟨v, st⟩
      · exact False.elim hT
      cases v with
      | ref a =>
        cases hcell : h[a]? with
        | none => simp only [gi_rast, hcell] at hT
        | some ce =>
          obtain ⟨t0, n, f | f | f | f | f⟩ | ⟨c0, fs⟩ := ce
          · simp only [gi_rast, hcell] at hT
          · simp only [gi_rast, hcell] at hT
          · simp only [gi_rast, hcell] at hT
          · simp only [gi_rast, hcell] at hT
          · cases hb1 : Nat.beq t0 t with
            | false => simp only [gi_rast, hcell, hb1] at hT
            | true =>
              simp only [gi_rast, hcell, hb1] at hT
              have e0 : t0 = t := Nat.eq_of_beq_eq_true hb1
              subst e0
              obtain ⟨hP, hD, hS, hok, hn0, had⟩ := id hh
              refine va_astqN hx hb hK0 hP hD hS a t0 (f := fun j => (f j).map ad) (gx_w_at hcell) (gx_ty_at ht) hT.1 hd (fun H1 locs1 hP1 hD1 hS1 => ?_)
              have el : (h.set a (.inl (t0, n, .inr (.inr (.inr (.inr (va_up f i.toNatClampNeg none))))))).length = h.length := List.length_set
              have ew : gx_w dT sp ad (h.set a (.inl (t0, n, .inr (.inr (.inr (.inr (va_up f i.toNatClampNeg none))))))) = (gx_w dT sp ad h).set a (ad a, .inl (dT t0, n, .inr (.inr (.inr (.inr (va_up (fun j => (f j).map ad) i.toNatClampNeg none)))))) := by
                rw [← gx_w_set]
                congr 1
                show (ad a, Sum.inl (dT t0, n, Sum.inr (Sum.inr (Sum.inr (Sum.inr (fun j => (va_up f i.toNatClampNeg none j).map ad)))))) = _
                congr 8
                funext j
                unfold va_up
                by_cases hj : j = i.toNatClampNeg <;> simp [hj]
              refine hK _ hT.2 ad H1 locs1 ls ⟨by rw [ew]; exact hP1, by rw [ew]; exact hD1, hS1, hok.set (fun j k hj => ?_), by rw [el]; exact hn0, had⟩ (by rw [el]; exact hv) (by rw [el]; exact (fun w e1 => hs w (List.mem_cons_of_mem _ (List.mem_cons_of_mem _ (List.mem_cons_of_mem _ e1))))) hc1 hc2
              unfold va_up at hj
              by_cases hji : j = i.toNatClampNeg
              · rw [if_pos hji] at hj
                cases hj
              · rw [if_neg hji] at hj
                exact hok a _ hcell j k hj
          · simp only [gi_rast, hcell] at hT
      | _ => exact False.elim hT
    | _ => exact False.elim hT
  | ref b =>
    rcases st with _ | ⟨v, st⟩
    · exact False.elim hT
    cases v with
    | int i =>
      rcases st with _ | ⟨v, st⟩
      · exact False.elim hT
      cases v with
      | ref a =>
        cases hcell : h[a]? with
        | none => simp only [gi_rast, hcell] at hT
        | some ce =>
          obtain ⟨t0, n, f | f | f | f | f⟩ | ⟨c0, fs⟩ := ce
          · simp only [gi_rast, hcell] at hT
          · simp only [gi_rast, hcell] at hT
          · simp only [gi_rast, hcell] at hT
          · simp only [gi_rast, hcell] at hT
          · cases hb1 : Nat.beq t0 t with
            | false => simp only [gi_rast, hcell, hb1] at hT
            | true =>
              simp only [gi_rast, hcell, hb1] at hT
              have e0 : t0 = t := Nat.eq_of_beq_eq_true hb1
              subst e0
              obtain ⟨hP, hD, hS, hok, hn0, had⟩ := id hh
              obtain ⟨⟨cb, fb, hcb, hcs⟩, hin, hT⟩ := hT
              obtain ⟨r, hr, hg9⟩ := hca cb hcs
              refine va_astqO hx hb hK0 hP hD hS a t0 b cb (f := fun j => (f j).map ad) (gx_w_at hcell) (gx_ty_at ht) (hg9 _ _ _ _ hG) (gx_w_at hcb) hr hin hd (fun H1 locs1 hP1 hD1 hS1 => ?_)
              have el : (h.set a (.inl (t0, n, .inr (.inr (.inr (.inr (va_up f i.toNatClampNeg (some b)))))))).length = h.length := List.length_set
              have ew : gx_w dT sp ad (h.set a (.inl (t0, n, .inr (.inr (.inr (.inr (va_up f i.toNatClampNeg (some b)))))))) = (gx_w dT sp ad h).set a (ad a, .inl (dT t0, n, .inr (.inr (.inr (.inr (va_up (fun j => (f j).map ad) i.toNatClampNeg (some (ad b)))))))) := by
                rw [← gx_w_set]
                congr 1
                show (ad a, Sum.inl (dT t0, n, Sum.inr (Sum.inr (Sum.inr (Sum.inr (fun j => (va_up f i.toNatClampNeg (some b) j).map ad)))))) = _
                congr 8
                funext j
                unfold va_up
                by_cases hj : j = i.toNatClampNeg <;> simp [hj]
              refine hK _ hT ad H1 locs1 ls ⟨by rw [ew]; exact hP1, by rw [ew]; exact hD1, hS1, hok.set (fun j k hj => ?_), by rw [el]; exact hn0, had⟩ (by rw [el]; exact hv) (by rw [el]; exact (fun w e1 => hs w (List.mem_cons_of_mem _ (List.mem_cons_of_mem _ (List.mem_cons_of_mem _ e1))))) hc1 hc2
              unfold va_up at hj
              by_cases hji : j = i.toNatClampNeg
              · rw [if_pos hji] at hj
                cases hj; exact hs _ List.mem_cons_self
              · rw [if_neg hji] at hj
                exact hok a _ hcell j k hj
          · simp only [gi_rast, hcell] at hT
      | _ => exact False.elim hT
    | _ => exact False.elim hT
  | _ => exact False.elim hT
theorem gs_alenT {nT : Nat} (hnT : nT ≤ tyl.length) (hd : decode cc pc = .ok (.arraylength, 1)) : gx_s1 (cl, tyl, G, Ts, cc, my, nL, ret) pc (gi_alenT nT (pc + 1)) := by
  rintro ⟨p, l, e, R, s, m, args, below, meth, c⟩ ⟨D, dT, sp, A, n0, ad0⟩ Fin lv st h bc bs K Q C ⟨⟨hx, hb, hml, hown, hnm0, hret⟩, hts, hK0, hA, hlk, hG⟩ hT hK ad H locs ls hh hv hs hc1 hc2
  rcases st with _ | ⟨v, st⟩
  · exact False.elim hT
  cases v with
  | ref a =>
    cases hcell : h[a]? with
    | none => simp only [gi_alenT, hcell] at hT
    | some ce =>
      obtain ⟨t0, n, x⟩ | ⟨c0, fs⟩ := ce
      · cases hb1 : Nat.blt t0 nT with
        | false => simp only [gi_alenT, hcell, hb1] at hT
        | true =>
          simp only [gi_alenT, hcell, hb1] at hT
          have hlt : t0 < tyl.length := Nat.lt_of_lt_of_le (Nat.le_of_ble_eq_true hb1) hnT
          have hn : (gx_a ad (n, x)).1 = n := by rcases x with x | x | x | x | x <;> rfl
          exact va_alen hx hb hK0 hh.1 a t0 (gx_w_at hcell) (gx_ty_at (List.getElem?_eq_getElem hlt)) (by rw [hn]) hd (hK _ hT ad H locs ls hh hv (fun w hm => by
            rcases List.mem_cons.mp hm with e1 | e1
            · rw [e1]; trivial
            · exact hs w (List.mem_cons_of_mem _ e1)) hc1 hc2)
      · simp only [gi_alenT, hcell] at hT
  | _ => exact False.elim hT
end GXM
