/-! Special cells, comparing references, and what ArrayList's own code needs. Written by wip/tools/mach5.py. -/
/-- the length of a special array -/
def gi_slen (j : Nat) (n : Int32) (nx : Nat) : gx_T := fun S K _ _ => match S with
  | (_, lv, .retAddr i :: st, h, bc, bs) => match Nat.beq i j with
    | true => K (nx, lv, .int n :: st, h, bc, bs)
    | false => False
  | _ => False
/-- a length, of an array of one of the first nT tags or of the special array j -/
def gi_alenS (nT j : Nat) (n : Int32) (nx : Nat) : gx_T := fun S K Q C => match S with
  | (pc, lv, .retAddr i :: st, h, bc, bs) => gi_slen j n nx (pc, lv, .retAddr i :: st, h, bc, bs) K Q C
  | _ => gi_alenT nT nx S K Q C
def gx_same : Value → Value → Option Bool
  | .ref a, .ref b => some (Nat.beq a b)
  | .ref _, .retAddr j => match Nat.beq j 2 with
    | true => none
    | false => some false
  | .retAddr i, .ref _ => match Nat.beq i 2 with
    | true => none
    | false => some false
  | .retAddr a, .retAddr b => match Nat.beq a b with
    | true => some true
    | false => none
  | _, _ => none
/-- two references are the same: tt; they differ: tf -/
def gi_acmp (tt tf : Nat) : gx_T := fun S K _ _ => match S with
  | (_, lv, w :: v :: st, h, bc, bs) => match gx_same v w with
    | some true => K (tt, lv, st, h, bc, bs)
    | some false => K (tf, lv, st, h, bc, bs)
    | none => False
  | _ => False
def gi_dupx1 (nx : Nat) : gx_T := fun S K _ _ => match S with
  | (_, lv, v :: w :: st, h, bc, bs) => match Nat.beq v.category 1, Nat.beq w.category 1 with
    | true, true => K (nx, lv, v :: w :: v :: st, h, bc, bs)
    | _, _ => False
  | _ => False
def gi_min (nx : Nat) : gx_T := fun S K _ _ => match S with
  | (_, lv, .int y :: .int x :: st, h, bc, bs) => match Nat.ble (st.map Value.category).sum 8 with
    | true => K (nx, lv, .int (if y < x then y else x) :: st, h, bc, bs)
    | false => False
  | _ => False
/-- getClass() of an array of tag t: the special cell j -/
def gi_getC (t j nx : Nat) : gx_T := fun S K _ _ => match S with
  | (_, lv, .ref a :: st, h, bc, bs) => match h[a]? with
    | some (.inl (t', _)) => match Nat.beq t' t, Nat.ble (st.map Value.category).sum 8 with
      | true, true => K (nx, lv, .retAddr j :: st, h, bc, bs)
      | _, _ => False
    | _ => False
  | _ => False
/-- arraycopy between two arrays of references of tag t, all of whose cells are of the classes cs -/
def gi_rcopy (t : Nat) (cs : List Nat) (nx : Nat) : gx_T := fun S K _ _ => match S with
  | (_, lv, .int n :: .int dp :: .ref a1 :: .int sp :: .ref a0 :: st, h, bc, bs) => match h[a0]?, h[a1]? with
    | some (.inl (t0, n0, .inr (.inr (.inr (.inr f))))), some (.inl (t1, n1, .inr (.inr (.inr (.inr g))))) => match Nat.beq t0 t, Nat.beq t1 t, Nat.ble (st.map Value.category).sum 8 with
      | true, true, true => ((¬ sp < 0 ∧ ¬ dp < 0 ∧ ¬ n < 0) ∧ sp.toNatClampNeg + n.toNatClampNeg ≤ n0 ∧ dp.toNatClampNeg + n.toNatClampNeg ≤ n1 ∧ ∀ i, i < n.toNatClampNeg → ∀ y, f (sp.toNatClampNeg + i) = some y → ∃ c fs, h[y]? = some (.inr (c, fs)) ∧ c ∈ cs) ∧
          K (nx, lv, st, h.set a1 (.inl (t1, n1, .inr (.inr (.inr (.inr (va_cpy f g sp.toNatClampNeg dp.toNatClampNeg n.toNatClampNeg)))))), bc, bs)
      | _, _, _ => False
    | _, _ => False
  | _ => False
section GXS5
variable {cl : List vw_C} {tyl : List FieldType} {Ts : List Cond} {G : (Nat → Nat) → (Nat → Prop) → State → Heap → Prop} {cc : ByteArray} {my : MethodName} {nL : Nat} {ret : Option FieldType} {pc : Nat} {l : Launch} {zs : Nat → gx_M} {idx : Nat}
theorem gs_ldc {v : Int32} (hw : Cond.constant my.cls idx v ∈ Ts) (hd : decode cc pc = .ok (.ldc idx, 2)) : gx_s1 (cl, tyl, G, Ts, cc, my, nL, ret) pc (gi_k (.int v) (pc + 2)) := by
  rintro ⟨p, l, e, R, s, m, args, below, meth, c⟩ ⟨D, dT, sp, A, n0, ad0⟩ Fin lv st h bc bs K Q C ⟨⟨hx, hb, hml, hown, hnm0, hret⟩, hts, hK0, hA, hlk, hG⟩ hT hK ad H locs ls hh hv hs hc1 hc2
  exact lv_ldc hx hb hown (hts _ hw) hd (hK _ hT ad H locs ls hh hv (fun w hm => by
          rcases List.mem_cons.mp hm with e1 | e1
          · rw [e1]; trivial
          · exact hs w e1) hc1 hc2)
theorem gs_gets {j : Nat} {C9 n9 d9 : String} (hZ : ∀ sp A U H, G sp A U H → va_Z C9 n9 d9 (.ref (sp j)) A U H) (hlink : Cond.fieldLink my.cls idx C9 n9 d9 ∈ Ts) (hd : decode cc pc = .ok (.getstatic idx, 3)) : gx_s1 (cl, tyl, G, Ts, cc, my, nL, ret) pc (gi_k (.retAddr j) (pc + 3)) := by
  rintro ⟨p, l, e, R, s, m, args, below, meth, c⟩ ⟨D, dT, sp, A, n0, ad0⟩ Fin lv st h bc bs K Q C ⟨⟨hx, hb, hml, hown, hnm0, hret⟩, hts, hK0, hA, hlk, hG⟩ hT hK ad H locs ls hh hv hs hc1 hc2
  exact va_gets hx hb (hZ _ _ _ _ hG) hh.2.2.1 hown (hts _ hlink) (fun _ q => q) hd (hK _ hT ad H locs ls hh hv (fun w hm => by
          rcases List.mem_cons.mp hm with e1 | e1
          · rw [e1]; trivial
          · exact hs w e1) hc1 hc2)
theorem gs_ldcM {j : Nat} {C9 : String} (hM : ∀ sp A U H, G sp A U H → va_Mi C9 (sp j) U) (hlink : Cond.classLink my.cls idx C9 ∈ Ts) (hd : decode cc pc = .ok (.ldc idx, 2)) : gx_s1 (cl, tyl, G, Ts, cc, my, nL, ret) pc (gi_k (.retAddr j) (pc + 2)) := by
  rintro ⟨p, l, e, R, s, m, args, below, meth, c⟩ ⟨D, dT, sp, A, n0, ad0⟩ Fin lv st h bc bs K Q C ⟨⟨hx, hb, hml, hown, hnm0, hret⟩, hts, hK0, hA, hlk, hG⟩ hT hK ad H locs ls hh hv hs hc1 hc2
  exact va_ldcM hx hb hown (hts _ hlink) (hM _ _ _ _ hG) hd (hK _ hT ad H locs ls hh hv (fun w hm => by
          rcases List.mem_cons.mp hm with e1 | e1
          · rw [e1]; trivial
          · exact hs w e1) hc1 hc2)
theorem gs_alenS {nT j N : Nat} {ty : FieldType} {f : Nat → Value} {v : Int32} (hnT : nT ≤ tyl.length) (hZ : ∀ sp A U H, G sp A U H → va_T ty (sp j) N f A U H) (hn : Int32.ofNat N = v) (hd : decode cc pc = .ok (.arraylength, 1)) : gx_s1 (cl, tyl, G, Ts, cc, my, nL, ret) pc (gi_alenS nT j v (pc + 1)) := by
  rintro ⟨p, l, e, R, s, m, args, below, meth, c⟩ ⟨D, dT, sp, A, n0, ad0⟩ Fin lv st h bc bs K Q C ⟨⟨hx, hb, hml, hown, hnm0, hret⟩, hts, hK0, hA, hlk, hG⟩ hT hK ad H locs ls hh hv hs hc1 hc2
  rcases st with _ | ⟨v0, st⟩
  · exact False.elim hT
  cases v0 with
  | retAddr i =>
    cases hb1 : Nat.beq i j with
    | false => simp only [gi_alenS, gi_slen, hb1] at hT
    | true =>
      simp only [gi_alenS, gi_slen, hb1] at hT
      have e0 : i = j := Nat.eq_of_beq_eq_true hb1
      subst e0
      exact va_tlen hx hb (hZ _ _ _ _ hG) hh.2.2.1 hn hd (hK _ hT ad H locs ls hh hv (fun w hm => by
          rcases List.mem_cons.mp hm with e1 | e1
          · rw [e1]; trivial
          · exact hs w (List.mem_cons_of_mem _ e1)) hc1 hc2)
  | ref a =>
    have hT2 : gi_alenT nT (pc + 1) (pc, lv, .ref a :: st, h, bc, bs) K Q C := hT
    exact gs_alenT hnT hd (p, l, e, R, s, m, args, below, meth, c) (D, dT, sp, A, n0, ad0) Fin lv _ h bc bs K Q C ⟨⟨hx, hb, hml, hown, hnm0, hret⟩, hts, hK0, hA, hlk, hG⟩ hT2 hK ad H locs ls hh hv hs hc1 hc2
  | _ => exact False.elim hT
theorem gs_dupx1 (hd : decode cc pc = .ok (.dup_x1, 1)) : gx_s1 (cl, tyl, G, Ts, cc, my, nL, ret) pc (gi_dupx1 (pc + 1)) := by
  rintro ⟨p, l, e, R, s, m, args, below, meth, c⟩ ⟨D, dT, sp, A, n0, ad0⟩ Fin lv st h bc bs K Q C ⟨⟨hx, hb, hml, hown, hnm0, hret⟩, hts, hK0, hA, hlk, hG⟩ hT hK ad H locs ls hh hv hs hc1 hc2
  rcases st with _ | ⟨v, _ | ⟨w, st⟩⟩
  · exact False.elim hT
  · exact False.elim hT
  cases hc : Nat.beq v.category 1 with
  | false => simp only [gi_dupx1, hc] at hT
  | true =>
    cases hw : Nat.beq w.category 1 with
    | false => simp only [gi_dupx1, hc, hw] at hT
    | true =>
      simp only [gi_dupx1, hc, hw] at hT
      exact lv_dup_x1 hx hb hd (by rw [gx_v_cat]; exact Nat.eq_of_beq_eq_true hc) (by rw [gx_v_cat]; exact Nat.eq_of_beq_eq_true hw) (hK _ hT ad H locs ls hh hv (fun u hm => by
        rcases List.mem_cons.mp hm with e1 | e1
        · rw [e1]; exact hs v List.mem_cons_self
        · rcases List.mem_cons.mp e1 with e2 | e2
          · rw [e2]; exact hs w (List.mem_cons_of_mem _ List.mem_cons_self)
          · rcases List.mem_cons.mp e2 with e3 | e3
            · rw [e3]; exact hs v List.mem_cons_self
            · exact hs u (List.mem_cons_of_mem _ (List.mem_cons_of_mem _ e3))) hc1 hc2)
theorem gx_same_spec {D : va_G} {dT : Nat → ClassId} {sp ad : Nat → Nat} {A : Nat → Prop} {h : gx_H} (hD : va_D A (gx_w dT sp ad h)) (hsp : ∀ j, j ≠ 2 → ¬ A (sp j)) {v w : Value} (hv : gx_ok h.length v) (hw : gx_ok h.length w) {b : Bool} (hs : gx_same v w = some b) :
    ∃ rv rw : Nat, gx_v sp ad v = .ref rv ∧ gx_v sp ad w = .ref rw ∧ (b = true ↔ rv = rw) := by
  have hin : ∀ k, k < h.length → A (ad k) := fun k hk => by
    have h1 := gx_w_at (dT := dT) (sp := sp) (ad := ad) (List.getElem?_eq_getElem hk)
    exact hD.2 k _ h1
  cases v with
  | ref a =>
    cases w with
    | ref b2 =>
      cases hs
      refine ⟨_, _, rfl, rfl, fun e => ?_, fun e => ?_⟩
      · rw [Nat.eq_of_beq_eq_true e]
      · have h1 := gx_w_at (dT := dT) (sp := sp) (ad := ad) (List.getElem?_eq_getElem hv)
        have h2 := gx_w_at (dT := dT) (sp := sp) (ad := ad) (List.getElem?_eq_getElem hw)
        have h3 := hD.1 a b2 _ _ h1 h2 e
        subst h3
        exact Nat.beq_refl a
    | retAddr j =>
      cases hb9 : Nat.beq j 2 with
      | true => simp only [gx_same, hb9] at hs; cases hs
      | false =>
        simp only [gx_same, hb9] at hs
        cases hs
        exact ⟨_, _, rfl, rfl, fun e => (by cases e), fun e => absurd (show A (sp j) from e ▸ hin a hv) (hsp j (fun e9 => by rw [e9] at hb9; cases hb9))⟩
    | _ => cases hs
  | retAddr i =>
    cases w with
    | ref b2 =>
      cases hb9 : Nat.beq i 2 with
      | true => simp only [gx_same, hb9] at hs; cases hs
      | false =>
        simp only [gx_same, hb9] at hs
        cases hs
        exact ⟨_, _, rfl, rfl, fun e => (by cases e), fun e => absurd (show A (sp i) from e.symm ▸ hin b2 hw) (hsp i (fun e9 => by rw [e9] at hb9; cases hb9))⟩
    | retAddr j =>
      cases hb : Nat.beq i j with
      | false => simp only [gx_same, hb] at hs; cases hs
      | true =>
        simp only [gx_same, hb] at hs
        cases hs
        have e : i = j := Nat.eq_of_beq_eq_true hb
        subst e
        exact ⟨_, _, rfl, rfl, fun _ => rfl, fun _ => rfl⟩
    | _ => cases hs
  | _ => cases hs
theorem gs_acmpeq {off : Int} {tg : Nat} (hsp : ∀ sp A U H, G sp A U H → ∀ j, j ≠ 2 → ¬ A (sp j)) (hd : decode cc pc = .ok (.if_acmp .eq off, 3)) (ht : (pc : Int) + off = (tg : Int)) : gx_s1 (cl, tyl, G, Ts, cc, my, nL, ret) pc (gi_acmp tg (pc + 3)) := by
  rintro ⟨p, l, e, R, s, m, args, below, meth, c⟩ ⟨D, dT, sp, A, n0, ad0⟩ Fin lv st h bc bs K Q C ⟨⟨hx, hb, hml, hown, hnm0, hret⟩, hts, hK0, hA, hlk, hG⟩ hT hK ad H locs ls hh hv hs hc1 hc2
  rcases st with _ | ⟨w, _ | ⟨v, st⟩⟩
  · exact False.elim hT
  · exact False.elim hT
  have hs' : gx_Rs st h.length := (fun w e1 => hs w (List.mem_cons_of_mem _ (List.mem_cons_of_mem _ e1)))
  cases hsm : gx_same v w with
  | none => simp only [gi_acmp, hsm] at hT
  | some b =>
    obtain ⟨rv, rw9, ev, ew, hiff⟩ := gx_same_spec (D := D) hh.2.1 (hsp _ _ _ _ hG) (hs v (List.mem_cons_of_mem _ List.mem_cons_self)) (hs w List.mem_cons_self) hsm
    rw [List.map_cons, List.map_cons, ev, ew]
    cases b with
    | true =>
      simp only [gi_acmp, hsm] at hT
      have e9 : rv = rw9 := hiff.mp rfl
      refine lv_acmp_eq (rx := some rv) (ry := some rw9) hx hb hd ht (fun q => ?_) (fun q => ?_)
      · exact hK _ hT ad H locs ls hh hv hs' hc1 hc2
      · exact absurd (congrArg some e9) q
    | false =>
      simp only [gi_acmp, hsm] at hT
      have e9 : ¬ rv = rw9 := fun q => by have := hiff.mpr q; cases this
      refine lv_acmp_eq (rx := some rv) (ry := some rw9) hx hb hd ht (fun q => ?_) (fun q => ?_)
      · exact absurd (Option.some.inj q) e9
      · exact hK _ hT ad H locs ls hh hv hs' hc1 hc2
theorem gs_acmpne {off : Int} {tg : Nat} (hsp : ∀ sp A U H, G sp A U H → ∀ j, j ≠ 2 → ¬ A (sp j)) (hd : decode cc pc = .ok (.if_acmp .ne off, 3)) (ht : (pc : Int) + off = (tg : Int)) : gx_s1 (cl, tyl, G, Ts, cc, my, nL, ret) pc (gi_acmp (pc + 3) tg) := by
  rintro ⟨p, l, e, R, s, m, args, below, meth, c⟩ ⟨D, dT, sp, A, n0, ad0⟩ Fin lv st h bc bs K Q C ⟨⟨hx, hb, hml, hown, hnm0, hret⟩, hts, hK0, hA, hlk, hG⟩ hT hK ad H locs ls hh hv hs hc1 hc2
  rcases st with _ | ⟨w, _ | ⟨v, st⟩⟩
  · exact False.elim hT
  · exact False.elim hT
  have hs' : gx_Rs st h.length := (fun w e1 => hs w (List.mem_cons_of_mem _ (List.mem_cons_of_mem _ e1)))
  cases hsm : gx_same v w with
  | none => simp only [gi_acmp, hsm] at hT
  | some b =>
    obtain ⟨rv, rw9, ev, ew, hiff⟩ := gx_same_spec (D := D) hh.2.1 (hsp _ _ _ _ hG) (hs v (List.mem_cons_of_mem _ List.mem_cons_self)) (hs w List.mem_cons_self) hsm
    rw [List.map_cons, List.map_cons, ev, ew]
    cases b with
    | true =>
      simp only [gi_acmp, hsm] at hT
      have e9 : rv = rw9 := hiff.mp rfl
      refine lv_acmp_ne (rx := some rv) (ry := some rw9) hx hb hd ht (fun q => ?_) (fun q => ?_)
      · exact absurd (congrArg some e9) q
      · exact hK _ hT ad H locs ls hh hv hs' hc1 hc2
    | false =>
      simp only [gi_acmp, hsm] at hT
      have e9 : ¬ rv = rw9 := fun q => by have := hiff.mpr q; cases this
      refine lv_acmp_ne (rx := some rv) (ry := some rw9) hx hb hd ht (fun q => ?_) (fun q => ?_)
      · exact hK _ hT ad H locs ls hh hv hs' hc1 hc2
      · exact absurd (Option.some.inj q) e9
theorem gs_min (hlink : Cond.methodLink my.cls idx Lib.Math.min.name ∈ Ts) (hstat : Cond.static Lib.Math.min.name ∈ Ts) (hini : Cond.initialized "java/lang/Math" ∈ Ts) (hcode : Cond.code Lib.Math.min.name Lib.Math.min.code 2 (some .int) ∈ Ts) (hd : decode cc pc = .ok (.invokestatic idx, 3)) : gx_Sn l zs (cl, tyl, G, Ts, cc, my, nL, ret) pc (gi_min (pc + 3)) := by
  rintro ⟨p, l', e, R, s, m, args, below, meth, c⟩ ⟨D, dT, sp, A, n0, ad0⟩ d lv st h bc bs K Q C e1 ⟨⟨hx, hb, hml, hown, hnm0, hret⟩, hts, hK0, hA, hlk, hG0⟩ hex hf hlo hT hK hC ad H locs ls hh hv hs hc1 hc2
  have e1 : l' = l := e1
  subst e1
  have hf : R.frames = d + 20 := hf
  have hlo : R.locals = 64 * d + 2000 := hlo
  rcases st with _ | ⟨v, st⟩
  · exact False.elim hT
  cases v with
  | int b =>
    rcases st with _ | ⟨v, st⟩
    · exact False.elim hT
    cases v with
    | int a =>
      cases hb1 : Nat.ble (st.map Value.category).sum 8 with
      | false => simp only [gi_min, hb1] at hT
      | true =>
        simp only [gi_min, hb1] at hT
        have hsum := Nat.le_of_ble_eq_true hb1
        exact va_mmin hx hb (hml.trans hv.1.symm) hown (hts _ hlink) (hts _ hstat) (hts _ hini) (hts _ hcode) (by omega) (by rw [gx_catsum]; omega) (Nat.sub_le _ _) (Nat.sub_le _ _) hd (hK _ hT ad H locs ls hh hv (fun w hm => by
          rcases List.mem_cons.mp hm with e1 | e1
          · rw [e1]; trivial
          · exact hs w (List.mem_cons_of_mem _ (List.mem_cons_of_mem _ e1))) hc1 hc2)
    | _ => exact False.elim hT
  | _ => exact False.elim hT
theorem gs_getS {ci k N : Nat} {Cn ref : String} {T : u_T} (hc : cl[ci]? = some (Cn, T, N)) (hin : ∀ w ∈ u_ws Cn T N, w ∈ Ts) (hk : k < N) (hlink : Cond.fieldLink my.cls idx ref (T k).2.1 (T k).2.2.1 ∈ Ts) (hsm : Cond.sameField ref (T k).1 (T k).2.1 (T k).2.2.1 ∈ Ts) (hd : decode cc pc = .ok (.getfield idx, 3)) : gx_s1 (cl, tyl, G, Ts, cc, my, nL, ret) pc (gi_get ci k (pc + 3)) := by
  rintro ⟨p, l, e, R, s, m, args, below, meth, c⟩ ⟨D, dT, sp, A, n0, ad0⟩ Fin lv st h bc bs K Q C ⟨⟨hx, hb, hml, hown, hnm0, hret⟩, hts, hK0, hA, hlk, hG⟩ hT hK ad H locs ls hh hv hs hc1 hc2
  rcases st with _ | ⟨v0, st⟩
  · exact False.elim hT
  cases v0 with
  | ref a =>
    cases hcell : h[a]? with
    | none => simp only [gi_get, hcell] at hT
    | some ce =>
      obtain ⟨t0, x0⟩ | ⟨c0, fs⟩ := ce
      · simp only [gi_get, hcell] at hT
      · cases hb1 : Nat.beq c0 ci with
        | false => simp only [gi_get, hcell, hb1] at hT
        | true =>
          cases hf : fs[k]? with
          | none => simp only [gi_get, hcell, hb1, hf] at hT
          | some v =>
            simp only [gi_get, hcell, hb1, hf] at hT
            have e0 : c0 = ci := Nat.eq_of_beq_eq_true hb1
            subst e0
            obtain ⟨hP, hD, hS, hok, hn0, had⟩ := id hh
            have hvok : gx_ok h.length v := hok a _ hcell v (List.mem_of_getElem? hf)
            exact va_get hx hb hts hin hown hK0 hP a (gx_w_at hcell) hc k hk (hts _ hlink) (fun x q => u_same (hts _ hsm) x q) (v := gx_v sp ad v) (by rw [List.getElem?_map, hf]; rfl) hd (hK _ hT ad H locs ls hh hv (fun w hm => by
          rcases List.mem_cons.mp hm with e1 | e1
          · rw [e1]; exact hvok
          · exact hs w (List.mem_cons_of_mem _ e1)) hc1 hc2)
  | _ => exact False.elim hT
theorem gs_putS0 {ci k N : Nat} {Cn ref : String} {T : u_T} {ty : FieldType} (hc : cl[ci]? = some (Cn, T, N)) (hin : ∀ w ∈ u_ws Cn T N, w ∈ Ts) (ty0 : Nat → FieldType) (hty : ∀ k, k < N → parseFieldDescriptor (T k).2.2.1 = some (ty0 k)) (hnm : ∀ a, a < N → ∀ b, b < N → a ≠ b → (T a).2.1 ≠ (T b).2.1) (hk : k < N) (hty1 : parseFieldDescriptor (T k).2.2.1 = some ty) (hlink : Cond.fieldLink my.cls idx ref (T k).2.1 (T k).2.2.1 ∈ Ts) (hsm : Cond.sameField ref (T k).1 (T k).2.1 (T k).2.2.1 ∈ Ts) (hfin : (T k).2.2.2 = false) (hd : decode cc pc = .ok (.putfield idx, 3)) : gx_s1 (cl, tyl, G, Ts, cc, my, nL, ret) pc (gi_put ci k ty (pc + 3)) := by
  rintro ⟨p, l, e, R, s, m, args, below, meth, c⟩ ⟨D, dT, sp, A, n0, ad0⟩ Fin lv st h bc bs K Q C ⟨⟨hx, hb, hml, hown, hnm0, hret⟩, hts, hK0, hA, hlk, hG⟩ hT hK ad H locs ls hh hv hs hc1 hc2
  rcases st with _ | ⟨v, _ | ⟨v0, st⟩⟩
  · exact False.elim hT
  · exact False.elim hT
  cases v0 with
  | ref a =>
    cases hcell : h[a]? with
    | none => simp only [gi_put, hcell] at hT
    | some ce =>
      obtain ⟨t0, x0⟩ | ⟨c0, fs⟩ := ce
      · simp only [gi_put, hcell] at hT
      · cases hb1 : Nat.beq c0 ci with
        | false => simp only [gi_put, hcell, hb1] at hT
        | true =>
          cases hf : fs[k]? with
          | none => simp only [gi_put, hcell, hb1, hf] at hT
          | some v1 =>
            simp only [gi_put, hcell, hb1, hf] at hT
            have e0 : c0 = ci := Nat.eq_of_beq_eq_true hb1
            subst e0
            obtain ⟨⟨hna, hfi⟩, hT⟩ := hT
            obtain ⟨hP, hD, hS, hok, hn0, had⟩ := id hh
            have hvok : gx_ok h.length v := hs v List.mem_cons_self
            have hkl : k < fs.length := (List.getElem?_eq_some_iff.mp hf).1
            have ew : ∀ fs' : List Value, fs' = (fs.map (gx_v sp ad)).set k (gx_v sp ad v) → (gx_w dT sp ad h).set a (ad a, .inr (c0, fs')) = gx_w dT sp ad (h.set a (.inr (c0, fs.set k v))) := fun fs' e1 => by
              rw [← gx_w_set]
              show _ = (gx_w dT sp ad h).set a (ad a, Sum.inr (c0, (fs.set k v).map (gx_v sp ad)))
              rw [e1, List.map_set]
            refine va_put hx hb hts hin ty0 hty hnm hown hK0 hP hD hS a (gx_w_at hcell) hc k hk (hts _ hlink) (fun x q => u_same (hts _ hsm) x q) hfin (ty := ty) (v := gx_v sp ad v) hty1 (gx_narrow hna) (gx_fits hfi) (by rw [List.length_map]; exact hkl) hd (fun H1 locs1 hP1 hD1 hS1 => ?_)
            have el : (h.set a (.inr (c0, fs.set k v))).length = h.length := List.length_set
            rw [ew _ rfl] at hP1 hD1
            refine hK _ hT ad H1 locs1 ls ⟨hP1, hD1, hS1, hok.set (fun u hu => ?_), by rw [el]; exact hn0, had⟩ (by rw [el]; exact hv) (by rw [el]; exact (fun w e1 => hs w (List.mem_cons_of_mem _ (List.mem_cons_of_mem _ e1)))) hc1 hc2
            rcases List.mem_or_eq_of_mem_set hu with h9 | h9
            · exact hok a _ hcell u h9
            · rw [h9]; exact hvok
  | _ => exact False.elim hT
theorem gs_putS {ci k N : Nat} {Cn ref : String} {T : u_T} (hc : cl[ci]? = some (Cn, T, N)) (hin : ∀ w ∈ u_ws Cn T N, w ∈ Ts) (ty0 : Nat → FieldType) (hty : ∀ k, k < N → parseFieldDescriptor (T k).2.2.1 = some (ty0 k)) (hnm : ∀ a, a < N → ∀ b, b < N → a ≠ b → (T a).2.1 ≠ (T b).2.1) (hk : k < N) (hty1 : parseFieldDescriptor (T k).2.2.1 = some .int) (hlink : Cond.fieldLink my.cls idx ref (T k).2.1 (T k).2.2.1 ∈ Ts) (hsm : Cond.sameField ref (T k).1 (T k).2.1 (T k).2.2.1 ∈ Ts) (hfin : (T k).2.2.2 = false) (hd : decode cc pc = .ok (.putfield idx, 3)) : gx_s1 (cl, tyl, G, Ts, cc, my, nL, ret) pc (gi_puti ci k (pc + 3)) :=
  fun x y Fin lv st h bc bs K Q C hC hT hK => gs_putS0 hc hin ty0 hty hnm hk hty1 hlink hsm hfin hd x y Fin lv st h bc bs K Q C hC hT.to hK
theorem gs_getC {t j : Nat} {E : String} (ht : tyl[t]? = some (.object E)) (hlink : Cond.methodLink my.cls idx (⟨"java/lang/Object", "getClass", "()Ljava/lang/Class;"⟩ : MethodName) ∈ Ts) (hinst : Cond.instanceMethod (⟨"java/lang/Object", "getClass", "()Ljava/lang/Class;"⟩ : MethodName) ∈ Ts) (hnat : Cond.native (⟨"java/lang/Object", "getClass", "()Ljava/lang/Class;"⟩ : MethodName) ∈ Ts) (hsel : Cond.selects ("[" ++ (FieldType.object E).toString) (⟨"java/lang/Object", "getClass", "()Ljava/lang/Class;"⟩ : MethodName) (⟨"java/lang/Object", "getClass", "()Ljava/lang/Class;"⟩ : MethodName) ∈ Ts) (hdecl : ∀ sp A U H, G sp A U H → va_Nw (.declares (⟨"java/lang/Object", "getClass", "()Ljava/lang/Class;"⟩ : MethodName)) U) (hM : ∀ sp A U H, G sp A U H → va_Mi ("[" ++ (FieldType.object E).toString) (sp j) U) (hd : decode cc pc = .ok (.invokevirtual idx, 3)) : gx_Sn l zs (cl, tyl, G, Ts, cc, my, nL, ret) pc (gi_getC t j (pc + 3)) := by
  rintro ⟨p, l', e, R, s, m, args, below, meth, c⟩ ⟨D, dT, sp, A, n0, ad0⟩ d lv st h bc bs K Q C e1 ⟨⟨hx, hb, hml, hown, hnm0, hret⟩, hts, hK0, hA, hlk, hG0⟩ hex hf hlo hT hK hC ad H locs ls hh hv hs hc1 hc2
  have e1 : l' = l := e1
  subst e1
  have hf : R.frames = d + 20 := hf
  have hlo : R.locals = 64 * d + 2000 := hlo
  rcases st with _ | ⟨v0, st⟩
  · exact False.elim hT
  cases v0 with
  | ref a =>
    cases hcell : h[a]? with
    | none => simp only [gi_getC, hcell] at hT
    | some ce =>
      obtain ⟨t0, x0⟩ | ⟨c0, fs⟩ := ce
      · cases hb1 : Nat.beq t0 t with
        | false => simp only [gi_getC, hcell, hb1] at hT
        | true =>
          cases hb2 : Nat.ble (st.map Value.category).sum 8 with
          | false => simp only [gi_getC, hcell, hb1, hb2] at hT
          | true =>
            simp only [gi_getC, hcell, hb1, hb2] at hT
            have hsum := Nat.le_of_ble_eq_true hb2
            have e0 : t0 = t := Nat.eq_of_beq_eq_true hb1
            subst e0
            obtain ⟨hP, hD, hS, hok, hn0, had⟩ := id hh
            obtain ⟨kA, comq, f1, f2, f3, f4⟩ := (hK0.2 t0 (dT t0, .object E) (gx_ty_at ht)).2
            refine va_getC hx hb (hml.trans hv.1.symm) hown (hts _ hlink) (va_Nw.use rfl (hdecl _ _ _ _ hG0)) (hts _ hsel) (hts _ hinst) (hts _ hnat) (hM _ _ _ _ hG0) ?_ (by omega) (by rw [gx_catsum]; omega) hd (hK _ hT ad H locs ls hh hv (fun w hm => by
          rcases List.mem_cons.mp hm with e1 | e1
          · rw [e1]; trivial
          · exact hs w (List.mem_cons_of_mem _ e1)) hc1 hc2)
            obtain ⟨n9, x9⟩ := x0
            refine ⟨_, hP a _ (gx_w_at hcell), ?_, ?_⟩
            · rcases x9 with f | f | f | f | f <;> rfl
            · rcases x9 with f | f | f | f | f <;> exact f4
      · simp only [gi_getC, hcell] at hT
  | _ => exact False.elim hT
theorem gs_rcopy {t : Nat} {E : String} {cs : List Nat} (ht : tyl[t]? = some (.object E)) (hca : ∀ ci ∈ cs, ∃ r : vw_C, cl[ci]? = some r ∧ ∀ sp A U H, G sp A U H → va_Nw (.castable r.1 E) U) (hlink : Cond.methodLink my.cls idx arraycopyName ∈ Ts) (hnat : Cond.native arraycopyName ∈ Ts) (hstat : Cond.static arraycopyName ∈ Ts) (hini : Cond.initialized "java/lang/System" ∈ Ts) (hd : decode cc pc = .ok (.invokestatic idx, 3)) : gx_Sn l zs (cl, tyl, G, Ts, cc, my, nL, ret) pc (gi_rcopy t cs (pc + 3)) := by
  rintro ⟨p, l', e, R, s, m, args, below, meth, c⟩ ⟨D, dT, sp, A, n0, ad0⟩ d lv st h bc bs K Q C e1 ⟨⟨hx, hb, hml, hown, hnm0, hret⟩, hts, hK0, hA, hlk, hG0⟩ hex hf hlo hT hK hC ad H locs ls hh hv hs hc1 hc2
  have e1 : l' = l := e1
  subst e1
  have hf : R.frames = d + 20 := hf
  have hlo : R.locals = 64 * d + 2000 := hlo
  rcases st with _ | ⟨v, st⟩
  · exact False.elim hT
  cases v with
  | int n =>
    rcases st with _ | ⟨v, st⟩
    · exact False.elim hT
    cases v with
    | int dp =>
      rcases st with _ | ⟨v, st⟩
      · exact False.elim hT
      cases v with
      | ref a1 =>
        rcases st with _ | ⟨v, st⟩
        · exact False.elim hT
        cases v with
        | int spos =>
          rcases st with _ | ⟨v, st⟩
          · exact False.elim hT
          cases v with
          | ref a0 =>
            cases hc0 : h[a0]? with
            | none => simp only [gi_rcopy, hc0] at hT
            | some ce0 =>
              cases hcc1 : h[a1]? with
              | none => simp only [gi_rcopy, hc0, hcc1] at hT
              | some ce1 =>
                obtain ⟨t0, l0, x0 | x0 | x0 | x0 | f⟩ | ⟨c0, fs⟩ := ce0
                · simp only [gi_rcopy, hc0, hcc1] at hT
                · simp only [gi_rcopy, hc0, hcc1] at hT
                · simp only [gi_rcopy, hc0, hcc1] at hT
                · simp only [gi_rcopy, hc0, hcc1] at hT
                · obtain ⟨t1, l1, x1 | x1 | x1 | x1 | g⟩ | ⟨c1, fs⟩ := ce1
                  · simp only [gi_rcopy, hc0, hcc1] at hT
                  · simp only [gi_rcopy, hc0, hcc1] at hT
                  · simp only [gi_rcopy, hc0, hcc1] at hT
                  · simp only [gi_rcopy, hc0, hcc1] at hT
                  · cases hb0 : Nat.beq t0 t with
                    | false => simp only [gi_rcopy, hc0, hcc1, hb0] at hT
                    | true =>
                      cases hb1 : Nat.beq t1 t with
                      | false => simp only [gi_rcopy, hc0, hcc1, hb0, hb1] at hT
                      | true =>
                        cases hb2 : Nat.ble (st.map Value.category).sum 8 with
                        | false => simp only [gi_rcopy, hc0, hcc1, hb0, hb1, hb2] at hT
                        | true =>
                          simp only [gi_rcopy, hc0, hcc1, hb0, hb1, hb2] at hT
                          have hsum := Nat.le_of_ble_eq_true hb2
                          have e0 : t0 = t := Nat.eq_of_beq_eq_true hb0
                          have e1 : t1 = t := Nat.eq_of_beq_eq_true hb1
                          subst e0
                          subst e1
                          obtain ⟨⟨⟨g1, g2, g3⟩, g4, g5, g6⟩, hT⟩ := hT
                          obtain ⟨hP, hD, hS, hok, hn0, had⟩ := id hh
                          have hnw : nativeFrameWords "java/lang/System" "arraycopy" 5 ≤ 1000 := by decide
                          refine va_copyM hx hb (hml.trans hv.1.symm) hown (hts _ hlink) (hts _ hnat) (hts _ hstat) (hts _ hini) hK0 hP hD hS a0 a1 t1 t1 (f := fun j => (f j).map ad) (g := fun j => (g j).map ad) (gx_w_at hc0) (gx_w_at hcc1) (gx_ty_at ht) (gx_ty_at ht) g1 g2 g3 g4 g5 (fun i hi y hy => ?_) (by omega) (by rw [gx_catsum]; omega) hd (fun H1 locs1 hP1 hD1 hS1 => ?_)
                          · obtain ⟨y0, hy0, rfl⟩ := Option.map_eq_some_iff.mp hy
                            obtain ⟨c9, fs9, hc9, hcs9⟩ := g6 i hi y0 hy0
                            obtain ⟨r9, hr9, hg9⟩ := hca c9 hcs9
                            exact va_rAny hK0 hP (gx_w_at hc9) hr9 (fun comp c0 q1 q2 => vb_asgC (hg9 _ _ _ _ hG0) comp c0 q1 q2)
                          have el : (h.set a1 (.inl (t1, l1, .inr (.inr (.inr (.inr (va_cpy f g spos.toNatClampNeg dp.toNatClampNeg n.toNatClampNeg))))))).length = h.length := List.length_set
                          have ew : gx_w dT sp ad (h.set a1 (.inl (t1, l1, .inr (.inr (.inr (.inr (va_cpy f g spos.toNatClampNeg dp.toNatClampNeg n.toNatClampNeg))))))) = (gx_w dT sp ad h).set a1 (ad a1, .inl (dT t1, l1, .inr (.inr (.inr (.inr (va_cpy (fun j => (f j).map ad) (fun j => (g j).map ad) spos.toNatClampNeg dp.toNatClampNeg n.toNatClampNeg)))))) := by
                            rw [← gx_w_set]
                            congr 1
                            show (ad a1, Sum.inl (dT t1, l1, Sum.inr (Sum.inr (Sum.inr (Sum.inr (fun j => (va_cpy f g spos.toNatClampNeg dp.toNatClampNeg n.toNatClampNeg j).map ad)))))) = _
                            congr 8
                            funext j
                            unfold va_cpy
                            by_cases hj : dp.toNatClampNeg ≤ j ∧ j < dp.toNatClampNeg + n.toNatClampNeg <;> simp [hj]
                          refine hK _ hT ad H1 locs1 ls ⟨by rw [ew]; exact hP1, by rw [ew]; exact hD1, hS1, hok.set (fun j k hj => ?_), by rw [el]; exact hn0, had⟩ (by rw [el]; exact hv) (by rw [el]; exact (fun w e1 => hs w (List.mem_cons_of_mem _ (List.mem_cons_of_mem _ (List.mem_cons_of_mem _ (List.mem_cons_of_mem _ (List.mem_cons_of_mem _ e1))))))) hc1 hc2
                          unfold va_cpy at hj
                          by_cases hji : dp.toNatClampNeg ≤ j ∧ j < dp.toNatClampNeg + n.toNatClampNeg
                          · rw [if_pos hji] at hj
                            exact hok a0 _ hc0 _ k hj
                          · rw [if_neg hji] at hj
                            exact hok a1 _ hcc1 j k hj
                  · simp only [gi_rcopy, hc0, hcc1] at hT
                · simp only [gi_rcopy, hc0, hcc1] at hT
          | _ => exact False.elim hT
        | _ => exact False.elim hT
      | _ => exact False.elim hT
    | _ => exact False.elim hT
  | _ => exact False.elim hT
end GXS5
