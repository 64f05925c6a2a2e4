/-! throw, Math.max, arraycopy, checkcast, getstatic, getfield of a nest mate. Written by wip/tools/mach4.py. -/
section GXO
variable {cl : List vw_C} {tyl : List FieldType} {Ts : List Cond} {G : (Nat → Nat) → (Nat → Prop) → State → Heap → Prop} {cc : ByteArray} {my : MethodName} {nL : Nat} {ret : Option FieldType} {pc : Nat} {l : Launch} {zs : Nat → gx_M} {idx : Nat}
theorem gs_thr {cls : String} {names : List String} {ik ic : Nat} (hl : l.stackTraces = false) (hcls : Bundle.fit cls = true) (hnames : ∀ n ∈ names, Bundle.fit n = true) (hk : Cond.classLink my.cls ik cls ∈ Ts) (hini : Cond.initialized cls ∈ Ts) (hat : ∀ w ∈ vx_at0 my.cls ic cls names, w ∈ Ts ∨ (w.onTables = true ∧ ∀ sp A U H, G sp A U H → va_Nw w U))
    (hgood : ∀ w ∈ Cond.classLink my.cls ik cls :: Cond.initialized cls :: vx_at0 my.cls ic cls names, vx_ot w = true) (hgU : ∀ sp A U H, G sp A U H → vx_Zq Bundle.tN "UNASSIGNED_STACK" Bundle.steD A U H ∧ vx_Zq Bundle.tN "SUPPRESSED_SENTINEL" Bundle.listD A U H) (hnn : names.length ≤ 10)
    (d0 : decode cc pc = .ok (.new ik, 3)) (d3 : decode cc (pc + 3) = .ok (.dup, 1)) (d4 : decode cc (pc + 4) = .ok (.invokespecial ic, 3)) (d7 : decode cc (pc + 7) = .ok (.athrow, 1)) : gx_Sn l zs (cl, tyl, G, Ts, cc, my, nL, ret) pc (gi_thr cls) := by
  rintro ⟨p, l', e, R, s, m, args, below, meth, c⟩ ⟨D, dT, sp, A, n0, ad0⟩ d lv st h bc bs K Q C e1 ⟨⟨hx, hb, hml, hown, hnm0, hret⟩, hts, hK0, hA, hlk, hG0⟩ hex hf hlo hT hK hC ad H locs ls hh hv hs hc1 hc2
  have e1 : l' = l := e1
  subst e1
  have hf : R.frames = d + 20 := hf
  have hlo : R.locals = 64 * d + 2000 := hlo
  cases hb1 : Nat.ble (st.map Value.category).sum 8 with
  | false => simp only [gi_thr, hb1] at hT
  | true =>
    simp only [gi_thr, hb1] at hT
    have hsum := Nat.le_of_ble_eq_true hb1
    obtain ⟨⟨hb2, hb3⟩, hQ⟩ := hT
    obtain ⟨hP, hD, hS, hok, hn0, had⟩ := hh
    refine vx_throw0 hx hb hl hown hcls hnames (hts _ hk) (hts _ hini) (fun w hw => ?_) hgood (hgU _ _ _ _ hG0).1 (hgU _ _ _ _ hG0).2 hS (hv.1.trans hml.symm) d0 d3 d4 d7 (fun x hx9 => (hex x hx9).elim) (by omega) (by rw [gx_catsum]; omega) (by omega) (by omega) hlk (fun t hal hsz hq => ?_) hS.2.2 (by omega) (by omega)
    · rcases hat w hw with h9 | ⟨h9, h8⟩
      · exact hts w h9
      · exact va_Nw.use h9 (h8 _ _ _ _ hG0)
    · exact ⟨h, ad, hQ, ⟨hP.kept (fun k q hk9 => hq q.1 (hP k q hk9).lt), hD, hok, hn0, had⟩, Nat.le_trans hS.1 hsz, fun q h1 h2 => (hq q (Nat.lt_of_lt_of_le h1 hS.1)).trans (hS.2.1 q h1 h2)⟩
theorem gs_max (hlink : Cond.methodLink my.cls idx Lib.Math.max.name ∈ Ts) (hstat : Cond.static Lib.Math.max.name ∈ Ts) (hini : Cond.initialized "java/lang/Math" ∈ Ts) (hcode : Cond.code Lib.Math.max.name Lib.Math.max.code 2 (some .int) ∈ Ts) (hd : decode cc pc = .ok (.invokestatic idx, 3)) : gx_Sn l zs (cl, tyl, G, Ts, cc, my, nL, ret) pc (gi_max (pc + 3)) := by
  rintro ⟨p, l', e, R, s, m, args, below, meth, c⟩ ⟨D, dT, sp, A, n0, ad0⟩ d lv st h bc bs K Q C e1 ⟨⟨hx, hb, hml, hown, hnm0, hret⟩, hts, hK0, hA, hlk, hG0⟩ hex hf hlo hT hK hC ad H locs ls hh hv hs hc1 hc2
  have e1 : l' = l := e1
  subst e1
  have hf : R.frames = d + 20 := hf
  have hlo : R.locals = 64 * d + 2000 := hlo
  rcases st with _ | ⟨v, st⟩
  · exact False.elim hT
  cases v with
  | int b =>
    rcases st with _ | ⟨v, st⟩
    · exact False.elim hT
    cases v with
    | int a =>
      cases hb1 : Nat.ble (st.map Value.category).sum 8 with
      | false => simp only [gi_max, hb1] at hT
      | true =>
        simp only [gi_max, hb1] at hT
        have hsum := Nat.le_of_ble_eq_true hb1
        exact va_mmax hx hb (hml.trans hv.1.symm) hown (hts _ hlink) (hts _ hstat) (hts _ hini) (hts _ hcode) (by omega) (by rw [gx_catsum]; omega) (Nat.sub_le _ _) (Nat.sub_le _ _) hd (hK _ hT ad H locs ls hh hv (fun w hm => by
          rcases List.mem_cons.mp hm with e1 | e1
          · rw [e1]; trivial
          · exact hs w (List.mem_cons_of_mem _ (List.mem_cons_of_mem _ e1))) hc1 hc2)
    | _ => exact False.elim hT
  | _ => exact False.elim hT
theorem gs_copy {t : Nat} {ty : FieldType} (ht : tyl[t]? = some ty) (hprim : refKind ty = false) (hlink : Cond.methodLink my.cls idx arraycopyName ∈ Ts) (hnat : Cond.native arraycopyName ∈ Ts) (hstat : Cond.static arraycopyName ∈ Ts) (hini : Cond.initialized "java/lang/System" ∈ Ts) (hd : decode cc pc = .ok (.invokestatic idx, 3)) : gx_Sn l zs (cl, tyl, G, Ts, cc, my, nL, ret) pc (gi_copy t (fun x => fits ty (.int x) = true) (pc + 3)) := by
  rintro ⟨p, l', e, R, s, m, args, below, meth, c⟩ ⟨D, dT, sp, A, n0, ad0⟩ d lv st h bc bs K Q C e1 ⟨⟨hx, hb, hml, hown, hnm0, hret⟩, hts, hK0, hA, hlk, hG0⟩ hex hf hlo hT hK hC ad H locs ls hh hv hs hc1 hc2
  have e1 : l' = l := e1
  subst e1
  have hf : R.frames = d + 20 := hf
  have hlo : R.locals = 64 * d + 2000 := hlo
  rcases st with _ | ⟨v, st⟩
  · exact False.elim hT
  cases v with
  | int n =>
    rcases st with _ | ⟨v, st⟩
    · exact False.elim hT
    cases v with
    | int dp =>
      rcases st with _ | ⟨v, st⟩
      · exact False.elim hT
      cases v with
      | ref a1 =>
        rcases st with _ | ⟨v, st⟩
        · exact False.elim hT
        cases v with
        | int spos =>
          rcases st with _ | ⟨v, st⟩
          · exact False.elim hT
          cases v with
          | ref a0 =>
            cases hc0 : h[a0]? with
            | none => simp only [gi_copy, hc0] at hT
            | some ce0 =>
              cases hcc1 : h[a1]? with
              | none => simp only [gi_copy, hc0, hcc1] at hT
              | some ce1 =>
                obtain ⟨t0, l0, f | x0⟩ | ⟨c0, fs⟩ := ce0
                · obtain ⟨t1, l1, g | x1⟩ | ⟨c1, fs⟩ := ce1
                  · cases hb0 : Nat.beq t0 t with
                    | false => simp only [gi_copy, hc0, hcc1, hb0] at hT
                    | true =>
                      cases hb1 : Nat.beq t1 t with
                      | false => simp only [gi_copy, hc0, hcc1, hb0, hb1] at hT
                      | true =>
                        cases hb2 : Nat.ble (st.map Value.category).sum 8 with
                        | false => simp only [gi_copy, hc0, hcc1, hb0, hb1, hb2] at hT
                        | true =>
                          simp only [gi_copy, hc0, hcc1, hb0, hb1, hb2] at hT
                          have hsum := Nat.le_of_ble_eq_true hb2
                          have e0 : t0 = t := Nat.eq_of_beq_eq_true hb0
                          have e1 : t1 = t := Nat.eq_of_beq_eq_true hb1
                          subst e0
                          subst e1
                          obtain ⟨⟨⟨g1, g2, g3⟩, g4, g5, g6⟩, hT⟩ := hT
                          obtain ⟨hP, hD, hS, hok, hn0, had⟩ := id hh
                          have hnw : nativeFrameWords "java/lang/System" "arraycopy" 5 ≤ 1000 := by decide
                          refine va_copyi hx hb (hml.trans hv.1.symm) hown (hts _ hlink) (hts _ hnat) (hts _ hstat) (hts _ hini) hK0 hP hD hS a0 a1 t1 t1 (gx_w_at hc0) (gx_w_at hcc1) (gx_ty_at ht) (gx_ty_at ht) hprim g1 g2 g3 g4 g5 g6 (by omega) (by rw [gx_catsum]; omega) hd (fun H1 locs1 hP1 hD1 hS1 => ?_)
                          have ew := gx_w_set dT sp ad h a1 (.inl (t1, l1, .inl (va_cpy f g spos.toNatClampNeg dp.toNatClampNeg n.toNatClampNeg)))
                          have el : (h.set a1 (.inl (t1, l1, .inl (va_cpy f g spos.toNatClampNeg dp.toNatClampNeg n.toNatClampNeg)))).length = h.length := List.length_set
                          exact hK _ hT ad H1 locs1 ls ⟨by rw [← ew]; exact hP1, by rw [← ew]; exact hD1, hS1, hok.set trivial, by rw [el]; exact hn0, had⟩ (by rw [el]; exact hv) (by rw [el]; exact (fun w e1 => hs w (List.mem_cons_of_mem _ (List.mem_cons_of_mem _ (List.mem_cons_of_mem _ (List.mem_cons_of_mem _ (List.mem_cons_of_mem _ e1))))))) hc1 hc2
                  · simp only [gi_copy, hc0, hcc1] at hT
                  · simp only [gi_copy, hc0, hcc1] at hT
                · simp only [gi_copy, hc0, hcc1] at hT
                · simp only [gi_copy, hc0, hcc1] at hT
          | _ => exact False.elim hT
        | _ => exact False.elim hT
      | _ => exact False.elim hT
    | _ => exact False.elim hT
  | _ => exact False.elim hT
theorem gs_ccast {nm : String} {cs : List Nat} (hlink : Cond.classLink my.cls idx nm ∈ Ts) (hca : ∀ ci ∈ cs, ∃ r : vw_C, cl[ci]? = some r ∧ ∀ sp A U H, G sp A U H → va_Nw (.castable r.1 nm) U) (hd : decode cc pc = .ok (.checkcast idx, 3)) : gx_s1 (cl, tyl, G, Ts, cc, my, nL, ret) pc (gi_cast cs (pc + 3)) := by
  rintro ⟨p, l, e, R, s, m, args, below, meth, c⟩ ⟨D, dT, sp, A, n0, ad0⟩ Fin lv st h bc bs K Q C ⟨⟨hx, hb, hml, hown, hnm0, hret⟩, hts, hK0, hA, hlk, hG⟩ hT hK ad H locs ls hh hv hs hc1 hc2
  rcases st with _ | ⟨v, st⟩
  · exact False.elim hT
  cases v with
  | null => exact lv_castN hx hb hd (hK _ hT ad H locs ls hh hv hs hc1 hc2)
  | ref a =>
    obtain ⟨⟨c9, fs, hcell, hcs⟩, hT⟩ := hT
    obtain ⟨r, hr, hg9⟩ := hca c9 hcs
    exact va_castY hx hb hown (hts _ hlink) (hg9 _ _ _ _ hG) (va_recv hK0 hh.1 hr (gx_w_at hcell)) hd (hK _ hT ad H locs ls hh hv hs hc1 hc2)
  | _ => exact False.elim hT
theorem gs_getNw {ci k N : Nat} {Cn host : String} {T : u_T} (hc : cl[ci]? = some (Cn, T, N)) (hin : ∀ w ∈ u_ws Cn T N, w ∈ Ts) (hk : k < N) (hnl : ∀ sp A U H, G sp A U H → va_Nw (.fieldLinkNest my.cls idx (T k).1 (T k).2.1 (T k).2.2.1 host) U) (hd : decode cc pc = .ok (.getfield idx, 3)) : gx_s1 (cl, tyl, G, Ts, cc, my, nL, ret) pc (gi_get ci k (pc + 3)) := by
  rintro ⟨p, l, e, R, s, m, args, below, meth, c⟩ ⟨D, dT, sp, A, n0, ad0⟩ Fin lv st h bc bs K Q C ⟨⟨hx, hb, hml, hown, hnm0, hret⟩, hts, hK0, hA, hlk, hG⟩ hT hK ad H locs ls hh hv hs hc1 hc2
  rcases st with _ | ⟨v0, st⟩
  · exact False.elim hT
  cases v0 with
  | ref a =>
    cases hcell : h[a]? with
    | none => simp only [gi_get, hcell] at hT
    | some ce =>
      obtain ⟨t0, x0⟩ | ⟨c0, fs⟩ := ce
      · simp only [gi_get, hcell] at hT
      · cases hb1 : Nat.beq c0 ci with
        | false => simp only [gi_get, hcell, hb1] at hT
        | true =>
          cases hf : fs[k]? with
          | none => simp only [gi_get, hcell, hb1, hf] at hT
          | some v =>
            simp only [gi_get, hcell, hb1, hf] at hT
            have e0 : c0 = ci := Nat.eq_of_beq_eq_true hb1
            subst e0
            obtain ⟨hP, hD, hS, hok, hn0, had⟩ := id hh
            have hvok : gx_ok h.length v := hok a _ hcell v (List.mem_of_getElem? hf)
            exact va_getN hx hb hts hin hown hK0 hP a (gx_w_at hcell) hc k hk (va_Nw.use rfl (hnl _ _ _ _ hG)) (fun _ q => q) (v := gx_v sp ad v) (by rw [List.getElem?_map, hf]; rfl) hd (hK _ hT ad H locs ls hh hv (fun w hm => by
          rcases List.mem_cons.mp hm with e1 | e1
          · rw [e1]; exact hvok
          · exact hs w (List.mem_cons_of_mem _ e1)) hc1 hc2)
  | _ => exact False.elim hT
end GXO
