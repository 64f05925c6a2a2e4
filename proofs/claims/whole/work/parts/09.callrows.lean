/-! Calls are right. Written by wip/tools/callrows.py. -/
section GXV
variable {cl : List vw_C} {tyl : List FieldType} {Ts : List Cond} {G : (Nat → Nat) → (Nat → Prop) → State → Heap → Prop} {cc : ByteArray} {my : MethodName} {nL : Nat} {ret : Option FieldType} {pc : Nat} {l : Launch} {zs : Nat → gx_M}
variable {idx m' k nL' : Nat} {Ts' Ts'' : List Cond} {cc' : ByteArray} {my' : MethodName} {ret' : Option FieldType}
theorem gx_recv {st : List Value} {a : Nat} (hlen : (st.take (k + 1)).reverse.length = k + 1) (ha : st[k]? = some (.ref a)) : ∃ As, (st.take (k + 1)).reverse = .ref a :: As ∧ As.length = k := by
  have hl : (st.take (k + 1)).length = k + 1 := by rw [← List.length_reverse]; exact hlen
  cases hr : (st.take (k + 1)).reverse with
  | nil => rw [hr] at hlen; cases hlen
  | cons v As =>
    have h0 : (st.take (k + 1)).reverse[0]? = some (.ref a) := by
      rw [List.getElem?_reverse (by omega), hl, show k + 1 - 1 - 0 = k by omega, List.getElem?_take, if_pos (by omega)]
      exact ha
    rw [hr] at h0 hlen
    have e : v = .ref a := by simpa using h0
    subst e
    exact ⟨As, rfl, by simpa using hlen⟩
theorem gx_plain {y : MethodName} {ws : List Cond} {rm : Room} {Pc : Array Value → State → Prop} {Qc : Array Value → State → Outcome → State → Prop} {XC : String → State → State → Prop} {mc ms : Nat} {free : Addr → Prop} (h : vx_Met l y ws rm Pc Qc XC mc ms free) (hx : ∀ E st t, XC E st t → False) : Met l y ws rm Pc Qc mc ms free := by
  intro p e ha hc hk s m args below hf happ hP hK
  obtain ⟨n, o, h1, h2, h3, h4⟩ := h p e ha hc hk s m args below hf happ hP hK
  refine ⟨n, o, h1, h2, h3, ?_⟩
  rcases h4 with h4 | ⟨q, -, E, ce, L, hX, -⟩
  · exact h4
  · exact (hx _ _ _ hX).elim
theorem gx_Q.mono {y : gx_D} {Q Q' : gx_R → Prop} {a : Array Value} {st t : State} {o : Outcome} (hq : ∀ r, Q r → Q' r) (h : gx_Q cl y Q a st o t) : gx_Q cl y Q' a st o t := by
  obtain ⟨v, h', ad, h1, h2⟩ := h
  exact ⟨v, h', ad, hq _ h1, h2⟩
theorem gx_k0.to {lv : List (Option Value)} {st : List Value} {nx bc bs : Nat} {K : gx_S → Prop} {Q : gx_R → Prop} (r : gx_R) (h : gx_k0 lv st nx bc bs K r) : gx_k lv st nx bc bs K Q r := by
  obtain ⟨v, hp⟩ := r
  rcases v with v | v
  · cases v with
    | none => exact h
    | some u => exact False.elim h
  · exact False.elim h
theorem gs_callV {ci N : Nat} {Cn : String} {T : u_T} (ez : zs m' = (cl, tyl, G, Ts', cc', my', nL', ret')) (hGo : gx_Gok G) (hG : GoodIn Ts Ts') (hw : Ts' = Cond.code my' cc' nL' ret' :: Ts'') (hc : cl[ci]? = some (Cn, T, N)) (hini : Cond.initialized my'.cls ∈ Ts) (hlink : Cond.methodLink my.cls idx my' ∈ Ts) (hinst : Cond.instanceMethod my' ∈ Ts) (hsel : Cond.selects Cn my' my' ∈ Ts)
    (hd9 : my'.cls ≠ "java/lang/invoke/MethodHandle" ∧ my'.cls ≠ "java/lang/invoke/VarHandle" ∧ (parseMethodDescriptor my'.desc).map (fun d => d.parameters.length) = some k) (hmax : nL' ≤ 45 ∧ k + 1 ≤ nL') (hd : decode cc pc = .ok (.invokevirtual idx, 3)) : gx_Sn l zs (cl, tyl, G, Ts, cc, my, nL, ret) pc (gi_vcall (gx_sel ci m' nL') k (pc + 3)) := by
  rintro ⟨p, l', e, R, s, m, args, below, meth, c⟩ ⟨D, dT, sp, A, n0, ad0⟩ d lv st h bc bs K Q C e1 ⟨⟨hx, hb, hml, hown, hnm0, hret⟩, hts, hK0, hA, hlk, hG0⟩ hex hf hlo hT hK hC ad H locs ls hh hv hs hc1 hc2
  have e1 : l' = l := e1
  subst e1
  have hf : R.frames = d + 20 := hf
  have hlo : R.locals = 64 * d + 2000 := hlo
  cases ha : st[k]? with
  | none => simp only [gi_vcall, ha] at hT
  | some v0 =>
    cases v0 with
    | ref a =>
      cases hcell : h[a]? with
      | none => simp only [gi_vcall, ha, hcell] at hT
      | some ce =>
        obtain ⟨t0, x0⟩ | ⟨c0, fs⟩ := ce
        · simp only [gi_vcall, ha, hcell] at hT
        · cases hb1 : Nat.beq c0 ci with
          | false => simp only [gi_vcall, ha, hcell, gx_sel, hb1] at hT
          | true =>
            simp only [gi_vcall, ha, hcell, gx_sel, hb1] at hT
            have e0 : c0 = ci := Nat.eq_of_beq_eq_true hb1
            subst e0
            obtain ⟨⟨hsum, hcat, hlen⟩, kc, ks, ⟨hk1, hk2⟩, hcall⟩ := gx_call_inv hT
            obtain ⟨d', e2, hM⟩ := hC m' _ _ _ _ _ hcall
            rw [ez] at hM
            obtain ⟨As, eAs, hAl⟩ := gx_recv hlen ha
            rw [eAs] at hcat hM
            have hoka : ∀ v ∈ Value.ref a :: As, gx_ok h.length v := fun v hm => hs v (List.mem_of_mem_take (List.mem_reverse.mp (by rw [eAs]; exact hm)))
            have hMet := hM (.ref a :: As) (by rw [List.length_cons, hAl]) hcat (by rw [List.length_cons, hAl]; exact hmax.2) ad H.size
            have hst := gx_stack (sp := sp) (ad := ad) (st := st) (n := k + 1)
            rw [eAs] at hst
            refine gx_after (ret := ret) (len := 3) (vx_runV (As := As.map (gx_v sp ad)) (rest := (st.drop (k + 1)).map (gx_v sp ad)) ⟨hx, hb, hml, hown, hts⟩ hMet ⟨callB_of k hts hG hw rfl rfl (hts _ hini) (hts _ hlink) hd9 ⟨by show d' + 20 + 1 ≤ R.frames; omega, by show 8 + (nL' + 11) + (64 * d' + 2000) ≤ R.locals; omega⟩, hts _ hinst, hts _ hsel⟩ ⟨fun a9 U g mk q => by
        obtain ⟨q0, q1, qP, qK, qD, qG, qo⟩ := q
        exact ⟨q0, q1, qP, va_K.moved (u := U) (U := U.calling g mk a9) (Vm.Alike.refl U.vm) qK, qD, hGo.1 _ _ U (U.calling g mk a9) _ (State.WarmedH.refl U) qG, qo⟩, va_recv hK0 hh.1 hc (gx_w_at hcell), fun U hU hW => ⟨rfl, by rw [hU], by rw [hU]; exact hh.1, va_K.moved hW.alike hK0, hh.2.1.weaken (fun _ _ _ _ => trivial), gx_G_in hGo hA hh hG0 hU hW, hh.2.2.2.1, hoka⟩⟩
              rfl (by rw [List.length_map]; exact hAl) hv.1 (by rw [hst]; simp [gx_v]) (by rw [gx_catsum]; show 2 * 0 + _ ≤ 8; omega) hd ⟨by omega, by omega⟩) hA hh hv (fun v hm => hs v (List.mem_of_mem_drop hm)) hc1 hc2 hk1 hk2 hK (fun E h' ad' H' locs' q ce hQ r1 r2 g1 g2 g3 => by
      obtain ⟨hP', hD', hS', hok', hn', had'⟩ := r1
      exact vx_out (fun x hx9 => (hex x hx9).elim) hlk g1 g2 g3 (fun t ht _ => ⟨h', ad', hQ, ⟨by rw [ht]; exact hP', hD', hok', hn', had'⟩, hS'.F ht⟩) hS'.2.2 (Nat.sub_le _ _) (Nat.sub_le _ _))
    | _ => simp only [gi_vcall, ha] at hT
theorem gs_callS (ez : zs m' = (cl, tyl, G, Ts', cc', my', nL', ret')) (hGo : gx_Gok G) (hG : GoodIn Ts Ts') (hw : Ts' = Cond.code my' cc' nL' ret' :: Ts'') (hini : Cond.initialized my'.cls ∈ Ts) (hlink : Cond.methodLink my.cls idx my' ∈ Ts) (hstat : Cond.static my' ∈ Ts)
    (hd9 : my'.cls ≠ "java/lang/invoke/MethodHandle" ∧ my'.cls ≠ "java/lang/invoke/VarHandle" ∧ (parseMethodDescriptor my'.desc).map (fun d => d.parameters.length) = some k) (hmax : nL' ≤ 45 ∧ k ≤ nL') (hd : decode cc pc = .ok (.invokestatic idx, 3)) : gx_Sn l zs (cl, tyl, G, Ts, cc, my, nL, ret) pc (gi_call m' k nL' (pc + 3)) := by
  rintro ⟨p, l', e, R, s, m, args, below, meth, c⟩ ⟨D, dT, sp, A, n0, ad0⟩ d lv st h bc bs K Q C e1 ⟨⟨hx, hb, hml, hown, hnm0, hret⟩, hts, hK0, hA, hlk, hG0⟩ hex hf hlo hT hK hC ad H locs ls hh hv hs hc1 hc2
  have e1 : l' = l := e1
  subst e1
  have hf : R.frames = d + 20 := hf
  have hlo : R.locals = 64 * d + 2000 := hlo
  obtain ⟨⟨hsum, hcat, hlen⟩, kc, ks, ⟨hk1, hk2⟩, hcall⟩ := gx_call_inv hT
  obtain ⟨d', e2, hM⟩ := hC m' _ _ _ _ _ hcall
  rw [ez] at hM
  have hoka : ∀ v ∈ (st.take k).reverse, gx_ok h.length v := fun v hm => hs v (List.mem_of_mem_take (List.mem_reverse.mp hm))
  have hMet := hM (st.take k).reverse (by rw [hlen]) hcat (by rw [hlen]; exact hmax.2) ad H.size
  refine gx_after (ret := ret) (len := 3) (vx_runS (As := (st.take k).reverse.map (gx_v sp ad)) (rest := (st.drop k).map (gx_v sp ad)) ⟨hx, hb, hml, hown, hts⟩ hMet ⟨callB_of k hts hG hw rfl rfl (hts _ hini) (hts _ hlink) hd9 ⟨by show d' + 20 + 1 ≤ R.frames; omega, by show 8 + (nL' + 11) + (64 * d' + 2000) ≤ R.locals; omega⟩, hts _ hstat⟩ ⟨fun a9 U g mk q => by
        obtain ⟨q0, q1, qP, qK, qD, qG, qo⟩ := q
        exact ⟨q0, q1, qP, va_K.moved (u := U) (U := U.calling g mk a9) (Vm.Alike.refl U.vm) qK, qD, hGo.1 _ _ U (U.calling g mk a9) _ (State.WarmedH.refl U) qG, qo⟩, fun U hU hW => ⟨rfl, by rw [hU], by rw [hU]; exact hh.1, va_K.moved hW.alike hK0, hh.2.1.weaken (fun _ _ _ _ => trivial), gx_G_in hGo hA hh hG0 hU hW, hh.2.2.2.1, hoka⟩⟩
    rfl (by rw [List.length_map]; exact hlen) hv.1 gx_stack (by rw [gx_catsum]; show 2 * 0 + _ ≤ 8; omega) hd ⟨by omega, by omega⟩) hA hh hv (fun v hm => hs v (List.mem_of_mem_drop hm)) hc1 hc2 hk1 hk2 hK (fun E h' ad' H' locs' q ce hQ r1 r2 g1 g2 g3 => by
      obtain ⟨hP', hD', hS', hok', hn', had'⟩ := r1
      exact vx_out (fun x hx9 => (hex x hx9).elim) hlk g1 g2 g3 (fun t ht _ => ⟨h', ad', hQ, ⟨by rw [ht]; exact hP', hD', hok', hn', had'⟩, hS'.F ht⟩) hS'.2.2 (Nat.sub_le _ _) (Nat.sub_le _ _))
theorem gs_callI (ez : zs m' = (cl, tyl, G, Ts', cc', my', nL', none)) (hGo : gx_Gok G) (hG : GoodIn Ts Ts') (hw : Ts' = Cond.code my' cc' nL' none :: Ts'') (hini : Cond.initialized my'.cls ∈ Ts) (hlink : Cond.methodLink my.cls idx my' ∈ Ts) (hinst : Cond.instanceMethod my' ∈ Ts) (hnm : my'.name = "<init>")
    (hd9 : my'.cls ≠ "java/lang/invoke/MethodHandle" ∧ my'.cls ≠ "java/lang/invoke/VarHandle" ∧ (parseMethodDescriptor my'.desc).map (fun d => d.parameters.length) = some k) (hmax : nL' ≤ 45 ∧ k + 1 ≤ nL') (hd : decode cc pc = .ok (.invokespecial idx, 3)) : gx_Sn l zs (cl, tyl, G, Ts, cc, my, nL, ret) pc (gi_scall m' k nL' (pc + 3)) := by
  rintro ⟨p, l', e, R, s, m, args, below, meth, c⟩ ⟨D, dT, sp, A, n0, ad0⟩ d lv st h bc bs K Q C e1 ⟨⟨hx, hb, hml, hown, hnm0, hret⟩, hts, hK0, hA, hlk, hG0⟩ hex hf hlo hT hK hC ad H locs ls hh hv hs hc1 hc2
  have e1 : l' = l := e1
  subst e1
  have hf : R.frames = d + 20 := hf
  have hlo : R.locals = 64 * d + 2000 := hlo
  cases ha : st[k]? with
  | none => simp only [gi_scall, ha] at hT
  | some v0 =>
    cases v0 with
    | ref a =>
      simp only [gi_scall, ha] at hT
      obtain ⟨⟨hsum, hcat, hlen⟩, kc, ks, ⟨hk1, hk2⟩, hcall⟩ := gx_call_inv hT
      obtain ⟨d', e2, hM⟩ := hC m' _ _ _ _ _ hcall
      rw [ez] at hM
      obtain ⟨As, eAs, hAl⟩ := gx_recv hlen ha
      rw [eAs] at hcat hM
      have hoka : ∀ v ∈ Value.ref a :: As, gx_ok h.length v := fun v hm => hs v (List.mem_of_mem_take (List.mem_reverse.mp (by rw [eAs]; exact hm)))
      have hMet := hM (.ref a :: As) (by rw [List.length_cons, hAl]) hcat (by rw [List.length_cons, hAl]; exact hmax.2) ad H.size
      have hst := gx_stack (sp := sp) (ad := ad) (st := st) (n := k + 1)
      rw [eAs] at hst
      have hMet := gx_plain hMet (fun E st t hX => by obtain ⟨h9, ad9, hX, -⟩ := hX; exact hX)
      have hr : va_Run p l' e R s m args below meth c H locs (R.cells - bc) (R.slots - bs) kc ks (F0 m pc ls (st.map (gx_v sp ad))) ((st.drop (k + 1)).map (gx_v sp ad)) (gx_Q cl (D, dT, sp, va_A (gx_w dT sp ad h) H.size, h.length, ad) (gx_k0 lv (st.drop (k + 1)) (pc + 3) (bc - kc) (bs - ks) K) (Value.ref (ad a) :: As.map (gx_v sp ad)).toArray) (va_A (gx_w dT sp ad h) H.size) :=
        va_runI ⟨hx, hb, hml, hown, hts⟩ hMet ⟨callB_of k hts hG hw rfl rfl (hts _ hini) (hts _ hlink) hd9 ⟨by show d' + 20 + 1 ≤ R.frames; omega, by show 8 + (nL' + 11) + (64 * d' + 2000) ≤ R.locals; omega⟩, hnm, hts _ hinst⟩ ⟨fun a9 U g mk q => by
        obtain ⟨q0, q1, qP, qK, qD, qG, qo⟩ := q
        exact ⟨q0, q1, qP, va_K.moved (u := U) (U := U.calling g mk a9) (Vm.Alike.refl U.vm) qK, qD, hGo.1 _ _ U (U.calling g mk a9) _ (State.WarmedH.refl U) qG, qo⟩, fun U hU hW => ⟨rfl, by rw [hU], by rw [hU]; exact hh.1, va_K.moved hW.alike hK0, hh.2.1.weaken (fun _ _ _ _ => trivial), gx_G_in hGo hA hh hG0 hU hW, hh.2.2.2.1, hoka⟩⟩
          rfl (by rw [List.length_map]; exact hAl) hv.1 (by rw [hst]; simp [gx_v]) (by rw [gx_catsum]; show 2 * 0 + _ ≤ 8; omega) hd ⟨by omega, by omega⟩
      refine gx_after (ret := ret) (len := 3) (Q := Q) (st := st.drop (k + 1)) (a := (Value.ref (ad a) :: As.map (gx_v sp ad)).toArray) (fun T hT9 X => ?_) hA hh hv (fun v hm => hs v (List.mem_of_mem_drop hm)) hc1 hc2 hk1 hk2 hK (fun E h' ad' H' locs' q ce hQ r1 r2 g1 g2 g3 => by
      obtain ⟨hP', hD', hS', hok', hn', had'⟩ := r1
      exact vx_out (fun x hx9 => (hex x hx9).elim) hlk g1 g2 g3 (fun t ht _ => ⟨h', ad', hQ, ⟨by rw [ht]; exact hP', hD', hok', hn', had'⟩, hS'.F ht⟩) hS'.2.2 (Nat.sub_le _ _) (Nat.sub_le _ _))
      obtain ⟨v, st₀, t, T', L, h0, X', hL, e3, e4, hq, go⟩ := hr T hT9 X
      exact Or.inl ⟨v, st₀, t, T', L, h0, X', hL, e3, e4, gx_Q.mono gx_k0.to hq, go⟩
    | _ => simp only [gi_scall, ha] at hT
theorem gs_obj (hlink : Cond.methodLink my.cls idx Lib.objectInit ∈ Ts) (hinst : Cond.instanceMethod Lib.objectInit ∈ Ts) (hcode : Cond.code Lib.objectInit ⟨#[0xb1]⟩ 1 none ∈ Ts) (hd : decode cc pc = .ok (.invokespecial idx, 3)) : gx_Sn l zs (cl, tyl, G, Ts, cc, my, nL, ret) pc (gi_obj (pc + 3)) := by
  rintro ⟨p, l', e, R, s, m, args, below, meth, c⟩ ⟨D, dT, sp, A, n0, ad0⟩ d lv st h bc bs K Q C e1 ⟨⟨hx, hb, hml, hown, hnm0, hret⟩, hts, hK0, hA, hlk, hG0⟩ hex hf hlo hT hK hC ad H locs ls hh hv hs hc1 hc2
  have e1 : l' = l := e1
  subst e1
  have hf : R.frames = d + 20 := hf
  have hlo : R.locals = 64 * d + 2000 := hlo
  rcases st with _ | ⟨v, st⟩
  · exact False.elim hT
  cases v with
  | ref a =>
    cases hb1 : Nat.ble (st.map Value.category).sum 8 with
    | false => simp only [gi_obj, hb1] at hT
    | true =>
      simp only [gi_obj, hb1] at hT
      have hsum := Nat.le_of_ble_eq_true hb1
      exact W.objInit hx hb hown (hts _ hlink) (hts _ hinst) (hts _ hcode) rfl (hv.1.trans hml.symm) (rest := st.map (gx_v sp ad)) rfl hd (by omega) (by rw [gx_catsum]; show 2 * 0 + _ + 12 ≤ R.locals; omega) (hK _ hT ad H locs ls hh hv (fun v hm => hs v (List.mem_cons_of_mem _ hm)) hc1 hc2)
  | _ => exact False.elim hT
theorem gs_puti {ci k idx N : Nat} {Cn : String} {T : u_T} (hc : cl[ci]? = some (Cn, T, N)) (hin : ∀ w ∈ u_ws Cn T N, w ∈ Ts) (ty0 : Nat → FieldType) (hty : ∀ k, k < N → parseFieldDescriptor (T k).2.2.1 = some (ty0 k)) (hnm : ∀ a, a < N → ∀ b, b < N → a ≠ b → (T a).2.1 ≠ (T b).2.1) (hk : k < N) (hty1 : parseFieldDescriptor (T k).2.2.1 = some .int) (hlink : Cond.fieldLink my.cls idx (T k).1 (T k).2.1 (T k).2.2.1 ∈ Ts) (hfin : (T k).2.2.2 = false) (hd : decode cc pc = .ok (.putfield idx, 3)) : gx_s1 (cl, tyl, G, Ts, cc, my, nL, ret) pc (gi_puti ci k (pc + 3)) :=
  fun x y Fin lv st h bc bs K Q C hC hT hK => gs_put hc hin ty0 hty hnm hk hty1 hlink hfin hd x y Fin lv st h bc bs K Q C hC hT.to hK
theorem gs_ireti (hd : decode cc pc = .ok (.ireturn, 1)) : gx_sR (cl, tyl, G, Ts, cc, my, nL, some .int) pc gi_ireti :=
  fun x y lv st h bc bs K Q C hC hT => gs_iret hd x y lv st h bc bs K Q C hC hT.to
end GXV
