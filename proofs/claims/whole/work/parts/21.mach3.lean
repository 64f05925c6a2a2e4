/-! Ends, throws, copies and calls for the class. Written by wip/tools/mach3.py. -/
section GXN
variable {cl : List vw_C} {tyl : List FieldType} {Ts : List Cond} {G : (Nat → Nat) → (Nat → Prop) → State → Heap → Prop} {cc : ByteArray} {my : MethodName} {nL : Nat} {ret : Option FieldType} {pc : Nat} {l : Launch} {zs : Nat → gx_M}
variable {idx m' k nL' : Nat} {Ts' Ts'' : List Cond} {cc' : ByteArray} {my' : MethodName} {ret' : Option FieldType}
theorem gx_k1.to {lv : List (Option Value)} {st : List Value} {nx bc bs : Nat} {K : gx_S → Prop} {Q : gx_R → Prop} (r : gx_R) (h : gx_k1 lv st nx bc bs K r) : gx_k lv st nx bc bs K Q r := by
  obtain ⟨v, hp⟩ := r
  rcases v with v | v
  · cases v with
    | none => exact h
    | some u => exact h
  · exact False.elim h
theorem gs_aret {rt : FieldType} (hrt : (∃ n, rt = .object n) ∨ ∃ t, rt = .array t) (hd : decode cc pc = .ok (.areturn, 1)) : gx_sR (cl, tyl, G, Ts, cc, my, nL, some rt) pc gi_aret := by
  rintro ⟨p, l, e, R, s, m, args, below, meth, c⟩ ⟨D, dT, sp, A, n0, ad0⟩ lv st h bc bs K Q C ⟨⟨hx, hb, hml, hown, hnm0, hret⟩, hts, hK0, hA, hlk, hG⟩ hT ad H locs ls hh hv hs hc1 hc2
  rcases st with _ | ⟨v, _ | ⟨w, st⟩⟩
  · exact False.elim hT
  · cases hr9 : gx_isR v with
    | false => simp only [gi_aret, hr9] at hT
    | true =>
      simp only [gi_aret, hr9] at hT
      obtain ⟨hP, hD, hS, hok, hn0, had⟩ := hh
      refine vx_ret (W.widen (k := R.cells) (n := R.slots) (Nat.sub_le _ _) (Nat.sub_le _ _) ?_)
      refine W.aret hx hb hret hrt ?_ (fun t ht hW => ⟨some v, h, ad, hT, rfl, (fun u hu => by cases hu; exact hs v List.mem_cons_self), ⟨by rw [ht]; exact hP, hD, hok, hn0, had⟩, hS.F ht⟩) hS.2.2 hd hlk
      cases v with
      | ref a => exact Or.inr ⟨_, rfl⟩
      | retAddr a => exact Or.inr ⟨_, rfl⟩
      | null => exact Or.inl rfl
      | _ => cases hr9
  · exact False.elim hT
theorem gs_newl {t : Nat} (ht : tyl[t]? = some .long) (hw : Cond.arrayClass .long ∈ Ts) (hd : decode cc pc = .ok (.newarray .long, 2)) : gx_s1 (cl, tyl, G, Ts, cc, my, nL, ret) pc (gi_newl t (pc + 2)) := by
  rintro ⟨p, l, e, R, s, m, args, below, meth, c⟩ ⟨D, dT, sp, A, n0, ad0⟩ Fin lv st h bc bs K Q C ⟨⟨hx, hb, hml, hown, hnm0, hret⟩, hts, hK0, hA, hlk, hG⟩ hT hK ad H locs ls hh hv hs hc1 hc2
  rcases st with _ | ⟨v, st⟩
  · exact False.elim hT
  cases v with
  | int n =>
    obtain ⟨⟨hn, hby⟩, ⟨hb1, hb2⟩, hT⟩ := hT
    obtain ⟨hP, hD, hS, hok, hn0, had⟩ := hh
    refine va_newa (atype := .long) hx hb (hts _ hw) rfl hK0 hP hD hS hA (a0 := (n.toNatClampNeg, .inr (.inl (fun _ => 0)))) (fun cA => rfl) hn rfl (Nat.le_trans (Nat.mul_le_mul_left _ (by decide)) hby) (by omega) (by omega) hd (fun q cA H1 hK1 hP1 hD1 hS1 => ?_)
    have e1 : cA = dT t := by
      have h1 : s.vm.findClass ("[" ++ (FieldType.long).toString) = some cA := (hK1.2 (gx_ty dT tyl).length (cA, .long) (by rw [List.getElem?_append_right (Nat.le_refl _), Nat.sub_self]; rfl)).2
      have h2 : s.vm.findClass ("[" ++ (FieldType.long).toString) = some (dT t) := (hK0.2 t (dT t, .long) (gx_ty_at ht)).2
      exact Option.some.inj (h1.symm.trans h2)
    subst e1
    have hlen : (h ++ [(Sum.inl (t, n.toNatClampNeg, Sum.inr (Sum.inl (fun _ => 0))) : gx_E)]).length = h.length + 1 := by simp
    have hext : ∀ k, k < h.length → (fun k => if k = h.length then q else ad k) k = ad k := fun k hk => if_neg (Nat.ne_of_lt hk)
    have ew : gx_w dT sp (fun k => if k = h.length then q else ad k) (h ++ [(Sum.inl (t, n.toNatClampNeg, Sum.inr (Sum.inl (fun _ => 0))) : gx_E)]) = gx_w dT sp ad h ++ [(q, .inl (dT t, n.toNatClampNeg, .inr (.inl (fun _ => 0))))] := by
      rw [gx_w.push (ad := ad) _ hok hext]
      congr 1
      show [((if h.length = h.length then q else ad h.length), _)] = _
      rw [if_pos rfl]
      rfl
    have hst : (st.map (gx_v sp ad)) = st.map (gx_v sp (fun k => if k = h.length then q else ad k)) := List.map_congr_left (fun v hm => (gx_v.ext (hs v (List.mem_cons_of_mem _ hm)) hext).symm)
    rw [show R.cells - bc + 1 = R.cells - (bc - 1) by omega, show R.slots - bs + n.toNatClampNeg = R.slots - (bs - n.toNatClampNeg) by omega, hst]
    have hg := hK _ hT (fun k => if k = h.length then q else ad k) H1 locs ls ⟨by rw [ew]; exact hP1, by rw [ew]; exact hD1, hS1, hok.push trivial, by rw [hlen]; omega, fun k hk => (hext k (Nat.lt_of_lt_of_le hk hn0)).trans (had k hk)⟩
      ⟨hv.1, hv.2.1, hv.2.2.1, fun i v hi => ⟨by rw [gx_v.ext (hv.2.2.2 i v hi).2.1 hext]; exact (hv.2.2.2 i v hi).1, (hv.2.2.2 i v hi).2.1.le (by rw [hlen]; omega), (hv.2.2.2 i v hi).2.2⟩⟩
      (fun v hm => by
        rcases List.mem_cons.mp hm with e1 | e1
        · rw [e1]; show h.length < (h ++ [_]).length; rw [hlen]; omega
        · exact (hs v (List.mem_cons_of_mem _ e1)).le (by rw [hlen]; omega)) (by omega) (by omega)
    rw [List.map_cons] at hg
    have e0 : gx_v sp (fun k => if k = h.length then q else ad k) (.ref h.length) = .ref q := by
      show Value.ref (if h.length = h.length then q else ad h.length) = .ref q
      rw [if_pos rfl]
    rw [e0] at hg
    exact hg
  | _ => exact False.elim hT
theorem gs_newr {t : Nat} {E : String} (ht : tyl[t]? = some (.object E)) (hw : Cond.classLink my.cls idx E ∈ Ts) (hAO : ∀ sp A U H, G sp A U H → va_AO E U) (hd : decode cc pc = .ok (.anewarray idx, 3)) : gx_s1 (cl, tyl, G, Ts, cc, my, nL, ret) pc (gi_newr t (pc + 3)) := by
  rintro ⟨p, l, e, R, s, m, args, below, meth, c⟩ ⟨D, dT, sp, A, n0, ad0⟩ Fin lv st h bc bs K Q C ⟨⟨hx, hb, hml, hown, hnm0, hret⟩, hts, hK0, hA, hlk, hG⟩ hT hK ad H locs ls hh hv hs hc1 hc2
  rcases st with _ | ⟨v, st⟩
  · exact False.elim hT
  cases v with
  | int n =>
    obtain ⟨⟨hn, hby⟩, ⟨hb1, hb2⟩, hT⟩ := hT
    obtain ⟨hP, hD, hS, hok, hn0, had⟩ := hh
    refine va_newq hx hb hown (hts _ hw) (hAO _ _ _ _ hG) hK0 hP hD hS hA hn rfl (Nat.le_trans (Nat.mul_le_mul_left _ (by decide)) hby) (by omega) (by omega) hd (fun q cA H1 hK1 hP1 hD1 hS1 => ?_)
    have e1 : cA = dT t := by
      obtain ⟨kA, comp, g1, g2, g3, g4⟩ := (hK1.2 (gx_ty dT tyl).length (cA, .object E) (by rw [List.getElem?_append_right (Nat.le_refl _), Nat.sub_self]; rfl)).2
      obtain ⟨kB, comq, f1, f2, f3, f4⟩ := (hK0.2 t (dT t, .object E) (gx_ty_at ht)).2
      exact Option.some.inj (g4.symm.trans f4)
    subst e1
    have hlen : (h ++ [(Sum.inl (t, n.toNatClampNeg, Sum.inr (Sum.inr (Sum.inr (Sum.inr (fun _ => none))))) : gx_E)]).length = h.length + 1 := by simp
    have hext : ∀ k, k < h.length → (fun k => if k = h.length then q else ad k) k = ad k := fun k hk => if_neg (Nat.ne_of_lt hk)
    have ew : gx_w dT sp (fun k => if k = h.length then q else ad k) (h ++ [(Sum.inl (t, n.toNatClampNeg, Sum.inr (Sum.inr (Sum.inr (Sum.inr (fun _ => none))))) : gx_E)]) = gx_w dT sp ad h ++ [(q, .inl (dT t, n.toNatClampNeg, .inr (.inr (.inr (.inr (fun _ => none))))))] := by
      rw [gx_w.push (ad := ad) _ hok hext]
      congr 1
      show [((if h.length = h.length then q else ad h.length), _)] = _
      rw [if_pos rfl]
      rfl
    have hst : (st.map (gx_v sp ad)) = st.map (gx_v sp (fun k => if k = h.length then q else ad k)) := List.map_congr_left (fun v hm => (gx_v.ext (hs v (List.mem_cons_of_mem _ hm)) hext).symm)
    rw [show R.cells - bc + 1 = R.cells - (bc - 1) by omega, show R.slots - bs + n.toNatClampNeg = R.slots - (bs - n.toNatClampNeg) by omega, hst]
    have hg := hK _ hT (fun k => if k = h.length then q else ad k) H1 locs ls ⟨by rw [ew]; exact hP1, by rw [ew]; exact hD1, hS1, hok.push (fun j k hj => by cases hj), by rw [hlen]; omega, fun k hk => (hext k (Nat.lt_of_lt_of_le hk hn0)).trans (had k hk)⟩
      ⟨hv.1, hv.2.1, hv.2.2.1, fun i v hi => ⟨by rw [gx_v.ext (hv.2.2.2 i v hi).2.1 hext]; exact (hv.2.2.2 i v hi).1, (hv.2.2.2 i v hi).2.1.le (by rw [hlen]; omega), (hv.2.2.2 i v hi).2.2⟩⟩
      (fun v hm => by
        rcases List.mem_cons.mp hm with e1 | e1
        · rw [e1]; show h.length < (h ++ [_]).length; rw [hlen]; omega
        · exact (hs v (List.mem_cons_of_mem _ e1)).le (by rw [hlen]; omega)) (by omega) (by omega)
    rw [List.map_cons] at hg
    have e0 : gx_v sp (fun k => if k = h.length then q else ad k) (.ref h.length) = .ref q := by
      show Value.ref (if h.length = h.length then q else ad h.length) = .ref q
      rw [if_pos rfl]
    rw [e0] at hg
    exact hg
  | _ => exact False.elim hT
theorem gs_callSN {host : String} (ez : zs m' = (cl, tyl, G, Ts', cc', my', nL', ret')) (hGo : gx_Gok G) (hG : GoodIn Ts Ts') (hw : Ts' = Cond.code my' cc' nL' ret' :: Ts'') (hini : Cond.initialized my'.cls ∈ Ts) (hnl : ∀ sp A U H, G sp A U H → va_Nw (.methodLinkNest my.cls idx my' host) U) (hstat : Cond.static my' ∈ Ts)
    (hd9 : my'.cls ≠ "java/lang/invoke/MethodHandle" ∧ my'.cls ≠ "java/lang/invoke/VarHandle" ∧ (parseMethodDescriptor my'.desc).map (fun d => d.parameters.length) = some k) (hmax : nL' ≤ 45 ∧ k ≤ nL') (hd : decode cc pc = .ok (.invokestatic idx, 3)) : gx_Sn l zs (cl, tyl, G, Ts, cc, my, nL, ret) pc (gi_pcall m' k nL' (pc + 3)) := by
  rintro ⟨p, l', e, R, s, m, args, below, meth, c⟩ ⟨D, dT, sp, A, n0, ad0⟩ d lv st h bc bs K Q C e1 ⟨⟨hx, hb, hml, hown, hnm0, hret⟩, hts, hK0, hA, hlk, hG0⟩ hex hf hlo hT hK hC ad H locs ls hh hv hs hc1 hc2
  have e1 : l' = l := e1
  subst e1
  have hf : R.frames = d + 20 := hf
  have hlo : R.locals = 64 * d + 2000 := hlo
  obtain ⟨⟨hsum, hcat, hlen⟩, kc, ks, ⟨hk1, hk2⟩, hcall⟩ := gx_call_inv hT
  obtain ⟨d', e2, hM⟩ := hC m' _ _ _ _ _ hcall
  rw [ez] at hM
  have hoka : ∀ v ∈ (st.take k).reverse, gx_ok h.length v := fun v hm => hs v (List.mem_of_mem_take (List.mem_reverse.mp hm))
  have hMet := hM (st.take k).reverse (by rw [hlen]) hcat (by rw [hlen]; exact hmax.2) ad H.size
  have hMet := gx_plain hMet (fun E st t hX => by obtain ⟨h9, ad9, hX, -⟩ := hX; exact hX)
  have hr : va_Run p l' e R s m args below meth c H locs (R.cells - bc) (R.slots - bs) kc ks (F0 m pc ls (st.map (gx_v sp ad))) ((st.drop k).map (gx_v sp ad)) (gx_Q cl (D, dT, sp, va_A (gx_w dT sp ad h) H.size, h.length, ad) (gx_k1 lv (st.drop k) (pc + 3) (bc - kc) (bs - ks) K) ((st.take k).reverse.map (gx_v sp ad)).toArray) (va_A (gx_w dT sp ad h) H.size) :=
    va_runSN ⟨hx, hb, hml, hown, hts⟩ hMet ⟨va_cnB k hts hG hw rfl rfl (hnl _ _ _ _ hG0) (hts _ hini) hd9 ⟨by show d' + 20 + 1 ≤ R.frames; omega, by show 8 + (nL' + 11) + (64 * d' + 2000) ≤ R.locals; omega⟩, hts _ hstat, trivial⟩ ⟨fun a9 U g mk q => by
          obtain ⟨q0, q1, qP, qK, qD, qG, qo⟩ := q
          exact ⟨q0, q1, qP, va_K.moved (u := U) (U := U.calling g mk a9) (Vm.Alike.refl U.vm) qK, qD, hGo.1 _ _ U (U.calling g mk a9) _ (State.WarmedH.refl U) qG, qo⟩, fun U hU hW => ⟨rfl, by rw [hU], by rw [hU]; exact hh.1, va_K.moved hW.alike hK0, hh.2.1.weaken (fun _ _ _ _ => trivial), gx_G_in hGo hA hh hG0 hU hW, hh.2.2.2.1, hoka⟩⟩ rfl (by rw [List.length_map]; exact hlen) hv.1 gx_stack (by rw [gx_catsum]; show 2 * 0 + _ ≤ 8; omega) hd ⟨by omega, by omega⟩
  refine gx_after (ret := ret) (len := 3) (Q := Q) (st := st.drop k) (a := ((st.take k).reverse.map (gx_v sp ad)).toArray) (fun T hT9 X => ?_) hA hh hv (fun v hm => hs v (List.mem_of_mem_drop hm)) hc1 hc2 hk1 hk2 hK (fun E h' ad' H' locs' q ce hQ r1 r2 g1 g2 g3 => by
        obtain ⟨hP', hD', hS', hok', hn', had'⟩ := r1
        exact vx_out (fun x hx9 => (hex x hx9).elim) hlk g1 g2 g3 (fun t ht _ => ⟨h', ad', hQ, ⟨by rw [ht]; exact hP', hD', hok', hn', had'⟩, hS'.F ht⟩) hS'.2.2 (Nat.sub_le _ _) (Nat.sub_le _ _))
  obtain ⟨v, st₀, t, T', L, h0, X', hL, e3, e4, hq, go⟩ := hr T hT9 X
  exact Or.inl ⟨v, st₀, t, T', L, h0, X', hL, e3, e4, gx_Q.mono gx_k1.to hq, go⟩
theorem gs_callIN {host : String} (ez : zs m' = (cl, tyl, G, Ts', cc', my', nL', none)) (hGo : gx_Gok G) (hG : GoodIn Ts Ts') (hw : Ts' = Cond.code my' cc' nL' none :: Ts'') (hini : Cond.initialized my'.cls ∈ Ts) (hnl : ∀ sp A U H, G sp A U H → va_Nw (.methodLinkNest my.cls idx my' host) U) (hinst : Cond.instanceMethod my' ∈ Ts) (hnm : my'.name = "<init>")
    (hd9 : my'.cls ≠ "java/lang/invoke/MethodHandle" ∧ my'.cls ≠ "java/lang/invoke/VarHandle" ∧ (parseMethodDescriptor my'.desc).map (fun d => d.parameters.length) = some k) (hmax : nL' ≤ 45 ∧ k + 1 ≤ nL') (hd : decode cc pc = .ok (.invokespecial idx, 3)) : gx_Sn l zs (cl, tyl, G, Ts, cc, my, nL, ret) pc (gi_scall m' k nL' (pc + 3)) := by
  rintro ⟨p, l', e, R, s, m, args, below, meth, c⟩ ⟨D, dT, sp, A, n0, ad0⟩ d lv st h bc bs K Q C e1 ⟨⟨hx, hb, hml, hown, hnm0, hret⟩, hts, hK0, hA, hlk, hG0⟩ hex hf hlo hT hK hC ad H locs ls hh hv hs hc1 hc2
  have e1 : l' = l := e1
  subst e1
  have hf : R.frames = d + 20 := hf
  have hlo : R.locals = 64 * d + 2000 := hlo
  cases ha : st[k]? with
  | none => simp only [gi_scall, ha] at hT
  | some v0 =>
    cases v0 with
    | ref a =>
      simp only [gi_scall, ha] at hT
      obtain ⟨⟨hsum, hcat, hlen⟩, kc, ks, ⟨hk1, hk2⟩, hcall⟩ := gx_call_inv hT
      obtain ⟨d', e2, hM⟩ := hC m' _ _ _ _ _ hcall
      rw [ez] at hM
      obtain ⟨As, eAs, hAl⟩ := gx_recv hlen ha
      rw [eAs] at hcat hM
      have hoka : ∀ v ∈ Value.ref a :: As, gx_ok h.length v := fun v hm => hs v (List.mem_of_mem_take (List.mem_reverse.mp (by rw [eAs]; exact hm)))
      have hMet := hM (.ref a :: As) (by rw [List.length_cons, hAl]) hcat (by rw [List.length_cons, hAl]; exact hmax.2) ad H.size
      have hst := gx_stack (sp := sp) (ad := ad) (st := st) (n := k + 1)
      rw [eAs] at hst
      have hMet := gx_plain hMet (fun E st t hX => by obtain ⟨h9, ad9, hX, -⟩ := hX; exact hX)
      have hr : va_Run p l' e R s m args below meth c H locs (R.cells - bc) (R.slots - bs) kc ks (F0 m pc ls (st.map (gx_v sp ad))) ((st.drop (k + 1)).map (gx_v sp ad)) (gx_Q cl (D, dT, sp, va_A (gx_w dT sp ad h) H.size, h.length, ad) (gx_k0 lv (st.drop (k + 1)) (pc + 3) (bc - kc) (bs - ks) K) (Value.ref (ad a) :: As.map (gx_v sp ad)).toArray) (va_A (gx_w dT sp ad h) H.size) :=
        va_runIN ⟨hx, hb, hml, hown, hts⟩ hMet ⟨va_cnB k hts hG hw rfl rfl (hnl _ _ _ _ hG0) (hts _ hini) hd9 ⟨by show d' + 20 + 1 ≤ R.frames; omega, by show 8 + (nL' + 11) + (64 * d' + 2000) ≤ R.locals; omega⟩, hnm, hts _ hinst⟩ ⟨fun a9 U g mk q => by
              obtain ⟨q0, q1, qP, qK, qD, qG, qo⟩ := q
              exact ⟨q0, q1, qP, va_K.moved (u := U) (U := U.calling g mk a9) (Vm.Alike.refl U.vm) qK, qD, hGo.1 _ _ U (U.calling g mk a9) _ (State.WarmedH.refl U) qG, qo⟩, fun U hU hW => ⟨rfl, by rw [hU], by rw [hU]; exact hh.1, va_K.moved hW.alike hK0, hh.2.1.weaken (fun _ _ _ _ => trivial), gx_G_in hGo hA hh hG0 hU hW, hh.2.2.2.1, hoka⟩⟩ rfl (by rw [List.length_map]; exact hAl) hv.1 (by rw [hst]; simp [gx_v]) (by rw [gx_catsum]; show 2 * 0 + _ ≤ 8; omega) hd ⟨by omega, by omega⟩
      refine gx_after (ret := ret) (len := 3) (Q := Q) (st := st.drop (k + 1)) (a := (Value.ref (ad a) :: As.map (gx_v sp ad)).toArray) (fun T hT9 X => ?_) hA hh hv (fun v hm => hs v (List.mem_of_mem_drop hm)) hc1 hc2 hk1 hk2 hK (fun E h' ad' H' locs' q ce hQ r1 r2 g1 g2 g3 => by
            obtain ⟨hP', hD', hS', hok', hn', had'⟩ := r1
            exact vx_out (fun x hx9 => (hex x hx9).elim) hlk g1 g2 g3 (fun t ht _ => ⟨h', ad', hQ, ⟨by rw [ht]; exact hP', hD', hok', hn', had'⟩, hS'.F ht⟩) hS'.2.2 (Nat.sub_le _ _) (Nat.sub_le _ _))
      obtain ⟨v, st₀, t, T', L, h0, X', hL, e3, e4, hq, go⟩ := hr T hT9 X
      exact Or.inl ⟨v, st₀, t, T', L, h0, X', hL, e3, e4, gx_Q.mono gx_k0.to hq, go⟩
    | _ => simp only [gi_scall, ha] at hT
theorem gs_callU {sel : Nat → Option (Nat × Nat)} {x : MethodName} {owner : String} (hGo : gx_Gok G) (hz : ∀ sp A U H, G sp A U H → va_Nw (.declares ⟨owner, x.name, x.desc⟩) U)
    (hsel : ∀ c m' nL', sel c = some (m', nL') → ∃ (Cn : String) (T9 : u_T) (N9 : Nat) (Ts' Ts'' : List Cond) (cc' : ByteArray) (my' : MethodName) (ret' : Option FieldType), cl[c]? = some (Cn, T9, N9) ∧ zs m' = (cl, tyl, G, Ts', cc', my', nL', ret') ∧ GoodIn Ts Ts' ∧ Ts' = Cond.code my' cc' nL' ret' :: Ts'' ∧ GoodIn Ts [.methodLink my.cls idx x, .sameMethod x.cls owner x.name x.desc, .selects Cn x my', .instanceMethod my', .initialized my'.cls] ∧ nL' ≤ 45 ∧ k + 1 ≤ nL')
    (hd9 : owner ≠ "java/lang/invoke/MethodHandle" ∧ owner ≠ "java/lang/invoke/VarHandle" ∧ (parseMethodDescriptor x.desc).map (fun d => d.parameters.length) = some k) (hd : decode cc pc = .ok (.invokevirtual idx, 3)) : gx_Sn l zs (cl, tyl, G, Ts, cc, my, nL, ret) pc (gi_vpcall sel k (pc + 3)) := by
  rintro ⟨p, l', e, R, s, m, args, below, meth, c⟩ ⟨D, dT, sp, A, n0, ad0⟩ d lv st h bc bs K Q C e1 ⟨⟨hx, hb, hml, hown, hnm0, hret⟩, hts, hK0, hA, hlk, hG0⟩ hex hf hlo hT hK hC ad H locs ls hh hv hs hc1 hc2
  have e1 : l' = l := e1
  subst e1
  have hf : R.frames = d + 20 := hf
  have hlo : R.locals = 64 * d + 2000 := hlo
  cases ha : st[k]? with
  | none => simp only [gi_vpcall, ha] at hT
  | some v0 =>
    cases v0 with
    | ref a =>
      cases hcell : h[a]? with
      | none => simp only [gi_vpcall, ha, hcell] at hT
      | some ce =>
        obtain ⟨t0, x0⟩ | ⟨c0, fs⟩ := ce
        · simp only [gi_vpcall, ha, hcell] at hT
        · cases hs9 : sel c0 with
          | none => simp only [gi_vpcall, ha, hcell, hs9] at hT
          | some q9 =>
            obtain ⟨m', nL'⟩ := q9
            simp only [gi_vpcall, ha, hcell, hs9] at hT
            obtain ⟨Cn, T9, N9, Ts', Ts'', cc', my', ret', hc, ez, hG, hw, hwU, hmax⟩ := hsel c0 m' nL' hs9
            obtain ⟨⟨hsum, hcat, hlen⟩, kc, ks, ⟨hk1, hk2⟩, hcall⟩ := gx_call_inv hT
            obtain ⟨d', e2, hM⟩ := hC m' _ _ _ _ _ hcall
            rw [ez] at hM
            obtain ⟨As, eAs, hAl⟩ := gx_recv hlen ha
            rw [eAs] at hcat hM
            have hoka : ∀ v ∈ Value.ref a :: As, gx_ok h.length v := fun v hm => hs v (List.mem_of_mem_take (List.mem_reverse.mp (by rw [eAs]; exact hm)))
            have hMet := hM (.ref a :: As) (by rw [List.length_cons, hAl]) hcat (by rw [List.length_cons, hAl]; exact hmax.2) ad H.size
            have hst := gx_stack (sp := sp) (ad := ad) (st := st) (n := k + 1)
            rw [eAs] at hst
            have hMet := gx_plain hMet (fun E st t hX => by obtain ⟨h9, ad9, hX, -⟩ := hX; exact hX)
            have hr : va_Run p l' e R s m args below meth c H locs (R.cells - bc) (R.slots - bs) kc ks (F0 m pc ls (st.map (gx_v sp ad))) ((st.drop (k + 1)).map (gx_v sp ad)) (gx_Q cl (D, dT, sp, va_A (gx_w dT sp ad h) H.size, h.length, ad) (gx_k1 lv (st.drop (k + 1)) (pc + 3) (bc - kc) (bs - ks) K) (Value.ref (ad a) :: As.map (gx_v sp ad)).toArray) (va_A (gx_w dT sp ad h) H.size) :=
              va_runU ⟨hx, hb, hml, hown, hts⟩ hMet (va_cwA k hts (fun w h9 => by
                rcases List.mem_append.mp h9 with h9 | h9
                · exact hwU w h9
                · exact hG w h9) hw rfl rfl (hz _ _ _ _ hG0) hd9 ⟨by show d' + 20 + 1 ≤ R.frames; omega, by show 8 + (nL' + 11) + (64 * d' + 2000) ≤ R.locals; omega⟩) ⟨fun a9 U g mk q => by
                    obtain ⟨q0, q1, qP, qK, qD, qG, qo⟩ := q
                    exact ⟨q0, q1, qP, va_K.moved (u := U) (U := U.calling g mk a9) (Vm.Alike.refl U.vm) qK, qD, hGo.1 _ _ U (U.calling g mk a9) _ (State.WarmedH.refl U) qG, qo⟩, va_recv hK0 hh.1 hc (gx_w_at hcell), fun U hU hW => ⟨rfl, by rw [hU], by rw [hU]; exact hh.1, va_K.moved hW.alike hK0, hh.2.1.weaken (fun _ _ _ _ => trivial), gx_G_in hGo hA hh hG0 hU hW, hh.2.2.2.1, hoka⟩⟩ rfl (by rw [List.length_map]; exact hAl) hv.1 (by rw [hst]; simp [gx_v]) (by rw [gx_catsum]; show 2 * 0 + _ ≤ 8; omega) hd ⟨by omega, by omega⟩
            refine gx_after (ret := ret) (len := 3) (Q := Q) (st := st.drop (k + 1)) (a := (Value.ref (ad a) :: As.map (gx_v sp ad)).toArray) (fun T hT9 X => ?_) hA hh hv (fun v hm => hs v (List.mem_of_mem_drop hm)) hc1 hc2 hk1 hk2 hK (fun E h' ad' H' locs' q ce hQ r1 r2 g1 g2 g3 => by
                  obtain ⟨hP', hD', hS', hok', hn', had'⟩ := r1
                  exact vx_out (fun x hx9 => (hex x hx9).elim) hlk g1 g2 g3 (fun t ht _ => ⟨h', ad', hQ, ⟨by rw [ht]; exact hP', hD', hok', hn', had'⟩, hS'.F ht⟩) hS'.2.2 (Nat.sub_le _ _) (Nat.sub_le _ _))
            obtain ⟨v, st₀, t, T', L, h0, X', hL, e3, e4, hq, go⟩ := hr T hT9 X
            exact Or.inl ⟨v, st₀, t, T', L, h0, X', hL, e3, e4, gx_Q.mono gx_k1.to hq, go⟩
    | _ => simp only [gi_vpcall, ha] at hT
theorem gs_callF {sel : Nat → Option (Nat × Nat)} {x : MethodName} {count : Nat} (hGo : gx_Gok G)
    (hsel : ∀ c m' nL', sel c = some (m', nL') → ∃ (Cn : String) (T9 : u_T) (N9 : Nat) (Ts' Ts'' : List Cond) (cc' : ByteArray) (my' : MethodName) (ret' : Option FieldType), cl[c]? = some (Cn, T9, N9) ∧ zs m' = (cl, tyl, G, Ts', cc', my', nL', ret') ∧ GoodIn Ts Ts' ∧ Ts' = Cond.code my' cc' nL' ret' :: Ts'' ∧ GoodIn Ts [.methodLink my.cls idx x, .selects Cn x my', .instanceMethod my', .initialized my'.cls] ∧ (∀ sp A U H, G sp A U H → va_Fw Cn x my' U) ∧ nL' ≤ 45 ∧ k + 1 ≤ nL')
    (hd9 : x.cls ≠ "java/lang/invoke/MethodHandle" ∧ x.cls ≠ "java/lang/invoke/VarHandle" ∧ (parseMethodDescriptor x.desc).map (fun d => d.parameters.length) = some k) (hd : decode cc pc = .ok (.invokeinterface idx count, 5)) : gx_Sn l zs (cl, tyl, G, Ts, cc, my, nL, ret) pc (gi_vpcall sel k (pc + 5)) := by
  rintro ⟨p, l', e, R, s, m, args, below, meth, c⟩ ⟨D, dT, sp, A, n0, ad0⟩ d lv st h bc bs K Q C e1 ⟨⟨hx, hb, hml, hown, hnm0, hret⟩, hts, hK0, hA, hlk, hG0⟩ hex hf hlo hT hK hC ad H locs ls hh hv hs hc1 hc2
  have e1 : l' = l := e1
  subst e1
  have hf : R.frames = d + 20 := hf
  have hlo : R.locals = 64 * d + 2000 := hlo
  cases ha : st[k]? with
  | none => simp only [gi_vpcall, ha] at hT
  | some v0 =>
    cases v0 with
    | ref a =>
      cases hcell : h[a]? with
      | none => simp only [gi_vpcall, ha, hcell] at hT
      | some ce =>
        obtain ⟨t0, x0⟩ | ⟨c0, fs⟩ := ce
        · simp only [gi_vpcall, ha, hcell] at hT
        · cases hs9 : sel c0 with
          | none => simp only [gi_vpcall, ha, hcell, hs9] at hT
          | some q9 =>
            obtain ⟨m', nL'⟩ := q9
            simp only [gi_vpcall, ha, hcell, hs9] at hT
            obtain ⟨Cn, T9, N9, Ts', Ts'', cc', my', ret', hc, ez, hG, hw, hwU, hFw, hmax⟩ := hsel c0 m' nL' hs9
            obtain ⟨⟨hsum, hcat, hlen⟩, kc, ks, ⟨hk1, hk2⟩, hcall⟩ := gx_call_inv hT
            obtain ⟨d', e2, hM⟩ := hC m' _ _ _ _ _ hcall
            rw [ez] at hM
            obtain ⟨As, eAs, hAl⟩ := gx_recv hlen ha
            rw [eAs] at hcat hM
            have hoka : ∀ v ∈ Value.ref a :: As, gx_ok h.length v := fun v hm => hs v (List.mem_of_mem_take (List.mem_reverse.mp (by rw [eAs]; exact hm)))
            have hMet := hM (.ref a :: As) (by rw [List.length_cons, hAl]) hcat (by rw [List.length_cons, hAl]; exact hmax.2) ad H.size
            have hst := gx_stack (sp := sp) (ad := ad) (st := st) (n := k + 1)
            rw [eAs] at hst
            have hMet := gx_plain hMet (fun E st t hX => by obtain ⟨h9, ad9, hX, -⟩ := hX; exact hX)
            have hr : va_Run5 p l' e R s m args below meth c H locs (R.cells - bc) (R.slots - bs) kc ks (F0 m pc ls (st.map (gx_v sp ad))) ((st.drop (k + 1)).map (gx_v sp ad)) (gx_Q cl (D, dT, sp, va_A (gx_w dT sp ad h) H.size, h.length, ad) (gx_k1 lv (st.drop (k + 1)) (pc + 5) (bc - kc) (bs - ks) K) (Value.ref (ad a) :: As.map (gx_v sp ad)).toArray) (va_A (gx_w dT sp ad h) H.size) :=
              va_runF (hK0.1 c0 _ hc).2 ⟨hx, hb, hml, hown, hts⟩ hMet (va_cwF k hts (fun w h9 => by
                rcases List.mem_append.mp h9 with h9 | h9
                · exact hwU w h9
                · exact hG w h9) hw rfl rfl (hFw _ _ _ _ hG0) hd9 ⟨by show d' + 20 + 1 ≤ R.frames; omega, by show 8 + (nL' + 11) + (64 * d' + 2000) ≤ R.locals; omega⟩) ⟨fun a9 U g mk q => by
                    obtain ⟨q0, q1, qP, qK, qD, qG, qo⟩ := q
                    exact ⟨q0, q1, qP, va_K.moved (u := U) (U := U.calling g mk a9) (Vm.Alike.refl U.vm) qK, qD, hGo.1 _ _ U (U.calling g mk a9) _ (State.WarmedH.refl U) qG, qo⟩, va_recv hK0 hh.1 hc (gx_w_at hcell), fun U hU hW => ⟨rfl, by rw [hU], by rw [hU]; exact hh.1, va_K.moved hW.alike hK0, hh.2.1.weaken (fun _ _ _ _ => trivial), gx_G_in hGo hA hh hG0 hU hW, hh.2.2.2.1, hoka⟩⟩ rfl (by rw [List.length_map]; exact hAl) hv.1 (by rw [hst]; simp [gx_v]) (by rw [gx_catsum]; show 2 * 0 + _ ≤ 8; omega) hd ⟨by omega, by omega⟩
            refine gx_after (ret := ret) (len := 5) (Q := Q) (st := st.drop (k + 1)) (a := (Value.ref (ad a) :: As.map (gx_v sp ad)).toArray) (fun T hT9 X => ?_) hA hh hv (fun v hm => hs v (List.mem_of_mem_drop hm)) hc1 hc2 hk1 hk2 hK (fun E h' ad' H' locs' q ce hQ r1 r2 g1 g2 g3 => by
                  obtain ⟨hP', hD', hS', hok', hn', had'⟩ := r1
                  exact vx_out (fun x hx9 => (hex x hx9).elim) hlk g1 g2 g3 (fun t ht _ => ⟨h', ad', hQ, ⟨by rw [ht]; exact hP', hD', hok', hn', had'⟩, hS'.F ht⟩) hS'.2.2 (Nat.sub_le _ _) (Nat.sub_le _ _))
            obtain ⟨v, st₀, t, T', L, h0, X', hL, e3, e4, hq, go⟩ := hr T hT9 X
            exact Or.inl ⟨v, st₀, t, T', L, h0, X', hL, e3, e4, gx_Q.mono gx_k1.to hq, go⟩
    | _ => simp only [gi_vpcall, ha] at hT
end GXN
