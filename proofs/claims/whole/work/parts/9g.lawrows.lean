/-! Rows for the law and its helpers. -/
def gi_sld (L : Nat) (xs : Nat → Int32) (nx : Nat) : gx_T := fun S K _ _ => match S with
  | (_, lv, .int i :: .retAddr 0 :: st, h, bc, bs) => vp_in i L ∧ K (nx, lv, .int (xs i.toNatClampNeg) :: st, h, bc, bs)
  | _ => False
def gi_sln (L : Nat) (nx : Nat) : gx_T := fun S K _ _ => match S with
  | (_, lv, .retAddr 0 :: st, h, bc, bs) => K (nx, lv, .int (Int32.ofNat L) :: st, h, bc, bs)
  | _ => False
def gi_lcmp (nx : Nat) : gx_T := fun S K _ _ => match S with
  | (_, lv, .long y :: .long x :: st, h, bc, bs) => K (nx, lv, .int (lg_cmp x y) :: st, h, bc, bs)
  | _ => False
def gi_tsw (tgs : List Nat) (df : Nat) : gx_T := fun S K _ _ => match S with
  | (_, lv, .int x :: st, h, bc, bs) => (x.toInt < 0 ∨ (tgs.length : Int) ≤ x.toInt → K (df, lv, st, h, bc, bs)) ∧ ∀ (k tg : Nat), x.toInt = (k : Int) → tgs[k]? = some tg → K (tg, lv, st, h, bc, bs)
  | _ => False
section GLR
variable {cl : List vw_C} {tyl : List FieldType} {Ts : List Cond} {G : (Nat → Nat) → (Nat → Prop) → State → Heap → Prop} {cc : ByteArray} {my : MethodName} {nL : Nat} {ret : Option FieldType} {pc : Nat}
theorem gs_sld {L : Nat} {xs : Nat → Int32} (hZ : ∀ sp A U H, G sp A U H → va_X (sp 0) L xs U H ∧ sp 0 < H.size ∧ ¬ A (sp 0)) (hd : decode cc pc = .ok (.iaload, 1)) : gx_s1 (cl, tyl, G, Ts, cc, my, nL, ret) pc (gi_sld L xs (pc + 1)) := by
  rintro ⟨p, l, e, R, s, m, args, below, meth, c⟩ ⟨D, dT, sp, A, n0, ad0⟩ Fin lv st h bc bs K Q C ⟨⟨hx, hb, hml, hown, hnm0, hret⟩, hts, hK0, hA, hlk, hG⟩ hT hK ad H locs ls hh hv hs hc1 hc2
  rcases st with _ | ⟨v, st⟩
  · exact False.elim hT
  cases v with
  | int i =>
    rcases st with _ | ⟨v, st⟩
    · exact False.elim hT
    cases v with
    | retAddr j =>
      cases j with
      | zero =>
        obtain ⟨g1, g2, g3⟩ := hZ _ _ _ _ hG
        obtain ⟨hin, hT⟩ := hT
        exact va_sld hx hb g1 g2 g3 hh.2.2.1 hin hd (hK _ hT ad H locs ls hh hv (fun w hm => by
          rcases List.mem_cons.mp hm with e1 | e1
          · rw [e1]; trivial
          · exact hs w (List.mem_cons_of_mem _ (List.mem_cons_of_mem _ e1))) hc1 hc2)
      | succ j => exact False.elim hT
    | _ => exact False.elim hT
  | _ => exact False.elim hT
theorem gs_sln {L : Nat} {xs : Nat → Int32} (hZ : ∀ sp A U H, G sp A U H → va_X (sp 0) L xs U H ∧ sp 0 < H.size ∧ ¬ A (sp 0)) (hd : decode cc pc = .ok (.arraylength, 1)) : gx_s1 (cl, tyl, G, Ts, cc, my, nL, ret) pc (gi_sln L (pc + 1)) := by
  rintro ⟨p, l, e, R, s, m, args, below, meth, c⟩ ⟨D, dT, sp, A, n0, ad0⟩ Fin lv st h bc bs K Q C ⟨⟨hx, hb, hml, hown, hnm0, hret⟩, hts, hK0, hA, hlk, hG⟩ hT hK ad H locs ls hh hv hs hc1 hc2
  rcases st with _ | ⟨v, st⟩
  · exact False.elim hT
  cases v with
  | retAddr j =>
    cases j with
    | zero =>
      obtain ⟨g1, g2, g3⟩ := hZ _ _ _ _ hG
      exact va_slen hx hb g1 g2 g3 hh.2.2.1 hd (hK _ hT ad H locs ls hh hv (fun w hm => by
        rcases List.mem_cons.mp hm with e1 | e1
        · rw [e1]; trivial
        · exact hs w (List.mem_cons_of_mem _ e1)) hc1 hc2)
    | succ j => exact False.elim hT
  | _ => exact False.elim hT
theorem gs_lcmp (hd : decode cc pc = .ok (.lcmp, 1)) : gx_s1 (cl, tyl, G, Ts, cc, my, nL, ret) pc (gi_lcmp (pc + 1)) := by
  rintro ⟨p, l, e, R, s, m, args, below, meth, c⟩ ⟨D, dT, sp, A, n0, ad0⟩ Fin lv st h bc bs K Q C ⟨⟨hx, hb, hml, hown, hnm0, hret⟩, hts, hK0, hA, hlk, hG⟩ hT hK ad H locs ls hh hv hs hc1 hc2
  rcases st with _ | ⟨v, st⟩
  · exact False.elim hT
  cases v with
  | long y =>
    rcases st with _ | ⟨v, st⟩
    · exact False.elim hT
    cases v with
    | long x =>
      exact W.lcmp hx hb hd (hK _ hT ad H locs ls hh hv (fun w hm => by
        rcases List.mem_cons.mp hm with e1 | e1
        · rw [e1]; trivial
        · exact hs w (List.mem_cons_of_mem _ (List.mem_cons_of_mem _ e1))) hc1 hc2)
    | _ => exact False.elim hT
  | _ => exact False.elim hT
theorem gs_tsw {tgs : List Nat} {df len : Nat} {dflt hi : Int} {offs : Array Int} (ho : offs.toList.map (fun o => (pc : Int) + o) = tgs.map (fun (t : Nat) => (t : Int))) (hdf : (pc : Int) + dflt = (df : Int)) (hhi : hi + 1 = (tgs.length : Int)) (hd : decode cc pc = .ok (.tableswitch dflt 0 hi offs, len)) : gx_s1 (cl, tyl, G, Ts, cc, my, nL, ret) pc (gi_tsw tgs df) := by
  rintro ⟨p, l, e, R, s, m, args, below, meth, c⟩ ⟨D, dT, sp, A, n0, ad0⟩ Fin lv st h bc bs K Q C ⟨⟨hx, hb, hml, hown, hnm0, hret⟩, hts, hK0, hA, hlk, hG⟩ hT hK ad H locs ls hh hv hs hc1 hc2
  rcases st with _ | ⟨v, st⟩
  · exact False.elim hT
  cases v with
  | int x =>
    obtain ⟨h1, h2⟩ := hT
    by_cases hx0 : x.toInt < 0 ∨ hi < x.toInt
    · exact lv_tableOut hx hb hd hx0 hdf (hK _ (h1 (by omega)) ad H locs ls hh hv (fun w hm => hs w (List.mem_cons_of_mem _ hm)) hc1 hc2)
    · have hk : x.toInt = ((x.toInt.toNat : Nat) : Int) := by omega
      have hlt : x.toInt.toNat < tgs.length := by omega
      have h5 : tgs[x.toInt.toNat]? = some tgs[x.toInt.toNat] := List.getElem?_eq_getElem hlt
      have h6 : (offs.toList.map (fun o => (pc : Int) + o))[x.toInt.toNat]? = some ((tgs[x.toInt.toNat] : Nat) : Int) := by
        rw [ho, List.getElem?_map, h5]; rfl
      rw [List.getElem?_map, Array.getElem?_toList] at h6
      cases hof : offs[x.toInt.toNat]? with
      | none => rw [hof] at h6; cases h6
      | some off =>
        rw [hof] at h6
        have h7 : (pc : Int) + off = ((tgs[x.toInt.toNat] : Nat) : Int) := Option.some.inj h6
        exact lv_tableIn hx hb hd (by omega) (by omega) (by rw [Int.sub_zero]; exact hof) h7 (hK _ (h2 _ _ hk h5) ad H locs ls hh hv (fun w hm => hs w (List.mem_cons_of_mem _ hm)) hc1 hc2)
  | _ => exact False.elim hT
theorem gq_lconst {n : Fin 2} {v : Int64} (d : decode cc pc = .ok (.lconst n, 1)) (hv : Int64.ofNat (n : Nat) = v) : gx_s1 (cl, tyl, G, Ts, cc, my, nL, ret) pc (gi_k (.long v) (pc + 1)) := gs_k trivial (fun _ _ => rfl) (fun ls rest p l e R s m args below meth c H locs cells slots Fin hx hb k => lv_lconst hx hb d hv k)
end GLR
/-- a stronger word of old cells -/
theorem gy_G {l : Launch} {cl : List vw_C} {tyl : List FieldType} {G G2 : (Nat → Nat) → (Nat → Prop) → State → Heap → Prop} {Ts : List Cond} {cc : ByteArray} {my : MethodName} {nL : Nat} {ret : Option FieldType} {D : va_G} {dT : Nat → ClassId} {sp : Nat → Nat} {d : Nat} {E : gx_S} {Q : gx_R → Prop}
    (hGG : ∀ sp A U H, G2 sp A U H → G sp A U H) (hM : gx_Mt l (cl, tyl, G, Ts, cc, my, nL, ret) D dT sp d E Q) : gx_Mt l (cl, tyl, G2, Ts, cc, my, nL, ret) D dT sp d E Q := by
  obtain ⟨pc, lv, st, h, kc, ks⟩ := E
  intro As hAs hcat hlen ad sz p e ha hc hk s m args below hf happ hP hK
  obtain ⟨h1, h2, h3, h4, h5, h6, h7⟩ := hP
  exact hM As hAs hcat hlen ad sz p e ha hc hk s m args below hf happ ⟨h1, h2, h3, h4, h5, hGG _ _ _ _ h6, h7⟩ hK
section GLC
variable {cl : List vw_C} {tyl : List FieldType} {Ts : List Cond} {G : (Nat → Nat) → (Nat → Prop) → State → Heap → Prop} {cc : ByteArray} {my : MethodName} {nL : Nat} {ret : Option FieldType} {pc : Nat}
variable {p : Program} {l : Launch} {e : Env} {R : Room} {s : State} {m : MethodId} {args : Array Value} {below : List Frame} {meth : Method} {c : Code} {D : va_G} {dT : Nat → ClassId} {sp : Nat → Nat} {A : Nat → Prop} {n0 : Nat} {ad0 : Nat → Nat} {Fin : State → Prop}
variable {idx k nL' d' kc ks bc bs a ci N : Nat} {Ts' Ts'' : List Cond} {cc' : ByteArray} {my' : MethodName} {ret' : Option FieldType} {Cn : String} {T : u_T} {As st fs : List Value} {lv : List (Option Value)} {h : gx_H}
theorem gl_pre (hGo : gx_Gok G) (hCx : gx_Cx (cl, tyl, G, Ts, cc, my, nL, ret) (p, l, e, R, s, m, args, below, meth, c) (D, dT, sp, A, n0, ad0)) {ad : Nat → Nat} {H : Heap} {locs : List Loc} (hh : gx_Rh cl (D, dT, sp, A, n0, ad0) s h ad H locs) {Bs : List Value} (hoka : ∀ v ∈ Bs, gx_ok h.length v) :
    ∀ U : State, U.heap = H → s.WarmedH U.vm → va_Pc (Bs.map (gx_v sp ad)) (fun U => U.heap.size = H.size ∧ va_P D cl (gx_w dT sp ad h) U.heap ∧ va_K D cl (gx_ty dT tyl) U ∧ va_D (fun _ => True) (gx_w dT sp ad h) ∧ G sp (va_A (gx_w dT sp ad h) H.size) U U.heap ∧ gx_okH h ∧ ∀ v ∈ Bs, gx_ok h.length v) (Bs.map (gx_v sp ad)).toArray U := by
  obtain ⟨-, -, hK0, hA, -, hG0⟩ := hCx
  exact fun U hU hW => ⟨rfl, by rw [hU], by rw [hU]; exact hh.1, va_K.moved hW.alike hK0, hh.2.1.weaken (fun _ _ _ _ => trivial), gx_G_in hGo hA hh hG0 hU hW, hh.2.2.2.1, hoka⟩
/-- a call by the receiver's class that never throws -/
theorem gl_V (hGo : gx_Gok G) (hCx : gx_Cx (cl, tyl, G, Ts, cc, my, nL, ret) (p, l, e, R, s, m, args, below, meth, c) (D, dT, sp, A, n0, ad0)) (hG : GoodIn Ts Ts') (hw : Ts' = Cond.code my' cc' nL' ret' :: Ts'') (hc : cl[ci]? = some (Cn, T, N)) (hini : Cond.initialized my'.cls ∈ Ts) (hlink : Cond.methodLink my.cls idx my' ∈ Ts) (hinst : Cond.instanceMethod my' ∈ Ts) (hsel : Cond.selects Cn my' my' ∈ Ts)
    (hd9 : my'.cls ≠ "java/lang/invoke/MethodHandle" ∧ my'.cls ≠ "java/lang/invoke/VarHandle" ∧ (parseMethodDescriptor my'.desc).map (fun d => d.parameters.length) = some k) (hd : decode cc pc = .ok (.invokevirtual idx, 3)) (hk : As.length = k ∧ k + 1 ≤ nL') (hR : d' + 21 ≤ R.frames ∧ 8 + (nL' + 11) + (64 * d' + 2000) ≤ R.locals)
    (hcell : h[a]? = some (.inr (ci, fs))) (hcat : ∀ v ∈ As, v.category = 1) (hsum : (st.map Value.category).sum ≤ 8) (hb2 : kc ≤ bc ∧ ks ≤ bs)
    (hM : gx_Mt l (cl, tyl, G, Ts', cc', my', nL', ret') D dT sp d' (0, (Value.ref a :: As).map some ++ List.replicate (nL' - (Value.ref a :: As).length) none, [], h, kc, ks) (gx_k1 lv st (pc + 3) (bc - kc) (bs - ks) (gx_Gd (cl, tyl, G, Ts, cc, my, nL, ret) (p, l, e, R, s, m, args, below, meth, c) (D, dT, sp, A, n0, ad0) Fin))) :
    gx_Gd (cl, tyl, G, Ts, cc, my, nL, ret) (p, l, e, R, s, m, args, below, meth, c) (D, dT, sp, A, n0, ad0) Fin (pc, lv, As.reverse ++ .ref a :: st, h, bc, bs) := by
  intro ad H locs ls hh hv hs hc1 hc2
  have hoka : ∀ v ∈ Value.ref a :: As, gx_ok h.length v := fun v hm => hs v (by
    rcases List.mem_cons.mp hm with e9 | e9
    · rw [e9]; simp
    · exact List.mem_append_left _ (List.mem_reverse.mpr e9))
  have hMet := hM (.ref a :: As) rfl (fun v hm => by
    rcases List.mem_cons.mp hm with e9 | e9
    · rw [e9]; rfl
    · exact hcat v e9) (by rw [List.length_cons, hk.1]; exact hk.2) ad H.size
  have hpre := gl_pre (Bs := .ref a :: As) hGo hCx hh hoka
  obtain ⟨⟨hx, hb, hml, hown, hnm0, hret⟩, hts, hK0, hA, hlk, hG0⟩ := hCx
  have hMet := gx_plain hMet (fun E st t hX => by obtain ⟨h9, ad9, hX, -⟩ := hX; exact hX)
  have hr : va_Run p l e R s m args below meth c H locs (R.cells - bc) (R.slots - bs) kc ks (F0 m pc ls ((As.reverse ++ .ref a :: st).map (gx_v sp ad))) (st.map (gx_v sp ad)) (gx_Q cl (D, dT, sp, va_A (gx_w dT sp ad h) H.size, h.length, ad) (gx_k1 lv st (pc + 3) (bc - kc) (bs - ks) (gx_Gd (cl, tyl, G, Ts, cc, my, nL, ret) (p, l, e, R, s, m, args, below, meth, c) (D, dT, sp, A, n0, ad0) Fin)) (Value.ref (ad a) :: As.map (gx_v sp ad)).toArray) (va_A (gx_w dT sp ad h) H.size) :=
    va_runV (As := As.map (gx_v sp ad)) ⟨hx, hb, hml, hown, hts⟩ hMet ⟨callB_of k hts hG hw rfl rfl (hts _ hini) (hts _ hlink) hd9 ⟨by show d' + 20 + 1 ≤ R.frames; omega, hR.2⟩, hts _ hinst, hts _ hsel⟩ ⟨fun a9 U g mk q => by
        obtain ⟨q0, q1, qP, qK, qD, qG, qo⟩ := q
        exact ⟨q0, q1, qP, va_K.moved (u := U) (U := U.calling g mk a9) (Vm.Alike.refl U.vm) qK, qD, hGo.1 _ _ U (U.calling g mk a9) _ (State.WarmedH.refl U) qG, qo⟩, va_recv hK0 hh.1 hc (gx_w_at hcell), hpre⟩
      rfl (by rw [List.length_map]; exact hk.1) hv.1 (by show (As.reverse ++ .ref a :: st).map (gx_v sp ad) = _; rw [List.map_append, List.map_reverse]; rfl) (by rw [gx_catsum]; show 2 * 0 + _ ≤ 8; omega) hd ⟨by omega, by omega⟩
  refine gx_after (ret := ret) (len := 3) (Q := fun _ => False) (K := gx_Gd (cl, tyl, G, Ts, cc, my, nL, ret) (p, l, e, R, s, m, args, below, meth, c) (D, dT, sp, A, n0, ad0) Fin) (st := st) (lv := lv) (a := (Value.ref (ad a) :: As.map (gx_v sp ad)).toArray) (fun T hT9 X => ?_) hA hh hv (fun v hm => hs v (List.mem_append_right _ (List.mem_cons_of_mem _ hm))) hc1 hc2 hb2.1 hb2.2 (fun _ k => k) (fun E h' ad' H' locs' q ce hQ _ _ _ _ _ => hQ.elim)
  obtain ⟨v, st₀, t, T', L, h0, X', hL, e3, e4, hq, go⟩ := hr T hT9 X
  exact Or.inl ⟨v, st₀, t, T', L, h0, X', hL, e3, e4, gx_Q.mono gx_k1.to hq, go⟩
end GLC
theorem gx_Rv.drop {nL : Nat} {sp ad : Nat → Nat} {lv : List (Option Value)} {n i : Nat} {w : Value} {ls ls' : Array Slot} (h : gx_Rv sp nL lv n ad ls) (hi : lv[i]? = some none)
    (h' : lv_has ls' nL ((i, w) :: (gx_ll sp ad lv).filter (fun q => !(q.1 == i) && !(q.1 + 1 == i && q.2.category == 2)))) : gx_Rv sp nL lv n ad ls' := by
  refine ⟨h'.1, h'.2.1, h.2.2.1, fun j u hj => ?_⟩
  obtain ⟨g1, g2, g3⟩ := h.2.2.2 j u hj
  refine ⟨h'.2.2 (j, gx_v sp ad u) (List.mem_cons_of_mem _ (List.mem_filter.mpr ⟨gx_ll_mem hj, ?_⟩)), g2, g3⟩
  have hne : j ≠ i := fun e => by rw [e, hi] at hj; cases hj
  have hc : (gx_v sp ad u).category = 1 := by rw [gx_v_cat]; exact g3
  simp [hne, hc]
/-- where what is thrown at pc is caught: at the row that stands behind the store of the exception -/
def gl_H (cc : ByteArray) (nL : Nat) (own : String) (s : State) (args : Array Value) (c : Code) (pc : Nat) (lv : List (Option Value)) (E : String) (hnx : Nat) : Prop :=
  ∃ (pre : List ExceptionTableEntry) (x : ExceptionTableEntry) (suf : List ExceptionTableEntry) (name : String) (i : Nat), c.exceptionTable.toList = pre ++ x :: suf ∧ (∀ z ∈ pre, covers z pc = false ∨ (z.catchType ≠ 0 ∧ ∃ nm : String, (Cond.classLink own z.catchType nm).before args s = true ∧ va_Nc E nm s)) ∧ covers x pc = true ∧ x.catchType ≠ 0 ∧
    (Cond.classLink own x.catchType name).before args s = true ∧ (Cond.castable E name).before args s = true ∧ lv[i]? = some none ∧ ∀ y : Nat, gx_stR cc nL i x.handlerPc hnx (.ref y)
section GLD
variable {cl : List vw_C} {tyl : List FieldType} {Ts : List Cond} {G : (Nat → Nat) → (Nat → Prop) → State → Heap → Prop} {cc : ByteArray} {my : MethodName} {nL : Nat} {ret : Option FieldType} {pc : Nat}
variable {p : Program} {l : Launch} {e : Env} {R : Room} {s : State} {m : MethodId} {args : Array Value} {below : List Frame} {meth : Method} {c : Code} {D : va_G} {dT : Nat → ClassId} {sp : Nat → Nat} {A : Nat → Prop} {n0 : Nat} {ad0 : Nat → Nat} {Fin : State → Prop}
variable {idx k nL' d' kc ks bc bs a ci N : Nat} {Ts' Ts'' : List Cond} {cc' : ByteArray} {my' : MethodName} {ret' : Option FieldType} {Cn : String} {T : u_T} {As st fs : List Value} {lv : List (Option Value)} {h : gx_H}
/-- a call by the receiver's class, whose exceptions are caught here -/
theorem gl_VX (hGo : gx_Gok G) (hCx : gx_Cx (cl, tyl, G, Ts, cc, my, nL, ret) (p, l, e, R, s, m, args, below, meth, c) (D, dT, sp, A, n0, ad0)) (hG : GoodIn Ts Ts') (hw : Ts' = Cond.code my' cc' nL' ret' :: Ts'') (hc : cl[ci]? = some (Cn, T, N)) (hini : Cond.initialized my'.cls ∈ Ts) (hlink : Cond.methodLink my.cls idx my' ∈ Ts) (hinst : Cond.instanceMethod my' ∈ Ts) (hsel : Cond.selects Cn my' my' ∈ Ts)
    (hd9 : my'.cls ≠ "java/lang/invoke/MethodHandle" ∧ my'.cls ≠ "java/lang/invoke/VarHandle" ∧ (parseMethodDescriptor my'.desc).map (fun d => d.parameters.length) = some k) (hd : decode cc pc = .ok (.invokevirtual idx, 3)) (hk : As.length = k ∧ k + 1 ≤ nL') (hR : d' + 21 ≤ R.frames ∧ 8 + (nL' + 11) + (64 * d' + 2000) ≤ R.locals)
    (hcell : h[a]? = some (.inr (ci, fs))) (hcat : ∀ v ∈ As, v.category = 1) (hsum : (st.map Value.category).sum ≤ 8) (hb2 : kc ≤ bc ∧ ks ≤ bs)
    (hM : gx_Mt l (cl, tyl, G, Ts', cc', my', nL', ret') D dT sp d' (0, (Value.ref a :: As).map some ++ List.replicate (nL' - (Value.ref a :: As).length) none, [], h, kc, ks) (gx_k lv st (pc + 3) (bc - kc) (bs - ks) (gx_Gd (cl, tyl, G, Ts, cc, my, nL, ret) (p, l, e, R, s, m, args, below, meth, c) (D, dT, sp, A, n0, ad0) Fin)
      (fun r => match r with
        | (.inr E, h') => ∃ hnx, gl_H cc nL my.cls s args c pc lv E hnx ∧ gx_Gd (cl, tyl, G, Ts, cc, my, nL, ret) (p, l, e, R, s, m, args, below, meth, c) (D, dT, sp, A, n0, ad0) Fin (hnx, lv, [], h', bc - kc, bs - ks)
        | _ => False))) :
    gx_Gd (cl, tyl, G, Ts, cc, my, nL, ret) (p, l, e, R, s, m, args, below, meth, c) (D, dT, sp, A, n0, ad0) Fin (pc, lv, As.reverse ++ .ref a :: st, h, bc, bs) := by
  intro ad H locs ls hh hv hs hc1 hc2
  have hoka : ∀ v ∈ Value.ref a :: As, gx_ok h.length v := fun v hm => hs v (by
    rcases List.mem_cons.mp hm with e9 | e9
    · rw [e9]; simp
    · exact List.mem_append_left _ (List.mem_reverse.mpr e9))
  have hMet := hM (.ref a :: As) rfl (fun v hm => by
    rcases List.mem_cons.mp hm with e9 | e9
    · rw [e9]; rfl
    · exact hcat v e9) (by rw [List.length_cons, hk.1]; exact hk.2) ad H.size
  have hpre := gl_pre (Bs := .ref a :: As) hGo hCx hh hoka
  obtain ⟨⟨hx, hb, hml, hown, hnm0, hret⟩, hts, hK0, hA, hlk, hG0⟩ := hCx
  refine gx_after (ret := ret) (len := 3) (vx_runV (As := As.map (gx_v sp ad)) (rest := st.map (gx_v sp ad)) ⟨hx, hb, hml, hown, hts⟩ hMet ⟨callB_of k hts hG hw rfl rfl (hts _ hini) (hts _ hlink) hd9 ⟨by show d' + 20 + 1 ≤ R.frames; omega, hR.2⟩, hts _ hinst, hts _ hsel⟩ ⟨fun a9 U g mk q => by
        obtain ⟨q0, q1, qP, qK, qD, qG, qo⟩ := q
        exact ⟨q0, q1, qP, va_K.moved (u := U) (U := U.calling g mk a9) (Vm.Alike.refl U.vm) qK, qD, hGo.1 _ _ U (U.calling g mk a9) _ (State.WarmedH.refl U) qG, qo⟩, va_recv hK0 hh.1 hc (gx_w_at hcell), hpre⟩
      rfl (by rw [List.length_map]; exact hk.1) hv.1 (by show (As.reverse ++ .ref a :: st).map (gx_v sp ad) = _; rw [List.map_append, List.map_reverse]; rfl) (by rw [gx_catsum]; show 2 * 0 + _ ≤ 8; omega) hd ⟨by omega, by omega⟩) hA hh hv (fun v hm => hs v (List.mem_append_right _ (List.mem_cons_of_mem _ hm))) hc1 hc2 hb2.1 hb2.2 (fun _ k => k) (fun E h' ad' H' locs' q ce hQ r1 r2 g1 g2 g3 => ?_)
  obtain ⟨hnx, ⟨pre, y, suf, name, i, e1, e2, e3, e4, e5, e6, e7, e8⟩, hgd⟩ := hQ
  refine vx_catch hown pre y suf e1 e2 e3 e4 e5 e6 g1 g2 g3 ?_
  exact e8 q p l e R s m args below meth c H' locs' _ _ Fin ls [] _ hx hb (gx_ll_has r2) (Nat.lt_of_lt_of_le (List.getElem?_eq_some_iff.mp e7).1 r2.2.2.1) (fun ls' hl' => hgd ad' H' locs' ls' r1 (r2.drop e7 hl') (fun v hm => by cases hm) (Nat.le_trans (Nat.sub_le _ _) hc1) (Nat.le_trans (Nat.sub_le _ _) hc2))
/-- a constructor -/
theorem gl_I (hGo : gx_Gok G) (hCx : gx_Cx (cl, tyl, G, Ts, cc, my, nL, ret) (p, l, e, R, s, m, args, below, meth, c) (D, dT, sp, A, n0, ad0)) (hG : GoodIn Ts Ts') (hw : Ts' = Cond.code my' cc' nL' none :: Ts'') (hini : Cond.initialized my'.cls ∈ Ts) (hlink : Cond.methodLink my.cls idx my' ∈ Ts) (hinst : Cond.instanceMethod my' ∈ Ts) (hnm : my'.name = "<init>")
    (hd9 : my'.cls ≠ "java/lang/invoke/MethodHandle" ∧ my'.cls ≠ "java/lang/invoke/VarHandle" ∧ (parseMethodDescriptor my'.desc).map (fun d => d.parameters.length) = some 0) (hd : decode cc pc = .ok (.invokespecial idx, 3)) (hk : 1 ≤ nL') (hR : d' + 21 ≤ R.frames ∧ 8 + (nL' + 11) + (64 * d' + 2000) ≤ R.locals)
    (hsum : (st.map Value.category).sum ≤ 8) (hb2 : kc ≤ bc ∧ ks ≤ bs)
    (hM : gx_Mt l (cl, tyl, G, Ts', cc', my', nL', none) D dT sp d' (0, [Value.ref a].map some ++ List.replicate (nL' - 1) none, [], h, kc, ks) (gx_k1 lv st (pc + 3) (bc - kc) (bs - ks) (gx_Gd (cl, tyl, G, Ts, cc, my, nL, ret) (p, l, e, R, s, m, args, below, meth, c) (D, dT, sp, A, n0, ad0) Fin))) :
    gx_Gd (cl, tyl, G, Ts, cc, my, nL, ret) (p, l, e, R, s, m, args, below, meth, c) (D, dT, sp, A, n0, ad0) Fin (pc, lv, .ref a :: st, h, bc, bs) := by
  intro ad H locs ls hh hv hs hc1 hc2
  have hoka : ∀ v ∈ [Value.ref a], gx_ok h.length v := fun v hm => hs v (by
    rcases List.mem_cons.mp hm with e9 | e9
    · rw [e9]; simp
    · cases e9)
  have hMet := hM [.ref a] rfl (fun v hm => by
    rcases List.mem_cons.mp hm with e9 | e9
    · rw [e9]; rfl
    · cases e9) hk ad H.size
  have hpre := gl_pre (Bs := [.ref a]) hGo hCx hh hoka
  obtain ⟨⟨hx, hb, hml, hown, hnm0, hret⟩, hts, hK0, hA, hlk, hG0⟩ := hCx
  have hMet := gx_plain hMet (fun E st t hX => by obtain ⟨h9, ad9, hX, -⟩ := hX; exact hX)
  have hr : va_Run p l e R s m args below meth c H locs (R.cells - bc) (R.slots - bs) kc ks (F0 m pc ls ((.ref a :: st).map (gx_v sp ad))) (st.map (gx_v sp ad)) (gx_Q cl (D, dT, sp, va_A (gx_w dT sp ad h) H.size, h.length, ad) (gx_k1 lv st (pc + 3) (bc - kc) (bs - ks) (gx_Gd (cl, tyl, G, Ts, cc, my, nL, ret) (p, l, e, R, s, m, args, below, meth, c) (D, dT, sp, A, n0, ad0) Fin)) (Value.ref (ad a) :: ([] : List Value)).toArray) (va_A (gx_w dT sp ad h) H.size) :=
    va_runI (As := []) ⟨hx, hb, hml, hown, hts⟩ hMet ⟨callB_of 0 hts hG hw rfl rfl (hts _ hini) (hts _ hlink) hd9 ⟨by show d' + 20 + 1 ≤ R.frames; omega, hR.2⟩, hnm, hts _ hinst⟩ ⟨fun a9 U g mk q => by
        obtain ⟨q0, q1, qP, qK, qD, qG, qo⟩ := q
        exact ⟨q0, q1, qP, va_K.moved (u := U) (U := U.calling g mk a9) (Vm.Alike.refl U.vm) qK, qD, hGo.1 _ _ U (U.calling g mk a9) _ (State.WarmedH.refl U) qG, qo⟩, hpre⟩
      rfl rfl hv.1 rfl (by rw [gx_catsum]; show 2 * 0 + _ ≤ 8; omega) hd ⟨by omega, by omega⟩
  refine gx_after (ret := ret) (len := 3) (Q := fun _ => False) (K := gx_Gd (cl, tyl, G, Ts, cc, my, nL, ret) (p, l, e, R, s, m, args, below, meth, c) (D, dT, sp, A, n0, ad0) Fin) (st := st) (lv := lv) (a := (Value.ref (ad a) :: ([] : List Value)).toArray) (fun T hT9 X => ?_) hA hh hv (fun v hm => hs v (List.mem_cons_of_mem _ hm)) hc1 hc2 hb2.1 hb2.2 (fun _ k => k) (fun E h' ad' H' locs' q ce hQ _ _ _ _ _ => hQ.elim)
  obtain ⟨v, st₀, t, T', L, h0, X', hL, e3, e4, hq, go⟩ := hr T hT9 X
  exact Or.inl ⟨v, st₀, t, T', L, h0, X', hL, e3, e4, gx_Q.mono gx_k1.to hq, go⟩
/-- a static call of a method with handlers, that never throws -/
theorem gl_S {hh9 : List (Nat × Nat × Nat × Nat)} (hGo : gx_Gok G) (hCx : gx_Cx (cl, tyl, G, Ts, cc, my, nL, ret) (p, l, e, R, s, m, args, below, meth, c) (D, dT, sp, A, n0, ad0)) (hG : GoodIn Ts (va_wsS my.cls idx my' Ts')) (hw : Ts' = Cond.codeWith my' cc' nL' ret' hh9 :: Ts'')
    (hd9 : my'.cls ≠ "java/lang/invoke/MethodHandle" ∧ my'.cls ≠ "java/lang/invoke/VarHandle" ∧ (parseMethodDescriptor my'.desc).map (fun d => d.parameters.length) = some k) (hd : decode cc pc = .ok (.invokestatic idx, 3)) (hk : As.length = k ∧ k ≤ nL') (hR : d' + 21 ≤ R.frames ∧ 8 + (nL' + 11) + (64 * d' + 2000) ≤ R.locals)
    (hcat : ∀ v ∈ As, v.category = 1) (hsum : (st.map Value.category).sum ≤ 8) (hb2 : kc ≤ bc ∧ ks ≤ bs)
    (hM : gx_Mt l (cl, tyl, G, Ts', cc', my', nL', ret') D dT sp d' (0, As.map some ++ List.replicate (nL' - As.length) none, [], h, kc, ks) (gx_k1 lv st (pc + 3) (bc - kc) (bs - ks) (gx_Gd (cl, tyl, G, Ts, cc, my, nL, ret) (p, l, e, R, s, m, args, below, meth, c) (D, dT, sp, A, n0, ad0) Fin))) :
    gx_Gd (cl, tyl, G, Ts, cc, my, nL, ret) (p, l, e, R, s, m, args, below, meth, c) (D, dT, sp, A, n0, ad0) Fin (pc, lv, As.reverse ++ st, h, bc, bs) := by
  intro ad H locs ls hh hv hs hc1 hc2
  have hoka : ∀ v ∈ As, gx_ok h.length v := fun v hm => hs v (List.mem_append_left _ (List.mem_reverse.mpr hm))
  have hMet := hM As rfl hcat (by rw [hk.1]; exact hk.2) ad H.size
  have hpre := gl_pre (Bs := As) hGo hCx hh hoka
  obtain ⟨⟨hx, hb, hml, hown, hnm0, hret⟩, hts, hK0, hA, hlk, hG0⟩ := hCx
  have hMet := gx_plain hMet (fun E st t hX => by obtain ⟨h9, ad9, hX, -⟩ := hX; exact hX)
  have hr : va_Run p l e R s m args below meth c H locs (R.cells - bc) (R.slots - bs) kc ks (F0 m pc ls ((As.reverse ++ st).map (gx_v sp ad))) (st.map (gx_v sp ad)) (gx_Q cl (D, dT, sp, va_A (gx_w dT sp ad h) H.size, h.length, ad) (gx_k1 lv st (pc + 3) (bc - kc) (bs - ks) (gx_Gd (cl, tyl, G, Ts, cc, my, nL, ret) (p, l, e, R, s, m, args, below, meth, c) (D, dT, sp, A, n0, ad0) Fin)) (As.map (gx_v sp ad)).toArray) (va_A (gx_w dT sp ad h) H.size) :=
    vx_runSW (hh := hh9) (bytes := cc') (maxL := nL') (ret := ret') (n := k) (As := As.map (gx_v sp ad)) ⟨hx, hb, hml, hown, hts⟩ hMet (vx_cwSW k hts hG hw rfl rfl hd9 ⟨by show d' + 20 + 1 ≤ R.frames; omega, hR.2⟩) ⟨fun a9 U g mk q => by
        obtain ⟨q0, q1, qP, qK, qD, qG, qo⟩ := q
        exact ⟨q0, q1, qP, va_K.moved (u := U) (U := U.calling g mk a9) (Vm.Alike.refl U.vm) qK, qD, hGo.1 _ _ U (U.calling g mk a9) _ (State.WarmedH.refl U) qG, qo⟩, hpre⟩
      rfl (by rw [List.length_map]; exact hk.1) hv.1 (by show (As.reverse ++ st).map (gx_v sp ad) = _; rw [List.map_append, List.map_reverse]) (by rw [gx_catsum]; show 2 * 0 + _ ≤ 8; omega) hd ⟨by omega, by omega⟩
  refine gx_after (ret := ret) (len := 3) (Q := fun _ => False) (K := gx_Gd (cl, tyl, G, Ts, cc, my, nL, ret) (p, l, e, R, s, m, args, below, meth, c) (D, dT, sp, A, n0, ad0) Fin) (st := st) (lv := lv) (a := (As.map (gx_v sp ad)).toArray) (fun T hT9 X => ?_) hA hh hv (fun v hm => hs v (List.mem_append_right _ hm)) hc1 hc2 hb2.1 hb2.2 (fun _ k => k) (fun E h' ad' H' locs' q ce hQ _ _ _ _ _ => hQ.elim)
  obtain ⟨v, st₀, t, T', L, h0, X', hL, e3, e4, hq, go⟩ := hr T hT9 X
  exact Or.inl ⟨v, st₀, t, T', L, h0, X', hL, e3, e4, gx_Q.mono gx_k1.to hq, go⟩
/-- a body with handlers that is right is a contract -/
theorem gl_of {hh9 : List (Nat × Nat × Nat × Nat)} {d : Nat} {Q : gx_R → Prop} {Ts' : List Cond} (hy : plainName my.cls = true) (hw : Ts = Cond.codeWith my cc nL ret hh9 :: Ts')
    (hF : ∀ (x : gx_C) (y : gx_D), x.2.1 = l → y.1 = D → y.2.1 = dT → y.2.2.1 = sp → gx_Cx (cl, tyl, G, Ts, cc, my, nL, ret) x y → x.2.2.2.2.2.2.2.2.2.exceptionTable.toList = tableOf hh9 → x.2.2.2.1.frames = d + 20 → x.2.2.2.1.locals = 64 * d + 2000 → gx_Gd (cl, tyl, G, Ts, cc, my, nL, ret) x y (gx_Fin (cl, tyl, G, Ts, cc, my, nL, ret) x y Q) (0, lv, [], h, kc, ks)) :
    gx_Mt l (cl, tyl, G, Ts, cc, my, nL, ret) D dT sp d (0, lv, [], h, kc, ks) Q := by
  intro As hAs hcat hlen ad sz
  refine vx_ofWH (cc := cc) (maxL := nL) (ret := ret) (hh := hh9) hy hw ?_
  intro p e s m args below meth c s₁ B hml hv
  obtain ⟨rfl, hsz, hP, hK, hD0, hG, hok, hoka⟩ := hv
  have hts := atoms_spec (ws := Ts) B.pre
  have hex := vx_table (x := my) B (hts (Cond.codeWith my cc nL ret hh9) (by rw [hw]; exact List.mem_cons_self))
  subst hsz
  have hcv : ∀ u ∈ As.map (gx_v sp ad), u.category = 1 := fun u hu => by
    obtain ⟨v, hv, rfl⟩ := List.mem_map.mp hu
    rw [gx_v_cat]
    exact hcat v hv
  have hsl : (lg_sl (As.map (gx_v sp ad))).length ≤ nL := by rw [gx_sl _ hcv, List.length_map]; exact hlen
  have hl := lv_entry (As.map (gx_v sp ad)) (n := nL) hsl
  rw [lg_entry_eq]
  have hg := hF (p, l, e, (headSpec Ts { frames := d + 20, cells := kc, slots := ks, locals := 64 * d + 2000 }).room, s, m, (As.map (gx_v sp ad)).toArray, below, meth, c) (D, dT, sp, va_A (gx_w dT sp ad h) s.heap.size, h.length, ad) rfl rfl rfl rfl
    ⟨⟨B.exec, B.bytes, hml, findClass_of_methodNamed B.named, (name_of_methodNamed B.named B.method).1, B.returns⟩, hts, hK, fun q hq => Or.inr hq, B.notSynchronized, hG⟩ hex rfl rfl ad s.heap [] _
    ⟨hP, hD0.self, va_S.rf, hok, Nat.le_refl _, fun _ _ => rfl⟩
    ⟨hl.1, hl.2.1, by rw [hAs]; simp; omega, fun i v hi => by
      rw [hAs] at hi
      have hil : i < As.length := by
        by_cases hil : i < As.length
        · exact hil
        · rw [List.getElem?_append_right (by rw [List.length_map]; omega)] at hi
          have h9 := List.eq_of_mem_replicate (List.mem_of_getElem? hi)
          cases h9
      rw [List.getElem?_append_left (by rw [List.length_map]; exact hil), List.getElem?_map] at hi
      cases ha : As[i]? with
      | none => rw [ha] at hi; cases hi
      | some w =>
        rw [ha] at hi
        have e1 : w = v := by simpa using hi
        subst e1
        have hm : w ∈ As := List.mem_of_getElem? ha
        refine ⟨?_, hoka w hm, hcat w hm⟩
        have h8 := hl.2.2 (0 + i, gx_v sp ad w) (gx_args _ 0 i _ hcv (by rw [List.getElem?_map, ha]; rfl))
        rw [Nat.zero_add] at h8
        exact h8⟩
    (fun v hv => by cases hv) (Nat.le_refl _) (Nat.le_refl _)
  have e1 : (headSpec Ts { frames := d + 20, cells := kc, slots := ks, locals := 64 * d + 2000 }).room.cells - kc = 0 := Nat.sub_self kc
  have e2 : (headSpec Ts { frames := d + 20, cells := kc, slots := ks, locals := 64 * d + 2000 }).room.slots - ks = 0 := Nat.sub_self ks
  rw [e1, e2] at hg
  exact hg
end GLD
