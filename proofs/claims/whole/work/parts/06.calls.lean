/-! Ends, new cells, calls. Written by wip/tools/calls.py. -/
section GXC
variable {cl : List vw_C} {tyl : List FieldType} {Ts : List Cond} {G : (Nat → Nat) → (Nat → Prop) → State → Heap → Prop} {cc : ByteArray} {my : MethodName} {nL : Nat} {ret : Option FieldType} {pc nx : Nat}
/-- a heap behind a method -/
def gx_Re (cl : List vw_C) (y : gx_D) (h : gx_H) (ad : Nat → Nat) (st t : State) : Prop := match y with
  | (D, dT, sp, A, n0, ad0) => (va_P D cl (gx_w dT sp ad h) t.heap ∧ va_D A (gx_w dT sp ad h) ∧ gx_okH h ∧ n0 ≤ h.length ∧ ∀ k, k < n0 → ad k = ad0 k) ∧ va_F A st t
def gx_Q (cl : List vw_C) (y : gx_D) (Q : gx_R → Prop) : Array Value → State → Outcome → State → Prop := fun _ st o t => ∃ (v : Option Value) (h : gx_H) (ad : Nat → Nat), Q (.inl v, h) ∧ o = .returned (v.map (gx_v y.2.2.1 ad)) ∧ (∀ u, v = some u → gx_ok h.length u) ∧ gx_Re cl y h ad st t
def gx_XC (cl : List vw_C) (y : gx_D) (Q : gx_R → Prop) : String → State → State → Prop := fun E st t => ∃ (h : gx_H) (ad : Nat → Nat), Q (.inr E, h) ∧ gx_Re cl y h ad st t
def gx_Fin (z : gx_M) (x : gx_C) (y : gx_D) (Q : gx_R → Prop) : State → Prop := match z, x, y with
  | (cl, _, _, _, _, _, _, _), (_, _, _, R, s, _, args, below, _, _), (D, dT, sp, A, n0, ad0) => vx_MQ below (gx_Q cl (D, dT, sp, A, n0, ad0) Q) (gx_XC cl (D, dT, sp, A, n0, ad0) Q) args s R.cells R.slots A
/-- an instruction that ends the method is right at pc -/
def gx_sR (z : gx_M) (pc : Nat) (T : gx_T) : Prop := ∀ (x : gx_C) (y : gx_D) (lv : List (Option Value)) (st : List Value) (h : gx_H) (bc bs : Nat) (K : gx_S → Prop) (Q : gx_R → Prop) (C : Nat → gx_S → (gx_R → Prop) → Prop),
  gx_Cx z x y → T (pc, lv, st, h, bc, bs) K Q C → gx_Gd z x y (gx_Fin z x y Q) (pc, lv, st, h, bc, bs)
theorem gs_iret {ty : FieldType} (hd : decode cc pc = .ok (.ireturn, 1)) : gx_sR (cl, tyl, G, Ts, cc, my, nL, some ty) pc (gi_iret ty) := by
  rintro ⟨p, l, e, R, s, m, args, below, meth, c⟩ ⟨D, dT, sp, A, n0, ad0⟩  lv st h bc bs K Q C ⟨⟨hx, hb, hml, hown, hnm0, hret⟩, hts, hK0, hA, hlk, hG⟩ hT ad H locs ls hh hv hs hc1 hc2
  rcases st with _ | ⟨v, st⟩
  · exact False.elim hT
  cases v with
  | int a =>
    rcases st with _ | ⟨v, st⟩
    · obtain ⟨hn, hQ⟩ := hT
      obtain ⟨hP, hD, hS, hok, hn0, had⟩ := hh
      refine vx_ret (W.widen (k := R.cells) (n := R.slots) (Nat.sub_le _ _) (Nat.sub_le _ _) ?_)
      exact W.zret hx hb hret hn (fun t ht hW => ⟨some (.int a), h, ad, hQ, rfl, (fun u hu => by cases hu; trivial), ⟨by rw [ht]; exact hP, hD, hok, hn0, had⟩, hS.F ht⟩) hS.2.2 hd hlk
    · exact False.elim hT
  | _ => exact False.elim hT
theorem gs_ret (hd : decode cc pc = .ok (.return_, 1)) : gx_sR (cl, tyl, G, Ts, cc, my, nL, none) pc gi_ret := by
  rintro ⟨p, l, e, R, s, m, args, below, meth, c⟩ ⟨D, dT, sp, A, n0, ad0⟩  lv st h bc bs K Q C ⟨⟨hx, hb, hml, hown, hnm0, hret⟩, hts, hK0, hA, hlk, hG⟩ hT ad H locs ls hh hv hs hc1 hc2
  rcases st with _ | ⟨v, st⟩
  · obtain ⟨hP, hD, hS, hok, hn0, had⟩ := hh
    refine vx_ret (W.widen (k := R.cells) (n := R.slots) (Nat.sub_le _ _) (Nat.sub_le _ _) ?_)
    exact W.vret hx hb hret (fun t ht hW => ⟨none, h, ad, hT, rfl, (fun u hu => by cases hu), ⟨by rw [ht]; exact hP, hD, hok, hn0, had⟩, hS.F ht⟩) hS.2.2 hd hlk
  · exact False.elim hT
theorem gs_newi {t : Nat} (ht : tyl[t]? = some .int) (hw : Cond.arrayClass .int ∈ Ts) (hd : decode cc pc = .ok (.newarray .int, 2)) : gx_s1 (cl, tyl, G, Ts, cc, my, nL, ret) pc (gi_newa t (pc + 2)) := by
  rintro ⟨p, l, e, R, s, m, args, below, meth, c⟩ ⟨D, dT, sp, A, n0, ad0⟩ Fin lv st h bc bs K Q C ⟨⟨hx, hb, hml, hown, hnm0, hret⟩, hts, hK0, hA, hlk, hG⟩ hT hK ad H locs ls hh hv hs hc1 hc2
  rcases st with _ | ⟨v, st⟩
  · exact False.elim hT
  cases v with
  | int n =>
    obtain ⟨⟨hn, hby⟩, ⟨hb1, hb2⟩, hT⟩ := hT
    obtain ⟨hP, hD, hS, hok, hn0, had⟩ := hh
    refine va_newa (atype := .int) hx hb (hts _ hw) rfl hK0 hP hD hS hA (a0 := (n.toNatClampNeg, .inl (fun _ => 0))) (fun cA => rfl) hn rfl (Nat.le_trans (Nat.mul_le_mul_left _ (by decide)) hby) (by omega) (by omega) hd (fun q cA H1 hK1 hP1 hD1 hS1 => ?_)
    have e1 : cA = dT t := by
      have h1 : s.vm.findClass ("[" ++ (FieldType.int).toString) = some cA := (hK1.2 (gx_ty dT tyl).length (cA, .int) (by rw [List.getElem?_append_right (Nat.le_refl _), Nat.sub_self]; rfl)).2
      have h2 : s.vm.findClass ("[" ++ (FieldType.int).toString) = some (dT t) := (hK0.2 t (dT t, .int) (gx_ty_at ht)).2
      exact Option.some.inj (h1.symm.trans h2)
    subst e1
    have hlen : (h ++ [(Sum.inl (t, n.toNatClampNeg, Sum.inl (fun _ => 0)) : gx_E)]).length = h.length + 1 := by simp
    have hext : ∀ k, k < h.length → (fun k => if k = h.length then q else ad k) k = ad k := fun k hk => if_neg (Nat.ne_of_lt hk)
    have ew : gx_w dT sp (fun k => if k = h.length then q else ad k) (h ++ [(Sum.inl (t, n.toNatClampNeg, Sum.inl (fun _ => 0)) : gx_E)]) = gx_w dT sp ad h ++ [(q, .inl (dT t, n.toNatClampNeg, .inl (fun _ => 0)))] := by
      rw [gx_w.push (ad := ad) _ hok hext]
      congr 1
      show [((if h.length = h.length then q else ad h.length), _)] = _
      rw [if_pos rfl]
      rfl
    have hst : (st.map (gx_v sp ad)) = st.map (gx_v sp (fun k => if k = h.length then q else ad k)) := List.map_congr_left (fun v hm => (gx_v.ext (hs v (List.mem_cons_of_mem _ hm)) hext).symm)
    rw [show R.cells - bc + 1 = R.cells - (bc - 1) by omega, show R.slots - bs + n.toNatClampNeg = R.slots - (bs - n.toNatClampNeg) by omega, hst]
    have hg := hK _ hT (fun k => if k = h.length then q else ad k) H1 locs ls ⟨by rw [ew]; exact hP1, by rw [ew]; exact hD1, hS1, hok.push trivial, by rw [hlen]; omega, fun k hk => (hext k (Nat.lt_of_lt_of_le hk hn0)).trans (had k hk)⟩
      ⟨hv.1, hv.2.1, hv.2.2.1, fun i v hi => ⟨by rw [gx_v.ext (hv.2.2.2 i v hi).2.1 hext]; exact (hv.2.2.2 i v hi).1, (hv.2.2.2 i v hi).2.1.le (by rw [hlen]; omega), (hv.2.2.2 i v hi).2.2⟩⟩
      (fun v hm => by
        rcases List.mem_cons.mp hm with e1 | e1
        · rw [e1]; show h.length < (h ++ [_]).length; rw [hlen]; omega
        · exact (hs v (List.mem_cons_of_mem _ e1)).le (by rw [hlen]; omega)) (by omega) (by omega)
    rw [List.map_cons] at hg
    have e0 : gx_v sp (fun k => if k = h.length then q else ad k) (.ref h.length) = .ref q := by
      show Value.ref (if h.length = h.length then q else ad h.length) = .ref q
      rw [if_pos rfl]
    rw [e0] at hg
    exact hg
  | _ => exact False.elim hT
theorem gs_newc {t : Nat} (ht : tyl[t]? = some .char) (hw : Cond.arrayClass .char ∈ Ts) (hd : decode cc pc = .ok (.newarray .char, 2)) : gx_s1 (cl, tyl, G, Ts, cc, my, nL, ret) pc (gi_newa t (pc + 2)) := by
  rintro ⟨p, l, e, R, s, m, args, below, meth, c⟩ ⟨D, dT, sp, A, n0, ad0⟩ Fin lv st h bc bs K Q C ⟨⟨hx, hb, hml, hown, hnm0, hret⟩, hts, hK0, hA, hlk, hG⟩ hT hK ad H locs ls hh hv hs hc1 hc2
  rcases st with _ | ⟨v, st⟩
  · exact False.elim hT
  cases v with
  | int n =>
    obtain ⟨⟨hn, hby⟩, ⟨hb1, hb2⟩, hT⟩ := hT
    obtain ⟨hP, hD, hS, hok, hn0, had⟩ := hh
    refine va_newa (atype := .char) hx hb (hts _ hw) rfl hK0 hP hD hS hA (a0 := (n.toNatClampNeg, .inl (fun _ => 0))) (fun cA => rfl) hn rfl (Nat.le_trans (Nat.mul_le_mul_left _ (by decide)) hby) (by omega) (by omega) hd (fun q cA H1 hK1 hP1 hD1 hS1 => ?_)
    have e1 : cA = dT t := by
      have h1 : s.vm.findClass ("[" ++ (FieldType.char).toString) = some cA := (hK1.2 (gx_ty dT tyl).length (cA, .char) (by rw [List.getElem?_append_right (Nat.le_refl _), Nat.sub_self]; rfl)).2
      have h2 : s.vm.findClass ("[" ++ (FieldType.char).toString) = some (dT t) := (hK0.2 t (dT t, .char) (gx_ty_at ht)).2
      exact Option.some.inj (h1.symm.trans h2)
    subst e1
    have hlen : (h ++ [(Sum.inl (t, n.toNatClampNeg, Sum.inl (fun _ => 0)) : gx_E)]).length = h.length + 1 := by simp
    have hext : ∀ k, k < h.length → (fun k => if k = h.length then q else ad k) k = ad k := fun k hk => if_neg (Nat.ne_of_lt hk)
    have ew : gx_w dT sp (fun k => if k = h.length then q else ad k) (h ++ [(Sum.inl (t, n.toNatClampNeg, Sum.inl (fun _ => 0)) : gx_E)]) = gx_w dT sp ad h ++ [(q, .inl (dT t, n.toNatClampNeg, .inl (fun _ => 0)))] := by
      rw [gx_w.push (ad := ad) _ hok hext]
      congr 1
      show [((if h.length = h.length then q else ad h.length), _)] = _
      rw [if_pos rfl]
      rfl
    have hst : (st.map (gx_v sp ad)) = st.map (gx_v sp (fun k => if k = h.length then q else ad k)) := List.map_congr_left (fun v hm => (gx_v.ext (hs v (List.mem_cons_of_mem _ hm)) hext).symm)
    rw [show R.cells - bc + 1 = R.cells - (bc - 1) by omega, show R.slots - bs + n.toNatClampNeg = R.slots - (bs - n.toNatClampNeg) by omega, hst]
    have hg := hK _ hT (fun k => if k = h.length then q else ad k) H1 locs ls ⟨by rw [ew]; exact hP1, by rw [ew]; exact hD1, hS1, hok.push trivial, by rw [hlen]; omega, fun k hk => (hext k (Nat.lt_of_lt_of_le hk hn0)).trans (had k hk)⟩
      ⟨hv.1, hv.2.1, hv.2.2.1, fun i v hi => ⟨by rw [gx_v.ext (hv.2.2.2 i v hi).2.1 hext]; exact (hv.2.2.2 i v hi).1, (hv.2.2.2 i v hi).2.1.le (by rw [hlen]; omega), (hv.2.2.2 i v hi).2.2⟩⟩
      (fun v hm => by
        rcases List.mem_cons.mp hm with e1 | e1
        · rw [e1]; show h.length < (h ++ [_]).length; rw [hlen]; omega
        · exact (hs v (List.mem_cons_of_mem _ e1)).le (by rw [hlen]; omega)) (by omega) (by omega)
    rw [List.map_cons] at hg
    have e0 : gx_v sp (fun k => if k = h.length then q else ad k) (.ref h.length) = .ref q := by
      show Value.ref (if h.length = h.length then q else ad h.length) = .ref q
      rw [if_pos rfl]
    rw [e0] at hg
    exact hg
  | _ => exact False.elim hT
theorem gs_newz {t : Nat} (ht : tyl[t]? = some .boolean) (hw : Cond.arrayClass .boolean ∈ Ts) (hd : decode cc pc = .ok (.newarray .boolean, 2)) : gx_s1 (cl, tyl, G, Ts, cc, my, nL, ret) pc (gi_newa t (pc + 2)) := by
  rintro ⟨p, l, e, R, s, m, args, below, meth, c⟩ ⟨D, dT, sp, A, n0, ad0⟩ Fin lv st h bc bs K Q C ⟨⟨hx, hb, hml, hown, hnm0, hret⟩, hts, hK0, hA, hlk, hG⟩ hT hK ad H locs ls hh hv hs hc1 hc2
  rcases st with _ | ⟨v, st⟩
  · exact False.elim hT
  cases v with
  | int n =>
    obtain ⟨⟨hn, hby⟩, ⟨hb1, hb2⟩, hT⟩ := hT
    obtain ⟨hP, hD, hS, hok, hn0, had⟩ := hh
    refine va_newa (atype := .boolean) hx hb (hts _ hw) rfl hK0 hP hD hS hA (a0 := (n.toNatClampNeg, .inl (fun _ => 0))) (fun cA => rfl) hn rfl (Nat.le_trans (Nat.mul_le_mul_left _ (by decide)) hby) (by omega) (by omega) hd (fun q cA H1 hK1 hP1 hD1 hS1 => ?_)
    have e1 : cA = dT t := by
      have h1 : s.vm.findClass ("[" ++ (FieldType.boolean).toString) = some cA := (hK1.2 (gx_ty dT tyl).length (cA, .boolean) (by rw [List.getElem?_append_right (Nat.le_refl _), Nat.sub_self]; rfl)).2
      have h2 : s.vm.findClass ("[" ++ (FieldType.boolean).toString) = some (dT t) := (hK0.2 t (dT t, .boolean) (gx_ty_at ht)).2
      exact Option.some.inj (h1.symm.trans h2)
    subst e1
    have hlen : (h ++ [(Sum.inl (t, n.toNatClampNeg, Sum.inl (fun _ => 0)) : gx_E)]).length = h.length + 1 := by simp
    have hext : ∀ k, k < h.length → (fun k => if k = h.length then q else ad k) k = ad k := fun k hk => if_neg (Nat.ne_of_lt hk)
    have ew : gx_w dT sp (fun k => if k = h.length then q else ad k) (h ++ [(Sum.inl (t, n.toNatClampNeg, Sum.inl (fun _ => 0)) : gx_E)]) = gx_w dT sp ad h ++ [(q, .inl (dT t, n.toNatClampNeg, .inl (fun _ => 0)))] := by
      rw [gx_w.push (ad := ad) _ hok hext]
      congr 1
      show [((if h.length = h.length then q else ad h.length), _)] = _
      rw [if_pos rfl]
      rfl
    have hst : (st.map (gx_v sp ad)) = st.map (gx_v sp (fun k => if k = h.length then q else ad k)) := List.map_congr_left (fun v hm => (gx_v.ext (hs v (List.mem_cons_of_mem _ hm)) hext).symm)
    rw [show R.cells - bc + 1 = R.cells - (bc - 1) by omega, show R.slots - bs + n.toNatClampNeg = R.slots - (bs - n.toNatClampNeg) by omega, hst]
    have hg := hK _ hT (fun k => if k = h.length then q else ad k) H1 locs ls ⟨by rw [ew]; exact hP1, by rw [ew]; exact hD1, hS1, hok.push trivial, by rw [hlen]; omega, fun k hk => (hext k (Nat.lt_of_lt_of_le hk hn0)).trans (had k hk)⟩
      ⟨hv.1, hv.2.1, hv.2.2.1, fun i v hi => ⟨by rw [gx_v.ext (hv.2.2.2 i v hi).2.1 hext]; exact (hv.2.2.2 i v hi).1, (hv.2.2.2 i v hi).2.1.le (by rw [hlen]; omega), (hv.2.2.2 i v hi).2.2⟩⟩
      (fun v hm => by
        rcases List.mem_cons.mp hm with e1 | e1
        · rw [e1]; show h.length < (h ++ [_]).length; rw [hlen]; omega
        · exact (hs v (List.mem_cons_of_mem _ e1)).le (by rw [hlen]; omega)) (by omega) (by omega)
    rw [List.map_cons] at hg
    have e0 : gx_v sp (fun k => if k = h.length then q else ad k) (.ref h.length) = .ref q := by
      show Value.ref (if h.length = h.length then q else ad h.length) = .ref q
      rw [if_pos rfl]
    rw [e0] at hg
    exact hg
  | _ => exact False.elim hT
theorem gs_new {ci N idx : Nat} {Cn : String} {T : u_T} {fs : List Value} (hc : cl[ci]? = some (Cn, T, N)) (hin : ∀ w ∈ u_ws Cn T N, w ∈ Ts) (ty0 : Nat → FieldType) (hty : ∀ k, k < N → parseFieldDescriptor (T k).2.2.1 = some (ty0 k)) (hfs : ∀ j, j < N → defaultValue (ty0 j) = vp_V fs j) (hf0 : ∀ u ∈ fs, gx_ok 0 u ∧ ∀ sp ad, gx_v sp ad u = u) (hlink : Cond.classLink my.cls idx Cn ∈ Ts) (hinst : Cond.instantiable Cn N ∈ Ts) (hini : Cond.initialized Cn ∈ Ts) (hd : decode cc pc = .ok (.new idx, 3)) : gx_s1 (cl, tyl, G, Ts, cc, my, nL, ret) pc (gi_new ci N fs (pc + 3)) := by
  rintro ⟨p, l, e, R, s, m, args, below, meth, c⟩ ⟨D, dT, sp, A, n0, ad0⟩ Fin lv st h bc bs K Q C ⟨⟨hx, hb, hml, hown, hnm0, hret⟩, hts, hK0, hA, hlk, hG⟩ hT hK ad H locs ls hh hv hs hc1 hc2
  obtain ⟨hP, hD, hS, hok, hn0, had⟩ := hh
  obtain ⟨⟨hb1, hb2⟩, hT⟩ := hT
  refine va_new hx hb hts hin ty0 hty hown (hts _ hlink) (hts _ hinst) (hts _ hini) hK0 hP hD hS hA hc (fs := fs) hfs (by omega) (by omega) hd (fun q H1 hP1 hD1 hS1 => ?_)
  have hlen : (h ++ [(Sum.inr (ci, fs) : gx_E)]).length = h.length + 1 := by simp
  have hext : ∀ k, k < h.length → (fun k => if k = h.length then q else ad k) k = ad k := fun k hk => if_neg (Nat.ne_of_lt hk)
  have ew : gx_w dT sp (fun k => if k = h.length then q else ad k) (h ++ [(Sum.inr (ci, fs) : gx_E)]) = gx_w dT sp ad h ++ [(q, .inr (ci, fs))] := by
    rw [gx_w.push (ad := ad) _ hok hext]
    congr 1
    show [((if h.length = h.length then q else ad h.length), _)] = _
    rw [if_pos rfl]
    show [(q, Sum.inr (ci, fs.map (gx_v sp _)))] = _
    rw [List.map_congr_left (g := fun v => v) (fun v hv => (hf0 v hv).2 _ _), List.map_id']
  have hst : (st.map (gx_v sp ad)) = st.map (gx_v sp (fun k => if k = h.length then q else ad k)) := List.map_congr_left (fun v hm => (gx_v.ext (hs v hm) hext).symm)
  rw [show R.cells - bc + 1 = R.cells - (bc - 1) by omega, show R.slots - bs + N = R.slots - (bs - N) by omega, hst]
  have hg := hK _ hT (fun k => if k = h.length then q else ad k) H1 locs ls ⟨by rw [ew]; exact hP1, by rw [ew]; exact hD1, hS1, hok.push (fun u hu => (hf0 u hu).1.le (Nat.zero_le _)), by rw [hlen]; omega, fun k hk => (hext k (Nat.lt_of_lt_of_le hk hn0)).trans (had k hk)⟩
    ⟨hv.1, hv.2.1, hv.2.2.1, fun i v hi => ⟨by rw [gx_v.ext (hv.2.2.2 i v hi).2.1 hext]; exact (hv.2.2.2 i v hi).1, (hv.2.2.2 i v hi).2.1.le (by rw [hlen]; omega), (hv.2.2.2 i v hi).2.2⟩⟩
    (fun v hm => by
      rcases List.mem_cons.mp hm with e1 | e1
      · rw [e1]; show h.length < (h ++ [_]).length; rw [hlen]; omega
      · exact (hs v e1).le (by rw [hlen]; omega)) (by omega) (by omega)
  rw [List.map_cons] at hg
  have e0 : gx_v sp (fun k => if k = h.length then q else ad k) (.ref h.length) = .ref q := by
    show Value.ref (if h.length = h.length then q else ad h.length) = .ref q
    rw [if_pos rfl]
  rw [e0] at hg
  exact hg
/-- what a caller has of method z' begun with the values As: with d frames left -/
def gx_Mt (l : Launch) (z : gx_M) (D : va_G) (dT : Nat → ClassId) (sp : Nat → Nat) (d : Nat) (E : gx_S) (Q : gx_R → Prop) : Prop := match z, E with
  | (cl, tyl, G, Ts, cc, my, nL, ret), (_, lv, _, h, kc, ks) => ∀ (As : List Value), lv = As.map some ++ List.replicate (nL - As.length) none → (∀ v ∈ As, v.category = 1) → As.length ≤ nL → ∀ (ad : Nat → Nat) (sz : Nat),
    vx_Met l my Ts ({ frames := d + 20, cells := kc, slots := ks, locals := 64 * d + 2000 }) (va_Pc (As.map (gx_v sp ad)) (fun U => U.heap.size = sz ∧ va_P D cl (gx_w dT sp ad h) U.heap ∧ va_K D cl (gx_ty dT tyl) U ∧ va_D (fun _ => True) (gx_w dT sp ad h) ∧ G sp (va_A (gx_w dT sp ad h) sz) U U.heap ∧ gx_okH h ∧ ∀ v ∈ As, gx_ok h.length v))
      (gx_Q cl (D, dT, sp, va_A (gx_w dT sp ad h) sz, h.length, ad) Q) (gx_XC cl (D, dT, sp, va_A (gx_w dT sp ad h) sz, h.length, ad) Q) kc ks (va_A (gx_w dT sp ad h) sz)
theorem gx_args : ∀ (vs : List Value) (k i : Nat) (v : Value), (∀ u ∈ vs, u.category = 1) → vs[i]? = some v → (k + i, v) ∈ lv_args k vs
  | [], k, i, v, _, h => by simp at h
  | u :: vs, k, 0, v, hc, h => by
    have e : u = v := by simpa using h
    subst e
    exact List.mem_cons_self
  | u :: vs, k, i + 1, v, hc, h => by
    have h1 : vs[i]? = some v := by simpa using h
    have hu : ¬ u.category = 2 := by rw [hc u List.mem_cons_self]; decide
    show (k + (i + 1), v) ∈ (k, u) :: lv_args (if u.category = 2 then k + 2 else k + 1) vs
    rw [if_neg hu, show k + (i + 1) = (k + 1) + i by omega]
    exact List.mem_cons_of_mem _ (gx_args vs (k + 1) i v (fun w hw => hc w (List.mem_cons_of_mem _ hw)) h1)
theorem gx_sl : ∀ (vs : List Value), (∀ u ∈ vs, u.category = 1) → (lg_sl vs).length = vs.length
  | [], _ => rfl
  | u :: vs, hc => by
    have hu : ¬ u.category = 2 := by rw [hc u List.mem_cons_self]; decide
    show ((if u.category = 2 then [Slot.val u, .second] else [.val u]) ++ lg_sl vs).length = vs.length + 1
    rw [if_neg hu, List.length_append, gx_sl vs (fun w hw => hc w (List.mem_cons_of_mem _ hw))]
    simp; omega
/-- a body that is right is a contract -/
theorem gx_Mt.of {l : Launch} {D : va_G} {dT : Nat → ClassId} {sp : Nat → Nat} {d : Nat} {lv : List (Option Value)} {h : gx_H} {kc ks : Nat} {Q : gx_R → Prop} {Ts' : List Cond} (hy : plainName my.cls = true) (hw : Ts = Cond.code my cc nL ret :: Ts')
    (hF : ∀ (x : gx_C) (y : gx_D), x.2.1 = l → y.1 = D → y.2.1 = dT → y.2.2.1 = sp → gx_Cx (cl, tyl, G, Ts, cc, my, nL, ret) x y → (∀ z ∈ x.2.2.2.2.2.2.2.2.2.exceptionTable.toList, False) → x.2.2.2.1.frames = d + 20 → x.2.2.2.1.locals = 64 * d + 2000 → gx_Gd (cl, tyl, G, Ts, cc, my, nL, ret) x y (gx_Fin (cl, tyl, G, Ts, cc, my, nL, ret) x y Q) (0, lv, [], h, kc, ks)) :
    gx_Mt l (cl, tyl, G, Ts, cc, my, nL, ret) D dT sp d (0, lv, [], h, kc, ks) Q := by
  intro As hAs hcat hlen ad sz
  refine vx_ofW (cc := cc) (maxL := nL) (ret := ret) hy hw ?_
  intro p e s m args below meth c s₁ B hml hex hv
  obtain ⟨rfl, hsz, hP, hK, hD0, hG, hok, hoka⟩ := hv
  have hts := atoms_spec (ws := Ts) B.pre
  subst hsz
  have hcv : ∀ u ∈ As.map (gx_v sp ad), u.category = 1 := fun u hu => by
    obtain ⟨v, hv, rfl⟩ := List.mem_map.mp hu
    rw [gx_v_cat]
    exact hcat v hv
  have hsl : (lg_sl (As.map (gx_v sp ad))).length ≤ nL := by rw [gx_sl _ hcv, List.length_map]; exact hlen
  have hl := lv_entry (As.map (gx_v sp ad)) (n := nL) hsl
  rw [lg_entry_eq]
  have hg := hF (p, l, e, (headSpec Ts { frames := d + 20, cells := kc, slots := ks, locals := 64 * d + 2000 }).room, s, m, (As.map (gx_v sp ad)).toArray, below, meth, c) (D, dT, sp, va_A (gx_w dT sp ad h) s.heap.size, h.length, ad) rfl rfl rfl rfl
    ⟨⟨B.exec, B.bytes, hml, findClass_of_methodNamed B.named, (name_of_methodNamed B.named B.method).1, B.returns⟩, hts, hK, fun q hq => Or.inr hq, B.notSynchronized, hG⟩ hex rfl rfl ad s.heap [] _
    ⟨hP, hD0.self, va_S.rf, hok, Nat.le_refl _, fun _ _ => rfl⟩
    ⟨hl.1, hl.2.1, by rw [hAs]; simp; omega, fun i v hi => by
      rw [hAs] at hi
      have hil : i < As.length := by
        by_cases hil : i < As.length
        · exact hil
        · rw [List.getElem?_append_right (by rw [List.length_map]; omega)] at hi
          have h9 := List.eq_of_mem_replicate (List.mem_of_getElem? hi)
          cases h9
      rw [List.getElem?_append_left (by rw [List.length_map]; exact hil), List.getElem?_map] at hi
      cases ha : As[i]? with
      | none => rw [ha] at hi; cases hi
      | some w =>
        rw [ha] at hi
        have e1 : w = v := by simpa using hi
        subst e1
        have hm : w ∈ As := List.mem_of_getElem? ha
        refine ⟨?_, hoka w hm, hcat w hm⟩
        have h8 := hl.2.2 (0 + i, gx_v sp ad w) (gx_args _ 0 i _ hcv (by rw [List.getElem?_map, ha]; rfl))
        rw [Nat.zero_add] at h8
        exact h8⟩
    (fun v hv => by cases hv) (Nat.le_refl _) (Nat.le_refl _)
  have e1 : (headSpec Ts { frames := d + 20, cells := kc, slots := ks, locals := 64 * d + 2000 }).room.cells - kc = 0 := Nat.sub_self kc
  have e2 : (headSpec Ts { frames := d + 20, cells := kc, slots := ks, locals := 64 * d + 2000 }).room.slots - ks = 0 := Nat.sub_self ks
  rw [e1, e2] at hg
  exact hg
/-- behind a call, by what its callee says -/
theorem gx_after {p : Program} {l : Launch} {e : Env} {R : Room} {s : State} {m : MethodId} {args : Array Value} {below : List Frame} {meth : Method} {c : Code} {D : va_G} {dT : Nat → ClassId} {sp : Nat → Nat} {A : Nat → Prop} {n0 : Nat} {ad0 ad : Nat → Nat}
    {lv : List (Option Value)} {st : List Value} {h : gx_H} {bc bs kc ks len : Nat} {K : gx_S → Prop} {Q : gx_R → Prop} {H : Heap} {locs : List Loc} {ls : Array Slot} {st0 : List Value} {a : Array Value} {Fin : State → Prop}
    (run : ∀ T : State, T.heap = H → Stand p l e R s m args below meth c T locs (R.cells - bc) (R.slots - bs) →
      (∃ (v : Option Value) (st₀ t T' : State) (L : List Loc), st₀.heap = H ∧ Stand p l e R s m args below meth c T' (locs ++ L) (R.cells - bc + kc) (R.slots - bs + ks) ∧ (∀ q ∈ L, va_A (gx_w dT sp ad h) H.size q.base) ∧ T'.heap = t.heap ∧ T'.vm = t.vm ∧ gx_Q cl (D, dT, sp, va_A (gx_w dT sp ad h) H.size, h.length, ad) (gx_k lv st (pc + len) (bc - kc) (bs - ks) K Q) a st₀ (.returned v) t ∧
        Goes p e below T (F0 m pc ls st0) T' { F0 m pc ls st0 with pc := pc + len, stack := v.toList ++ st.map (gx_v sp ad) }) ∨
      (∃ (q : Addr) (st₀ t T' : State) (L : List Loc) (E : String) (ce : Cell), st₀.heap = H ∧ Stand p l e R s m args below meth c T' (locs ++ L) (R.cells - bc + kc) (R.slots - bs + ks) ∧ (∀ z ∈ L, va_A (gx_w dT sp ad h) H.size z.base) ∧ T'.heap = t.heap ∧ T'.vm = t.vm ∧ gx_XC cl (D, dT, sp, va_A (gx_w dT sp ad h) H.size, h.length, ad) (gx_k lv st (pc + len) (bc - kc) (bs - ks) K Q) E st₀ t ∧ t.heap[q]? = some ce ∧ ce.vm = .none ∧ s.vm.findClass E = some ce.cls ∧
        Steps p.tables e below (T.setTop (F0 m pc ls st0)) ((T'.setTop { F0 m pc ls st0 with stack := st.map (gx_v sp ad) }).pushFrame (.throwing q))))
    (hA : ∀ q, s.heap.size ≤ q → A q) (hh : gx_Rh cl (D, dT, sp, A, n0, ad0) s h ad H locs) (hv : gx_Rv sp nL lv h.length ad ls) (hs : gx_Rs st h.length) (hc1 : bc ≤ R.cells) (hc2 : bs ≤ R.slots) (hk1 : kc ≤ bc) (hk2 : ks ≤ bs)
    (hK : ∀ S', K S' → gx_Gd (cl, tyl, G, Ts, cc, my, nL, ret) (p, l, e, R, s, m, args, below, meth, c) (D, dT, sp, A, n0, ad0) Fin S')
    (hX : ∀ (E : String) (h' : gx_H) (ad' : Nat → Nat) (H' : Heap) (locs' : List Loc) (q : Addr) (ce : Cell), Q (.inr E, h') → gx_Rh cl (D, dT, sp, A, n0, ad0) s h' ad' H' locs' → gx_Rv sp nL lv h'.length ad' ls → H'[q]? = some ce → ce.vm = .none → s.vm.findClass E = some ce.cls → vx_W p l e R s m args below meth c H' locs' (R.cells - (bc - kc)) (R.slots - (bs - ks)) Fin (F0 m pc ls (st.map (gx_v sp ad))) q) :
    W p l e R s m args below meth c H locs (R.cells - bc) (R.slots - bs) Fin (F0 m pc ls st0) := by
  obtain ⟨hP, hD, hS, hok, hn0, had⟩ := hh
  have hsub : ∀ q, va_A (gx_w dT sp ad h) H.size q → A q := fun q hq => by
    rcases hq with ⟨k, e9, hk⟩ | hq
    · exact hD.2 k (q, e9) hk
    · exact hA q (Nat.le_trans hS.1 hq)
  have key : ∀ (h' : gx_H) (ad' : Nat → Nat) (st₀ t T' : State) (L : List Loc), st₀.heap = H → T'.heap = t.heap → (∀ q ∈ L, va_A (gx_w dT sp ad h) H.size q.base) → gx_Re cl (D, dT, sp, va_A (gx_w dT sp ad h) H.size, h.length, ad) h' ad' st₀ t →
      gx_Rh cl (D, dT, sp, A, n0, ad0) s h' ad' T'.heap (locs ++ L) ∧ gx_Rv sp nL lv h'.length ad' ls ∧ gx_Rs st h'.length ∧ st.map (gx_v sp ad') = st.map (gx_v sp ad) := by
    intro h' ad' st₀ t T' L h0 e1 hL ⟨⟨hP', hD', hok', hn', had'⟩, hF⟩
    refine ⟨⟨by rw [e1]; exact hP', hD'.weaken (fun k q _ hq => hsub q.1 hq), ⟨?_, ?_, ?_⟩, hok', Nat.le_trans hn0 hn', fun k hk => (had' k (Nat.lt_of_lt_of_le hk hn0)).trans (had k hk)⟩, ⟨hv.1, hv.2.1, hv.2.2.1, fun i v hi => ?_⟩, fun v hm => (hs v hm).le hn', List.map_congr_left (fun v hm => gx_v.ext (hs v hm) had')⟩
    · rw [e1]; exact Nat.le_trans hS.1 (by rw [← h0]; exact hF.1)
    · intro q hq hnA
      rw [e1, hF.2 q (by rw [h0]; exact Nat.lt_of_lt_of_le hq hS.1) (fun z => hnA (hsub q z)), h0]
      exact hS.2.1 q hq hnA
    · intro z hz
      rcases List.mem_append.mp hz with hz | hz
      · exact hS.2.2 z hz
      · exact hsub _ (hL z hz)
    · obtain ⟨g1, g2, g3⟩ := hv.2.2.2 i v hi
      exact ⟨by rw [gx_v.ext g2 had']; exact g1, g2.le hn', g3⟩
  have ec : R.cells - bc + kc = R.cells - (bc - kc) := by omega
  have es : R.slots - bs + ks = R.slots - (bs - ks) := by omega
  intro T hT X
  rcases run T hT X with ⟨v, st₀, t, T', L, h0, X', hL, e1, e2, ⟨v', h', ad', hq, hv', hvok, hre⟩, go⟩ | ⟨q, st₀, t, T', L, E, ce, h0, X', hL, e1, e2, ⟨h', ad', hq, hre⟩, hce, hcv, hcl, go⟩
  · obtain ⟨r1, r2, r3, r4⟩ := key h' ad' st₀ t T' L h0 e1 hL hre
    have ev : v = v'.map (gx_v sp ad') := Outcome.returned.inj hv'
    subst ev
    rw [ec, es] at X'
    cases v' with
    | none =>
      obtain ⟨t2, a1, b1⟩ := hK _ hq ad' T'.heap (locs ++ L) ls r1 r2 r3 (Nat.le_trans (Nat.sub_le _ _) hc1) (Nat.le_trans (Nat.sub_le _ _) hc2) T' rfl X'
      rw [r4] at a1
      exact ⟨t2, go t2 a1, b1⟩
    | some u =>
      obtain ⟨t2, a1, b1⟩ := hK _ hq ad' T'.heap (locs ++ L) ls r1 r2 (fun w hm => by
        rcases List.mem_cons.mp hm with e9 | e9
        · rw [e9]; exact hvok u rfl
        · exact r3 w e9) (Nat.le_trans (Nat.sub_le _ _) hc1) (Nat.le_trans (Nat.sub_le _ _) hc2) T' rfl X'
      rw [List.map_cons, r4] at a1
      exact ⟨t2, go t2 a1, b1⟩
  · obtain ⟨r1, r2, r3, r4⟩ := key h' ad' st₀ t T' L h0 e1 hL hre
    rw [ec, es] at X'
    obtain ⟨t2, a1, b1⟩ := hX E h' ad' T'.heap (locs ++ L) q ce hq r1 r2 (by rw [e1]; exact hce) hcv hcl T' rfl X'
    exact ⟨t2, go.trans a1, b1⟩
end GXC
