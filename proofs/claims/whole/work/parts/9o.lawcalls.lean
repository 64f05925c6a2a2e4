/-! What the law calls. Written by wip/tools/lawcalls.py. -/
theorem gl_goodS {own : String} {idx : Nat} {y : MethodName} {cw : Cond} (h1 : Cond.methodLink own idx y ∈ gm_WS) (h2 : Cond.static y ∈ gm_WS) (h3 : Cond.initialized y.cls ∈ gm_WS) (h4 : cw ∈ gm_WS) : GoodIn (gl_hd :: gm_WS) (va_wsS own idx y (cw :: gm_WS)) := fun w h => by
  rcases List.mem_append.mp h with h | h
  · simp only [List.mem_cons, List.not_mem_nil, or_false] at h
    rcases h with rfl | rfl | rfl
    · exact ⟨List.mem_cons_of_mem _ h1, good_of_word (List.mem_filter.mp h1).2⟩
    · exact ⟨List.mem_cons_of_mem _ h2, good_of_word (List.mem_filter.mp h2).2⟩
    · exact ⟨List.mem_cons_of_mem _ h3, good_of_word (List.mem_filter.mp h3).2⟩
  · rcases List.mem_cons.mp h with rfl | h
    · exact ⟨List.mem_cons_of_mem _ h4, good_of_word (List.mem_filter.mp h4).2⟩
    · exact ⟨List.mem_cons_of_mem _ h, good_of_word (List.mem_filter.mp h).2⟩
theorem gj_shown_0 {x y : Int32} {a a2 : gj_A} {k : Nat} {v : Int32} (h : gj_shown x y a (k, v, a2)) : k = 0 := by
  rcases h with ⟨-, h⟩ | ⟨r, s, -, -, -, -, h⟩ <;> exact gj_kk h
theorem gj_clear_0 {a a2 : gj_A} {k : Nat} {v : Int32} (h : gj_clear a (k, v, a2)) : k = 0 := by
  obtain ⟨T, ch, ln, ⟨Lx, y⟩, m⟩ := a
  exact gj_kk h
theorem gj_captures_0 {a a2 : gj_A} {k : Nat} {v : Int32} (h : gj_captures a (k, v, a2)) : k = 0 := by
  obtain ⟨T, ch, ln, tx, cp, f, w⟩ := a
  exact gj_kk h
theorem gj_farthest_0 {a a2 : gj_A} {k : Nat} {v : Int32} (h : gj_farthest a (k, v, a2)) : k = 0 := by
  obtain ⟨T, ch, ln, tx, cp, f, w⟩ := a
  exact gj_kk h
theorem gj_tried_0 {a a2 : gj_A} {k : Nat} {v : Int32} (h : gj_tried a (k, v, a2)) : k = 0 := by
  obtain ⟨T, ch, ln, tx, cp, f, w⟩ := a
  exact gj_kk h
section GLQ
variable {p : Program} {l : Launch} {e : Env} {Rm : Room} {s : State} {m : MethodId} {args : Array Value} {below : List Frame} {meth : Method} {c : Code} {D : va_G} {dT : Nat → ClassId} {sp : Nat → Nat} {A : Nat → Prop} {n0 : Nat} {ad0 : Nat → Nat} {Fin : State → Prop} {L : Nat} {xs : Nat → Int32}
variable {pc bc bs kc ks : Nat} {lv : List (Option Value)} {st : List Value} {a : gj_A} {S S1 : Nat → Nat → Int32} {P : Nat → Option Nat} {R : Nat → Int64} {E hC hM : gx_H} {f : Nat → Int64}
theorem gl_lm_thrown (hCx : gx_Cx (gl_zz L xs) (p, l, e, Rm, s, m, args, below, meth, c) (D, dT, sp, A, n0, ad0)) (hR : 1000 ≤ Rm.frames ∧ 80000 ≤ Rm.locals) (hd : decode code pc = .ok (.invokevirtual 53, 3)) (h1 : 17 ≤ hC.length) (oC : gx_okH hC) (oM : gx_okH (gm_h S)) (hsum : (st.map Value.category).sum ≤ 8) (hk : gx_Gd (gl_zz L xs) (p, l, e, Rm, s, m, args, below, meth, c) (D, dT, sp, A, n0, ad0) Fin (pc + 3, lv, .int (S 0 0) :: st, gl_h hC (gm_h S) f, bc, bs)) : gx_Gd (gl_zz L xs) (p, l, e, Rm, s, m, args, below, meth, c) (D, dT, sp, A, n0, ad0) Fin (pc, lv, .ref 17 :: st, gl_h hC (gm_h S) f, bc, bs) := by
  obtain ⟨fs, hcell⟩ := gl_cell17 h1 S f
  have hR1 := hR.1
  have hR2 := hR.2
  refine gl_V (k := 0) (As := []) (st := st) (a := 17) (d' := 200) (kc := 0) (ks := 0) (Cn := gm_R4) (T := gm_T4) (N := 35) (gl_Gok L xs) hCx (gm_good gm_k1) rfl rfl (gm_f _ gl_w5) (gm_f _ gl_w968) (gm_f _ gl_w969) (gm_f _ gl_w970) (by decide +kernel) hd ⟨rfl, by decide⟩ ⟨by omega, by omega⟩ hcell gl_i0.cat hsum ⟨Nat.zero_le _, Nat.zero_le _⟩ ?_
  refine gl_mtM rfl gl_i0 h1 rfl oC oM (gb_thrown_0 (d := 199) (Q := fun q => q = (.inl (some (.int (S 0 0))), gm_h S)) rfl) ?_
  rintro r hM2 e5 oM2
  cases e5
  exact ⟨rfl, hk⟩
theorem gl_lm_type {z : Int32} (hCx : gx_Cx (gl_zz L xs) (p, l, e, Rm, s, m, args, below, meth, c) (D, dT, sp, A, n0, ad0)) (hR : 1000 ≤ Rm.frames ∧ 80000 ≤ Rm.locals) (hd : decode code pc = .ok (.invokevirtual 52, 3)) (h1 : 17 ≤ hC.length) (oC : gx_okH hC) (oM : gx_okH (gm_h S)) (hsum : (st.map Value.category).sum ≤ 8) (hJ : gj_M a S) (hk : ∀ k v a2 S2 v', gj_type z a (k, v, a2) → gj_M a2 S2 → S2 0 0 = nI k → gx_okH (gm_h S2) → (k = 0 → v' = v) → gx_Gd (gl_zz L xs) (p, l, e, Rm, s, m, args, below, meth, c) (D, dT, sp, A, n0, ad0) Fin (pc + 3, lv, .int v' :: st, gl_h hC (gm_h S2) f, bc, bs)) : gx_Gd (gl_zz L xs) (p, l, e, Rm, s, m, args, below, meth, c) (D, dT, sp, A, n0, ad0) Fin (pc, lv, .int z :: .ref 17 :: st, gl_h hC (gm_h S) f, bc, bs) := by
  obtain ⟨fs, hcell⟩ := gl_cell17 h1 S f
  have hR1 := hR.1
  have hR2 := hR.2
  refine gl_V (k := 1) (As := [.int z]) (st := st) (a := 17) (d' := 200) (kc := 0) (ks := 0) (Cn := gm_R4) (T := gm_T4) (N := 35) (gl_Gok L xs) hCx (gm_good gm_k4) rfl rfl (gm_f _ gl_w5) (gm_f _ gl_w972) (gm_f _ gl_w973) (gm_f _ gl_w974) (by decide +kernel) hd ⟨rfl, by decide⟩ ⟨by omega, by omega⟩ hcell gl_i1.cat hsum ⟨Nat.zero_le _, Nat.zero_le _⟩ ?_
  refine gl_mtM rfl gl_i1 h1 rfl oC oM (gjm_type (d := 198) hJ) ?_
  rintro r hM2 ⟨k, v, a2, S2, v', hO, hJ2, h0, e5, hv⟩ oM2
  cases e5
  exact ⟨rfl, hk k v a2 S2 v' hO hJ2 h0 oM2 hv⟩
theorem gl_lm_text {z : Int32} (hCx : gx_Cx (gl_zz L xs) (p, l, e, Rm, s, m, args, below, meth, c) (D, dT, sp, A, n0, ad0)) (hR : 1000 ≤ Rm.frames ∧ 80000 ≤ Rm.locals) (hd : decode code pc = .ok (.invokevirtual 70, 3)) (h1 : 17 ≤ hC.length) (oC : gx_okH hC) (oM : gx_okH (gm_h S)) (hsum : (st.map Value.category).sum ≤ 8) (hJ : gj_M a S) (hk : ∀ k v a2 S2 v', gj_text z a (k, v, a2) → gj_M a2 S2 → S2 0 0 = nI k → gx_okH (gm_h S2) → (k = 0 → v' = v) → gx_Gd (gl_zz L xs) (p, l, e, Rm, s, m, args, below, meth, c) (D, dT, sp, A, n0, ad0) Fin (pc + 3, lv, .int v' :: st, gl_h hC (gm_h S2) f, bc, bs)) : gx_Gd (gl_zz L xs) (p, l, e, Rm, s, m, args, below, meth, c) (D, dT, sp, A, n0, ad0) Fin (pc, lv, .int z :: .ref 17 :: st, gl_h hC (gm_h S) f, bc, bs) := by
  obtain ⟨fs, hcell⟩ := gl_cell17 h1 S f
  have hR1 := hR.1
  have hR2 := hR.2
  refine gl_V (k := 1) (As := [.int z]) (st := st) (a := 17) (d' := 200) (kc := 0) (ks := 0) (Cn := gm_R4) (T := gm_T4) (N := 35) (gl_Gok L xs) hCx (gm_good gm_k5) rfl rfl (gm_f _ gl_w5) (gm_f _ gl_w979) (gm_f _ gl_w980) (gm_f _ gl_w981) (by decide +kernel) hd ⟨rfl, by decide⟩ ⟨by omega, by omega⟩ hcell gl_i1.cat hsum ⟨Nat.zero_le _, Nat.zero_le _⟩ ?_
  refine gl_mtM rfl gl_i1 h1 rfl oC oM (gjm_text (d := 198) hJ) ?_
  rintro r hM2 ⟨k, v, a2, S2, v', hO, hJ2, h0, e5, hv⟩ oM2
  cases e5
  exact ⟨rfl, hk k v a2 S2 v' hO hJ2 h0 oM2 hv⟩
theorem gl_lm_clear (hCx : gx_Cx (gl_zz L xs) (p, l, e, Rm, s, m, args, below, meth, c) (D, dT, sp, A, n0, ad0)) (hR : 1000 ≤ Rm.frames ∧ 80000 ≤ Rm.locals) (hd : decode code pc = .ok (.invokevirtual 74, 3)) (h1 : 17 ≤ hC.length) (oC : gx_okH hC) (oM : gx_okH (gm_h S)) (hsum : (st.map Value.category).sum ≤ 8) (hJ : gj_M a S) (hk : ∀ k v a2 S2 v', gj_clear a (k, v, a2) → gj_M a2 S2 → S2 0 0 = nI k → gx_okH (gm_h S2) → (k = 0 → v' = v) → gx_Gd (gl_zz L xs) (p, l, e, Rm, s, m, args, below, meth, c) (D, dT, sp, A, n0, ad0) Fin (pc + 3, lv, .int v' :: st, gl_h hC (gm_h S2) f, bc, bs)) : gx_Gd (gl_zz L xs) (p, l, e, Rm, s, m, args, below, meth, c) (D, dT, sp, A, n0, ad0) Fin (pc, lv, .ref 17 :: st, gl_h hC (gm_h S) f, bc, bs) := by
  obtain ⟨fs, hcell⟩ := gl_cell17 h1 S f
  have hR1 := hR.1
  have hR2 := hR.2
  refine gl_V (k := 0) (As := []) (st := st) (a := 17) (d' := 200) (kc := 0) (ks := 0) (Cn := gm_R4) (T := gm_T4) (N := 35) (gl_Gok L xs) hCx (gm_good gm_k6) rfl rfl (gm_f _ gl_w5) (gm_f _ gl_w983) (gm_f _ gl_w984) (gm_f _ gl_w985) (by decide +kernel) hd ⟨rfl, by decide⟩ ⟨by omega, by omega⟩ hcell gl_i0.cat hsum ⟨Nat.zero_le _, Nat.zero_le _⟩ ?_
  refine gl_mtM rfl gl_i0 h1 rfl oC oM (gjm_clear (d := 199) hJ) ?_
  rintro r hM2 ⟨k, v, a2, S2, v', hO, hJ2, h0, e5, hv⟩ oM2
  cases e5
  exact ⟨rfl, hk k v a2 S2 v' hO hJ2 h0 oM2 hv⟩
theorem gl_lm_define (hCx : gx_Cx (gl_zz L xs) (p, l, e, Rm, s, m, args, below, meth, c) (D, dT, sp, A, n0, ad0)) (hR : 1000 ≤ Rm.frames ∧ 80000 ≤ Rm.locals) (hd : decode code pc = .ok (.invokevirtual 59, 3)) (h1 : 17 ≤ hC.length) (oC : gx_okH hC) (oM : gx_okH (gm_h S)) (hsum : (st.map Value.category).sum ≤ 8) (hJ : gj_M a S) (hk : ∀ k v a2 S2 v', gj_define a (k, v, a2) → gj_M a2 S2 → S2 0 0 = nI k → gx_okH (gm_h S2) → (k = 0 → v' = v) → gx_Gd (gl_zz L xs) (p, l, e, Rm, s, m, args, below, meth, c) (D, dT, sp, A, n0, ad0) Fin (pc + 3, lv, .int v' :: st, gl_h hC (gm_h S2) f, bc, bs)) : gx_Gd (gl_zz L xs) (p, l, e, Rm, s, m, args, below, meth, c) (D, dT, sp, A, n0, ad0) Fin (pc, lv, .ref 17 :: st, gl_h hC (gm_h S) f, bc, bs) := by
  obtain ⟨fs, hcell⟩ := gl_cell17 h1 S f
  have hR1 := hR.1
  have hR2 := hR.2
  refine gl_V (k := 0) (As := []) (st := st) (a := 17) (d' := 200) (kc := 0) (ks := 0) (Cn := gm_R4) (T := gm_T4) (N := 35) (gl_Gok L xs) hCx (gm_good gm_k19) rfl rfl (gm_f _ gl_w5) (gm_f _ gl_w987) (gm_f _ gl_w988) (gm_f _ gl_w989) (by decide +kernel) hd ⟨rfl, by decide⟩ ⟨by omega, by omega⟩ hcell gl_i0.cat hsum ⟨Nat.zero_le _, Nat.zero_le _⟩ ?_
  refine gl_mtM rfl gl_i0 h1 rfl oC oM (gjm_define (d := 193) hJ) ?_
  rintro r hM2 ⟨k, v, a2, S2, v', hO, hJ2, h0, e5, hv⟩ oM2
  cases e5
  exact ⟨rfl, hk k v a2 S2 v' hO hJ2 h0 oM2 hv⟩
theorem gl_lm_drop {z : Int32} (hCx : gx_Cx (gl_zz L xs) (p, l, e, Rm, s, m, args, below, meth, c) (D, dT, sp, A, n0, ad0)) (hR : 1000 ≤ Rm.frames ∧ 80000 ≤ Rm.locals) (hd : decode code pc = .ok (.invokevirtual 62, 3)) (h1 : 17 ≤ hC.length) (oC : gx_okH hC) (oM : gx_okH (gm_h S)) (hsum : (st.map Value.category).sum ≤ 8) (hJ : gj_M a S) (hk : ∀ k v a2 S2 v', gj_drop z a (k, v, a2) → gj_M a2 S2 → S2 0 0 = nI k → gx_okH (gm_h S2) → (k = 0 → v' = v) → gx_Gd (gl_zz L xs) (p, l, e, Rm, s, m, args, below, meth, c) (D, dT, sp, A, n0, ad0) Fin (pc + 3, lv, .int v' :: st, gl_h hC (gm_h S2) f, bc, bs)) : gx_Gd (gl_zz L xs) (p, l, e, Rm, s, m, args, below, meth, c) (D, dT, sp, A, n0, ad0) Fin (pc, lv, .int z :: .ref 17 :: st, gl_h hC (gm_h S) f, bc, bs) := by
  obtain ⟨fs, hcell⟩ := gl_cell17 h1 S f
  have hR1 := hR.1
  have hR2 := hR.2
  refine gl_V (k := 1) (As := [.int z]) (st := st) (a := 17) (d' := 200) (kc := 0) (ks := 0) (Cn := gm_R4) (T := gm_T4) (N := 35) (gl_Gok L xs) hCx (gm_good gm_k20) rfl rfl (gm_f _ gl_w5) (gm_f _ gl_w1038) (gm_f _ gl_w1039) (gm_f _ gl_w1040) (by decide +kernel) hd ⟨rfl, by decide⟩ ⟨by omega, by omega⟩ hcell gl_i1.cat hsum ⟨Nat.zero_le _, Nat.zero_le _⟩ ?_
  refine gl_mtM rfl gl_i1 h1 rfl oC oM (gjm_drop (d := 198) hJ) ?_
  rintro r hM2 ⟨k, v, a2, S2, v', hO, hJ2, h0, e5, hv⟩ oM2
  cases e5
  exact ⟨rfl, hk k v a2 S2 v' hO hJ2 h0 oM2 hv⟩
theorem gl_lm_shown {z1 z2 : Int32} (hCx : gx_Cx (gl_zz L xs) (p, l, e, Rm, s, m, args, below, meth, c) (D, dT, sp, A, n0, ad0)) (hR : 1000 ≤ Rm.frames ∧ 80000 ≤ Rm.locals) (hd : decode code pc = .ok (.invokevirtual 67, 3)) (h1 : 17 ≤ hC.length) (oC : gx_okH hC) (oM : gx_okH (gm_h S)) (hsum : (st.map Value.category).sum ≤ 8) (hJ : gj_M a S) (hk : ∀ k v a2 S2 v', gj_shown z1 z2 a (k, v, a2) → gj_M a2 S2 → S2 0 0 = nI k → gx_okH (gm_h S2) → (k = 0 → v' = v) → gx_Gd (gl_zz L xs) (p, l, e, Rm, s, m, args, below, meth, c) (D, dT, sp, A, n0, ad0) Fin (pc + 3, lv, .int v' :: st, gl_h hC (gm_h S2) f, bc, bs)) : gx_Gd (gl_zz L xs) (p, l, e, Rm, s, m, args, below, meth, c) (D, dT, sp, A, n0, ad0) Fin (pc, lv, .int z2 :: .int z1 :: .ref 17 :: st, gl_h hC (gm_h S) f, bc, bs) := by
  obtain ⟨fs, hcell⟩ := gl_cell17 h1 S f
  have hR1 := hR.1
  have hR2 := hR.2
  refine gl_V (k := 2) (As := [.int z1, .int z2]) (st := st) (a := 17) (d' := 200) (kc := 0) (ks := 0) (Cn := gm_R4) (T := gm_T4) (N := 35) (gl_Gok L xs) hCx (gm_good gm_k21) rfl rfl (gm_f _ gl_w5) (gm_f _ gl_w1045) (gm_f _ gl_w1046) (gm_f _ gl_w1047) (by decide +kernel) hd ⟨rfl, by decide⟩ ⟨by omega, by omega⟩ hcell gl_i2.cat hsum ⟨Nat.zero_le _, Nat.zero_le _⟩ ?_
  refine gl_mtM rfl gl_i2 h1 rfl oC oM (gjm_shown (d := 198) hJ) ?_
  rintro r hM2 ⟨k, v, a2, S2, v', hO, hJ2, h0, e5, hv⟩ oM2
  cases e5
  exact ⟨rfl, hk k v a2 S2 v' hO hJ2 h0 oM2 hv⟩
theorem gl_lm_check {z : Int32} (hCx : gx_Cx (gl_zz L xs) (p, l, e, Rm, s, m, args, below, meth, c) (D, dT, sp, A, n0, ad0)) (hR : 1000 ≤ Rm.frames ∧ 80000 ≤ Rm.locals) (hd : decode code pc = .ok (.invokevirtual 77, 3)) (h1 : 17 ≤ hC.length) (oC : gx_okH hC) (oM : gx_okH (gm_h S)) (hsum : (st.map Value.category).sum ≤ 8) (hJ : gj_M a S) (hk : ∀ k v a2 S2 v', gj_check z a (k, v, a2) → gj_M a2 S2 → S2 0 0 = nI k → gx_okH (gm_h S2) → (k = 0 → v' = v) → gx_Gd (gl_zz L xs) (p, l, e, Rm, s, m, args, below, meth, c) (D, dT, sp, A, n0, ad0) Fin (pc + 3, lv, .int v' :: st, gl_h hC (gm_h S2) f, bc, bs)) : gx_Gd (gl_zz L xs) (p, l, e, Rm, s, m, args, below, meth, c) (D, dT, sp, A, n0, ad0) Fin (pc, lv, .int z :: .ref 17 :: st, gl_h hC (gm_h S) f, bc, bs) := by
  obtain ⟨fs, hcell⟩ := gl_cell17 h1 S f
  have hR1 := hR.1
  have hR2 := hR.2
  refine gl_V (k := 1) (As := [.int z]) (st := st) (a := 17) (d' := 200) (kc := 0) (ks := 0) (Cn := gm_R4) (T := gm_T4) (N := 35) (gl_Gok L xs) hCx (gm_good gm_k28) rfl rfl (gm_f _ gl_w5) (gm_f _ gl_w1049) (gm_f _ gl_w1050) (gm_f _ gl_w1051) (by decide +kernel) hd ⟨rfl, by decide⟩ ⟨by omega, by omega⟩ hcell gl_i1.cat hsum ⟨Nat.zero_le _, Nat.zero_le _⟩ ?_
  refine gl_mtM rfl gl_i1 h1 rfl oC oM (gjm_check (d := 196) hJ) ?_
  rintro r hM2 ⟨k, v, a2, S2, v', hO, hJ2, h0, e5, hv⟩ oM2
  cases e5
  exact ⟨rfl, hk k v a2 S2 v' hO hJ2 h0 oM2 hv⟩
theorem gl_lm_match {z1 z2 : Int32} (hCx : gx_Cx (gl_zz L xs) (p, l, e, Rm, s, m, args, below, meth, c) (D, dT, sp, A, n0, ad0)) (hR : 1000 ≤ Rm.frames ∧ 80000 ≤ Rm.locals) (hd : decode code pc = .ok (.invokevirtual 81, 3)) (h1 : 17 ≤ hC.length) (oC : gx_okH hC) (oM : gx_okH (gm_h S)) (hsum : (st.map Value.category).sum ≤ 8) (hJ : gj_M a S) (hk : ∀ k v a2 S2 v', gj_match z1 z2 a (k, v, a2) → gj_M a2 S2 → S2 0 0 = nI k → gx_okH (gm_h S2) → (k = 0 → v' = v) → gx_Gd (gl_zz L xs) (p, l, e, Rm, s, m, args, below, meth, c) (D, dT, sp, A, n0, ad0) Fin (pc + 3, lv, .int v' :: st, gl_h hC (gm_h S2) f, bc, bs)) : gx_Gd (gl_zz L xs) (p, l, e, Rm, s, m, args, below, meth, c) (D, dT, sp, A, n0, ad0) Fin (pc, lv, .int z2 :: .int z1 :: .ref 17 :: st, gl_h hC (gm_h S) f, bc, bs) := by
  obtain ⟨fs, hcell⟩ := gl_cell17 h1 S f
  have hR1 := hR.1
  have hR2 := hR.2
  refine gl_V (k := 2) (As := [.int z1, .int z2]) (st := st) (a := 17) (d' := 200) (kc := 0) (ks := 0) (Cn := gm_R4) (T := gm_T4) (N := 35) (gl_Gok L xs) hCx (gm_good gm_k43) rfl rfl (gm_f _ gl_w5) (gm_f _ gl_w1077) (gm_f _ gl_w1078) (gm_f _ gl_w1079) (by decide +kernel) hd ⟨rfl, by decide⟩ ⟨by omega, by omega⟩ hcell gl_i2.cat hsum ⟨Nat.zero_le _, Nat.zero_le _⟩ ?_
  refine gl_mtM rfl gl_i2 h1 rfl oC oM (gjm_match (d := 194) hJ) ?_
  rintro r hM2 ⟨k, v, a2, S2, v', hO, hJ2, h0, e5, hv⟩ oM2
  cases e5
  exact ⟨rfl, hk k v a2 S2 v' hO hJ2 h0 oM2 hv⟩
theorem gl_lm_find {z : Int32} (hCx : gx_Cx (gl_zz L xs) (p, l, e, Rm, s, m, args, below, meth, c) (D, dT, sp, A, n0, ad0)) (hR : 1000 ≤ Rm.frames ∧ 80000 ≤ Rm.locals) (hd : decode code pc = .ok (.invokevirtual 84, 3)) (h1 : 17 ≤ hC.length) (oC : gx_okH hC) (oM : gx_okH (gm_h S)) (hsum : (st.map Value.category).sum ≤ 8) (hJ : gj_M a S) (hk : ∀ k v a2 S2 v', gj_find z a (k, v, a2) → gj_M a2 S2 → S2 0 0 = nI k → gx_okH (gm_h S2) → (k = 0 → v' = v) → gx_Gd (gl_zz L xs) (p, l, e, Rm, s, m, args, below, meth, c) (D, dT, sp, A, n0, ad0) Fin (pc + 3, lv, .int v' :: st, gl_h hC (gm_h S2) f, bc, bs)) : gx_Gd (gl_zz L xs) (p, l, e, Rm, s, m, args, below, meth, c) (D, dT, sp, A, n0, ad0) Fin (pc, lv, .int z :: .ref 17 :: st, gl_h hC (gm_h S) f, bc, bs) := by
  obtain ⟨fs, hcell⟩ := gl_cell17 h1 S f
  have hR1 := hR.1
  have hR2 := hR.2
  refine gl_V (k := 1) (As := [.int z]) (st := st) (a := 17) (d' := 200) (kc := 0) (ks := 0) (Cn := gm_R4) (T := gm_T4) (N := 35) (gl_Gok L xs) hCx (gm_good gm_k44) rfl rfl (gm_f _ gl_w5) (gm_f _ gl_w1137) (gm_f _ gl_w1138) (gm_f _ gl_w1139) (by decide +kernel) hd ⟨rfl, by decide⟩ ⟨by omega, by omega⟩ hcell gl_i1.cat hsum ⟨Nat.zero_le _, Nat.zero_le _⟩ ?_
  refine gl_mtM rfl gl_i1 h1 rfl oC oM (gjm_find (d := 194) hJ) ?_
  rintro r hM2 ⟨k, v, a2, S2, v', hO, hJ2, h0, e5, hv⟩ oM2
  cases e5
  exact ⟨rfl, hk k v a2 S2 v' hO hJ2 h0 oM2 hv⟩
theorem gl_lm_captures (hCx : gx_Cx (gl_zz L xs) (p, l, e, Rm, s, m, args, below, meth, c) (D, dT, sp, A, n0, ad0)) (hR : 1000 ≤ Rm.frames ∧ 80000 ≤ Rm.locals) (hd : decode code pc = .ok (.invokevirtual 88, 3)) (h1 : 17 ≤ hC.length) (oC : gx_okH hC) (oM : gx_okH (gm_h S)) (hsum : (st.map Value.category).sum ≤ 8) (hJ : gj_M a S) (hk : ∀ k v a2 S2 v', gj_captures a (k, v, a2) → gj_M a2 S2 → S2 0 0 = nI k → gx_okH (gm_h S2) → (k = 0 → v' = v) → gx_Gd (gl_zz L xs) (p, l, e, Rm, s, m, args, below, meth, c) (D, dT, sp, A, n0, ad0) Fin (pc + 3, lv, .int v' :: st, gl_h hC (gm_h S2) f, bc, bs)) : gx_Gd (gl_zz L xs) (p, l, e, Rm, s, m, args, below, meth, c) (D, dT, sp, A, n0, ad0) Fin (pc, lv, .ref 17 :: st, gl_h hC (gm_h S) f, bc, bs) := by
  obtain ⟨fs, hcell⟩ := gl_cell17 h1 S f
  have hR1 := hR.1
  have hR2 := hR.2
  refine gl_V (k := 0) (As := []) (st := st) (a := 17) (d' := 200) (kc := 0) (ks := 0) (Cn := gm_R4) (T := gm_T4) (N := 35) (gl_Gok L xs) hCx (gm_good gm_k45) rfl rfl (gm_f _ gl_w5) (gm_f _ gl_w1141) (gm_f _ gl_w1142) (gm_f _ gl_w1143) (by decide +kernel) hd ⟨rfl, by decide⟩ ⟨by omega, by omega⟩ hcell gl_i0.cat hsum ⟨Nat.zero_le _, Nat.zero_le _⟩ ?_
  refine gl_mtM rfl gl_i0 h1 rfl oC oM (gjm_captures (d := 199) hJ) ?_
  rintro r hM2 ⟨k, v, a2, S2, v', hO, hJ2, h0, e5, hv⟩ oM2
  cases e5
  exact ⟨rfl, hk k v a2 S2 v' hO hJ2 h0 oM2 hv⟩
theorem gl_lm_capture {z1 z2 : Int32} (hCx : gx_Cx (gl_zz L xs) (p, l, e, Rm, s, m, args, below, meth, c) (D, dT, sp, A, n0, ad0)) (hR : 1000 ≤ Rm.frames ∧ 80000 ≤ Rm.locals) (hd : decode code pc = .ok (.invokevirtual 91, 3)) (h1 : 17 ≤ hC.length) (oC : gx_okH hC) (oM : gx_okH (gm_h S)) (hsum : (st.map Value.category).sum ≤ 8) (hJ : gj_M a S) (hk : ∀ k v a2 S2 v', gj_capture z1 z2 a (k, v, a2) → gj_M a2 S2 → S2 0 0 = nI k → gx_okH (gm_h S2) → (k = 0 → v' = v) → gx_Gd (gl_zz L xs) (p, l, e, Rm, s, m, args, below, meth, c) (D, dT, sp, A, n0, ad0) Fin (pc + 3, lv, .int v' :: st, gl_h hC (gm_h S2) f, bc, bs)) : gx_Gd (gl_zz L xs) (p, l, e, Rm, s, m, args, below, meth, c) (D, dT, sp, A, n0, ad0) Fin (pc, lv, .int z2 :: .int z1 :: .ref 17 :: st, gl_h hC (gm_h S) f, bc, bs) := by
  obtain ⟨fs, hcell⟩ := gl_cell17 h1 S f
  have hR1 := hR.1
  have hR2 := hR.2
  refine gl_V (k := 2) (As := [.int z1, .int z2]) (st := st) (a := 17) (d' := 200) (kc := 0) (ks := 0) (Cn := gm_R4) (T := gm_T4) (N := 35) (gl_Gok L xs) hCx (gm_good gm_k46) rfl rfl (gm_f _ gl_w5) (gm_f _ gl_w1145) (gm_f _ gl_w1146) (gm_f _ gl_w1147) (by decide +kernel) hd ⟨rfl, by decide⟩ ⟨by omega, by omega⟩ hcell gl_i2.cat hsum ⟨Nat.zero_le _, Nat.zero_le _⟩ ?_
  refine gl_mtM rfl gl_i2 h1 rfl oC oM (gjm_capture (d := 199) hJ) ?_
  rintro r hM2 ⟨k, v, a2, S2, v', hO, hJ2, h0, e5, hv⟩ oM2
  cases e5
  exact ⟨rfl, hk k v a2 S2 v' hO hJ2 h0 oM2 hv⟩
theorem gl_lm_farthest (hCx : gx_Cx (gl_zz L xs) (p, l, e, Rm, s, m, args, below, meth, c) (D, dT, sp, A, n0, ad0)) (hR : 1000 ≤ Rm.frames ∧ 80000 ≤ Rm.locals) (hd : decode code pc = .ok (.invokevirtual 95, 3)) (h1 : 17 ≤ hC.length) (oC : gx_okH hC) (oM : gx_okH (gm_h S)) (hsum : (st.map Value.category).sum ≤ 8) (hJ : gj_M a S) (hk : ∀ k v a2 S2 v', gj_farthest a (k, v, a2) → gj_M a2 S2 → S2 0 0 = nI k → gx_okH (gm_h S2) → (k = 0 → v' = v) → gx_Gd (gl_zz L xs) (p, l, e, Rm, s, m, args, below, meth, c) (D, dT, sp, A, n0, ad0) Fin (pc + 3, lv, .int v' :: st, gl_h hC (gm_h S2) f, bc, bs)) : gx_Gd (gl_zz L xs) (p, l, e, Rm, s, m, args, below, meth, c) (D, dT, sp, A, n0, ad0) Fin (pc, lv, .ref 17 :: st, gl_h hC (gm_h S) f, bc, bs) := by
  obtain ⟨fs, hcell⟩ := gl_cell17 h1 S f
  have hR1 := hR.1
  have hR2 := hR.2
  refine gl_V (k := 0) (As := []) (st := st) (a := 17) (d' := 200) (kc := 0) (ks := 0) (Cn := gm_R4) (T := gm_T4) (N := 35) (gl_Gok L xs) hCx (gm_good gm_k47) rfl rfl (gm_f _ gl_w5) (gm_f _ gl_w1149) (gm_f _ gl_w1150) (gm_f _ gl_w1151) (by decide +kernel) hd ⟨rfl, by decide⟩ ⟨by omega, by omega⟩ hcell gl_i0.cat hsum ⟨Nat.zero_le _, Nat.zero_le _⟩ ?_
  refine gl_mtM rfl gl_i0 h1 rfl oC oM (gjm_farthest (d := 199) hJ) ?_
  rintro r hM2 ⟨k, v, a2, S2, v', hO, hJ2, h0, e5, hv⟩ oM2
  cases e5
  exact ⟨rfl, hk k v a2 S2 v' hO hJ2 h0 oM2 hv⟩
theorem gl_lm_tried (hCx : gx_Cx (gl_zz L xs) (p, l, e, Rm, s, m, args, below, meth, c) (D, dT, sp, A, n0, ad0)) (hR : 1000 ≤ Rm.frames ∧ 80000 ≤ Rm.locals) (hd : decode code pc = .ok (.invokevirtual 99, 3)) (h1 : 17 ≤ hC.length) (oC : gx_okH hC) (oM : gx_okH (gm_h S)) (hsum : (st.map Value.category).sum ≤ 8) (hJ : gj_M a S) (hk : ∀ k v a2 S2 v', gj_tried a (k, v, a2) → gj_M a2 S2 → S2 0 0 = nI k → gx_okH (gm_h S2) → (k = 0 → v' = v) → gx_Gd (gl_zz L xs) (p, l, e, Rm, s, m, args, below, meth, c) (D, dT, sp, A, n0, ad0) Fin (pc + 3, lv, .int v' :: st, gl_h hC (gm_h S2) f, bc, bs)) : gx_Gd (gl_zz L xs) (p, l, e, Rm, s, m, args, below, meth, c) (D, dT, sp, A, n0, ad0) Fin (pc, lv, .ref 17 :: st, gl_h hC (gm_h S) f, bc, bs) := by
  obtain ⟨fs, hcell⟩ := gl_cell17 h1 S f
  have hR1 := hR.1
  have hR2 := hR.2
  refine gl_V (k := 0) (As := []) (st := st) (a := 17) (d' := 200) (kc := 0) (ks := 0) (Cn := gm_R4) (T := gm_T4) (N := 35) (gl_Gok L xs) hCx (gm_good gm_k48) rfl rfl (gm_f _ gl_w5) (gm_f _ gl_w1153) (gm_f _ gl_w1154) (gm_f _ gl_w1155) (by decide +kernel) hd ⟨rfl, by decide⟩ ⟨by omega, by omega⟩ hcell gl_i0.cat hsum ⟨Nat.zero_le _, Nat.zero_le _⟩ ?_
  refine gl_mtM rfl gl_i0 h1 rfl oC oM (gjm_tried (d := 199) hJ) ?_
  rintro r hM2 ⟨k, v, a2, S2, v', hO, hJ2, h0, e5, hv⟩ oM2
  cases e5
  exact ⟨rfl, hk k v a2 S2 v' hO hJ2 h0 oM2 hv⟩
theorem gl_lc_shown {z1 z2 : Int32} (hl : l.stackTraces = false) (hCx : gx_Cx (gl_zz L xs) (p, l, e, Rm, s, m, args, below, meth, c) (D, dT, sp, A, n0, ad0)) (hR : 1000 ≤ Rm.frames ∧ 80000 ≤ Rm.locals) (hd : decode code pc = .ok (.invokevirtual 63, 3)) (h2 : hM.length = 26) (oC : gx_okH (gc_h S P R E)) (oM : gx_okH hM) (hsum : (st.map Value.category).sum ≤ 8) (hJ : gj_C a S P R E) (hk : ∀ v a2 S2 P2 R2 E2, gj_shown z1 z2 a (0, v, a2) → gj_C a2 S2 P2 R2 E2 → gx_okH (gc_h S2 P2 R2 E2) → gx_Gd (gl_zz L xs) (p, l, e, Rm, s, m, args, below, meth, c) (D, dT, sp, A, n0, ad0) Fin (pc + 3, lv, .int v :: st, gl_h (gc_h S2 P2 R2 E2) hM f, bc, bs)) : gx_Gd (gl_zz L xs) (p, l, e, Rm, s, m, args, below, meth, c) (D, dT, sp, A, n0, ad0) Fin (pc, lv, .int z2 :: .int z1 :: .ref 0 :: st, gl_h (gc_h S P R E) hM f, bc, bs) := by
  obtain ⟨fs, hcell⟩ := gl_cell0 S P R E hM f
  have hR1 := hR.1
  have hR2 := hR.2
  refine gl_V (k := 2) (As := [.int z1, .int z2]) (st := st) (a := 0) (d' := 200) (kc := 0) (ks := 0) (Cn := gm_R0) (T := gm_T0) (N := 8) (gl_Gok L xs) hCx (gm_good gc_k4) rfl rfl (gm_f _ gl_w1) (gm_f _ gl_w140) (gm_f _ gl_w141) (gm_f _ gl_w142) (by decide +kernel) hd ⟨rfl, by decide⟩ ⟨by omega, by omega⟩ hcell gl_i2.cat hsum ⟨Nat.zero_le _, Nat.zero_le _⟩ ?_
  refine gl_mtC hl rfl gl_i2 (gl_17 S P R E) h2 oC oM (gjc_shown (d := 198) hJ) ?_
  rintro r hC2 ⟨k, v, a2, S2, P2, R2, E2, hO, hJ2, e5, hr⟩ oC2 -
  have e5 : hC2 = gc_h S2 P2 R2 E2 := e5
  subst e5
  have hk0 := gj_shown_0 hO
  subst hk0
  rcases hr with ⟨-, e6⟩ | ⟨h9, -⟩
  · have e6 : r = .inl (some (.int v)) := e6
    subst e6
    exact hk v a2 S2 P2 R2 E2 hO hJ2 oC2
  · omega
theorem gl_lc_clear (hl : l.stackTraces = false) (hCx : gx_Cx (gl_zz L xs) (p, l, e, Rm, s, m, args, below, meth, c) (D, dT, sp, A, n0, ad0)) (hR : 1000 ≤ Rm.frames ∧ 80000 ≤ Rm.locals) (hd : decode code pc = .ok (.invokevirtual 71, 3)) (h2 : hM.length = 26) (oC : gx_okH (gc_h S P R E)) (oM : gx_okH hM) (hsum : (st.map Value.category).sum ≤ 8) (hJ : gj_C a S P R E) (hk : ∀ v a2 S2 P2 R2 E2, gj_clear a (0, v, a2) → gj_C a2 S2 P2 R2 E2 → gx_okH (gc_h S2 P2 R2 E2) → gx_Gd (gl_zz L xs) (p, l, e, Rm, s, m, args, below, meth, c) (D, dT, sp, A, n0, ad0) Fin (pc + 3, lv, .int v :: st, gl_h (gc_h S2 P2 R2 E2) hM f, bc, bs)) : gx_Gd (gl_zz L xs) (p, l, e, Rm, s, m, args, below, meth, c) (D, dT, sp, A, n0, ad0) Fin (pc, lv, .ref 0 :: st, gl_h (gc_h S P R E) hM f, bc, bs) := by
  obtain ⟨fs, hcell⟩ := gl_cell0 S P R E hM f
  have hR1 := hR.1
  have hR2 := hR.2
  refine gl_V (k := 0) (As := []) (st := st) (a := 0) (d' := 200) (kc := 0) (ks := 0) (Cn := gm_R0) (T := gm_T0) (N := 8) (gl_Gok L xs) hCx (gm_good gc_k7) rfl rfl (gm_f _ gl_w1) (gm_f _ gl_w151) (gm_f _ gl_w152) (gm_f _ gl_w153) (by decide +kernel) hd ⟨rfl, by decide⟩ ⟨by omega, by omega⟩ hcell gl_i0.cat hsum ⟨Nat.zero_le _, Nat.zero_le _⟩ ?_
  refine gl_mtC hl rfl gl_i0 (gl_17 S P R E) h2 oC oM (gjc_clear (d := 199) hJ) ?_
  rintro r hC2 ⟨k, v, a2, S2, P2, R2, E2, hO, hJ2, e5, hr⟩ oC2 -
  have e5 : hC2 = gc_h S2 P2 R2 E2 := e5
  subst e5
  have hk0 := gj_clear_0 hO
  subst hk0
  rcases hr with ⟨-, e6⟩ | ⟨h9, -⟩
  · have e6 : r = .inl (some (.int v)) := e6
    subst e6
    exact hk v a2 S2 P2 R2 E2 hO hJ2 oC2
  · omega
theorem gl_lc_captures (hl : l.stackTraces = false) (hCx : gx_Cx (gl_zz L xs) (p, l, e, Rm, s, m, args, below, meth, c) (D, dT, sp, A, n0, ad0)) (hR : 1000 ≤ Rm.frames ∧ 80000 ≤ Rm.locals) (hd : decode code pc = .ok (.invokevirtual 85, 3)) (h2 : hM.length = 26) (oC : gx_okH (gc_h S P R E)) (oM : gx_okH hM) (hsum : (st.map Value.category).sum ≤ 8) (hJ : gj_C a S P R E) (hk : ∀ v a2 S2 P2 R2 E2, gj_captures a (0, v, a2) → gj_C a2 S2 P2 R2 E2 → gx_okH (gc_h S2 P2 R2 E2) → gx_Gd (gl_zz L xs) (p, l, e, Rm, s, m, args, below, meth, c) (D, dT, sp, A, n0, ad0) Fin (pc + 3, lv, .int v :: st, gl_h (gc_h S2 P2 R2 E2) hM f, bc, bs)) : gx_Gd (gl_zz L xs) (p, l, e, Rm, s, m, args, below, meth, c) (D, dT, sp, A, n0, ad0) Fin (pc, lv, .ref 0 :: st, gl_h (gc_h S P R E) hM f, bc, bs) := by
  obtain ⟨fs, hcell⟩ := gl_cell0 S P R E hM f
  have hR1 := hR.1
  have hR2 := hR.2
  refine gl_V (k := 0) (As := []) (st := st) (a := 0) (d' := 200) (kc := 0) (ks := 0) (Cn := gm_R0) (T := gm_T0) (N := 8) (gl_Gok L xs) hCx (gm_good gc_k8) rfl rfl (gm_f _ gl_w1) (gm_f _ gl_w155) (gm_f _ gl_w156) (gm_f _ gl_w157) (by decide +kernel) hd ⟨rfl, by decide⟩ ⟨by omega, by omega⟩ hcell gl_i0.cat hsum ⟨Nat.zero_le _, Nat.zero_le _⟩ ?_
  refine gl_mtC hl rfl gl_i0 (gl_17 S P R E) h2 oC oM (gjc_captures (d := 198) hJ) ?_
  rintro r hC2 ⟨k, v, a2, S2, P2, R2, E2, hO, hJ2, e5, hr⟩ oC2 -
  have e5 : hC2 = gc_h S2 P2 R2 E2 := e5
  subst e5
  have hk0 := gj_captures_0 hO
  subst hk0
  rcases hr with ⟨-, e6⟩ | ⟨h9, -⟩
  · have e6 : r = .inl (some (.int v)) := e6
    subst e6
    exact hk v a2 S2 P2 R2 E2 hO hJ2 oC2
  · omega
theorem gl_lc_farthest (hl : l.stackTraces = false) (hCx : gx_Cx (gl_zz L xs) (p, l, e, Rm, s, m, args, below, meth, c) (D, dT, sp, A, n0, ad0)) (hR : 1000 ≤ Rm.frames ∧ 80000 ≤ Rm.locals) (hd : decode code pc = .ok (.invokevirtual 92, 3)) (h2 : hM.length = 26) (oC : gx_okH (gc_h S P R E)) (oM : gx_okH hM) (hsum : (st.map Value.category).sum ≤ 8) (hJ : gj_C a S P R E) (hk : ∀ v a2 S2 P2 R2 E2, gj_farthest a (0, v, a2) → gj_C a2 S2 P2 R2 E2 → gx_okH (gc_h S2 P2 R2 E2) → gx_Gd (gl_zz L xs) (p, l, e, Rm, s, m, args, below, meth, c) (D, dT, sp, A, n0, ad0) Fin (pc + 3, lv, .int v :: st, gl_h (gc_h S2 P2 R2 E2) hM f, bc, bs)) : gx_Gd (gl_zz L xs) (p, l, e, Rm, s, m, args, below, meth, c) (D, dT, sp, A, n0, ad0) Fin (pc, lv, .ref 0 :: st, gl_h (gc_h S P R E) hM f, bc, bs) := by
  obtain ⟨fs, hcell⟩ := gl_cell0 S P R E hM f
  have hR1 := hR.1
  have hR2 := hR.2
  refine gl_V (k := 0) (As := []) (st := st) (a := 0) (d' := 200) (kc := 0) (ks := 0) (Cn := gm_R0) (T := gm_T0) (N := 8) (gl_Gok L xs) hCx (gm_good gc_k10) rfl rfl (gm_f _ gl_w1) (gm_f _ gl_w163) (gm_f _ gl_w164) (gm_f _ gl_w165) (by decide +kernel) hd ⟨rfl, by decide⟩ ⟨by omega, by omega⟩ hcell gl_i0.cat hsum ⟨Nat.zero_le _, Nat.zero_le _⟩ ?_
  refine gl_mtC hl rfl gl_i0 (gl_17 S P R E) h2 oC oM (gjc_farthest (d := 198) hJ) ?_
  rintro r hC2 ⟨k, v, a2, S2, P2, R2, E2, hO, hJ2, e5, hr⟩ oC2 -
  have e5 : hC2 = gc_h S2 P2 R2 E2 := e5
  subst e5
  have hk0 := gj_farthest_0 hO
  subst hk0
  rcases hr with ⟨-, e6⟩ | ⟨h9, -⟩
  · have e6 : r = .inl (some (.int v)) := e6
    subst e6
    exact hk v a2 S2 P2 R2 E2 hO hJ2 oC2
  · omega
theorem gl_lc_tried (hl : l.stackTraces = false) (hCx : gx_Cx (gl_zz L xs) (p, l, e, Rm, s, m, args, below, meth, c) (D, dT, sp, A, n0, ad0)) (hR : 1000 ≤ Rm.frames ∧ 80000 ≤ Rm.locals) (hd : decode code pc = .ok (.invokevirtual 96, 3)) (h2 : hM.length = 26) (oC : gx_okH (gc_h S P R E)) (oM : gx_okH hM) (hsum : (st.map Value.category).sum ≤ 8) (hJ : gj_C a S P R E) (hk : ∀ v a2 S2 P2 R2 E2, gj_tried a (0, v, a2) → gj_C a2 S2 P2 R2 E2 → gx_okH (gc_h S2 P2 R2 E2) → gx_Gd (gl_zz L xs) (p, l, e, Rm, s, m, args, below, meth, c) (D, dT, sp, A, n0, ad0) Fin (pc + 3, lv, .int v :: st, gl_h (gc_h S2 P2 R2 E2) hM f, bc, bs)) : gx_Gd (gl_zz L xs) (p, l, e, Rm, s, m, args, below, meth, c) (D, dT, sp, A, n0, ad0) Fin (pc, lv, .ref 0 :: st, gl_h (gc_h S P R E) hM f, bc, bs) := by
  obtain ⟨fs, hcell⟩ := gl_cell0 S P R E hM f
  have hR1 := hR.1
  have hR2 := hR.2
  refine gl_V (k := 0) (As := []) (st := st) (a := 0) (d' := 200) (kc := 0) (ks := 0) (Cn := gm_R0) (T := gm_T0) (N := 8) (gl_Gok L xs) hCx (gm_good gc_k12) rfl rfl (gm_f _ gl_w1) (gm_f _ gl_w171) (gm_f _ gl_w172) (gm_f _ gl_w173) (by decide +kernel) hd ⟨rfl, by decide⟩ ⟨by omega, by omega⟩ hcell gl_i0.cat hsum ⟨Nat.zero_le _, Nat.zero_le _⟩ ?_
  refine gl_mtC hl rfl gl_i0 (gl_17 S P R E) h2 oC oM (gjc_tried (d := 198) hJ) ?_
  rintro r hC2 ⟨k, v, a2, S2, P2, R2, E2, hO, hJ2, e5, hr⟩ oC2 -
  have e5 : hC2 = gc_h S2 P2 R2 E2 := e5
  subst e5
  have hk0 := gj_tried_0 hO
  subst hk0
  rcases hr with ⟨-, e6⟩ | ⟨h9, -⟩
  · have e6 : r = .inl (some (.int v)) := e6
    subst e6
    exact hk v a2 S2 P2 R2 E2 hO hJ2 oC2
  · omega
theorem gl_lh_type {z : Int32} (hl : l.stackTraces = false) (hCx : gx_Cx (gl_zz L xs) (p, l, e, Rm, s, m, args, below, meth, c) (D, dT, sp, A, n0, ad0)) (hR : 1000 ≤ Rm.frames ∧ 80000 ≤ Rm.locals) (hd : decode code pc = .ok (.invokestatic 47, 3)) (h2 : hM.length = 26) (oC : gx_okH (gc_h S P R E)) (oM : gx_okH hM) (hsum : (st.map Value.category).sum ≤ 8) (hJ : gj_C a S P R E) (hkc : 1 ≤ kc) (hks : 6 ≤ ks) (hb : kc ≤ bc ∧ ks ≤ bs) (hk : ∀ k v a2 S2 P2 R2 E2 g, gj_type z a (k, v, a2) → gj_C a2 S2 P2 R2 E2 → gx_okH (gc_h S2 P2 R2 E2) → (k = 0 → g 0 = gl_cb v) → k ≤ 2 → gx_Gd (gl_zz L xs) (p, l, e, Rm, s, m, args, below, meth, c) (D, dT, sp, A, n0, ad0) Fin (pc + 3, lv, .int (nI k) :: st, gl_h (gc_h S2 P2 R2 E2) hM g, bc - kc, bs - ks)) : gx_Gd (gl_zz L xs) (p, l, e, Rm, s, m, args, below, meth, c) (D, dT, sp, A, n0, ad0) Fin (pc, lv, .ref 43 :: .int z :: .ref 0 :: st, gl_h (gc_h S P R E) hM f, bc, bs) := by
  have hR1 := hR.1
  have hR2 := hR.2
  refine gl_S (hh9 := gl_hh1) (k := 3) (As := [.ref 0, .int z, .ref 43]) (st := st) (d' := 300) (kc := kc) (ks := ks) (gl_Gok L xs) hCx (gl_goodS gl_w185 gl_w186 gl_w0 gl_k1) rfl (by decide +kernel) hd ⟨rfl, by decide⟩ ⟨by omega, by omega⟩ (fun v hv => by
    simp only [List.mem_cons, List.not_mem_nil, or_false] at hv
    rcases hv with rfl | rfl | rfl <;> rfl) hsum hb ?_
  exact gl_h1 hl hJ oC h2 oM hkc hks hk
theorem gl_lh_define (hl : l.stackTraces = false) (hCx : gx_Cx (gl_zz L xs) (p, l, e, Rm, s, m, args, below, meth, c) (D, dT, sp, A, n0, ad0)) (hR : 1000 ≤ Rm.frames ∧ 80000 ≤ Rm.locals) (hd : decode code pc = .ok (.invokestatic 56, 3)) (h2 : hM.length = 26) (oC : gx_okH (gc_h S P R E)) (oM : gx_okH hM) (hsum : (st.map Value.category).sum ≤ 8) (hJ : gj_C a S P R E) (hkc : (if a.2.2.1.1 = 0 then 1 else 1300) ≤ kc) (hks : (if a.2.2.1.1 = 0 then 6 else 9000) ≤ ks) (hb : kc ≤ bc ∧ ks ≤ bs) (hk : ∀ k v a2 S2 P2 R2 E2 g, gj_define a (k, v, a2) → gj_C a2 S2 P2 R2 E2 → gx_okH (gc_h S2 P2 R2 E2) → (k = 0 → g 0 = v.toInt64) → k ≤ 2 → gx_Gd (gl_zz L xs) (p, l, e, Rm, s, m, args, below, meth, c) (D, dT, sp, A, n0, ad0) Fin (pc + 3, lv, .int (nI k) :: st, gl_h (gc_h S2 P2 R2 E2) hM g, bc - kc, bs - ks)) : gx_Gd (gl_zz L xs) (p, l, e, Rm, s, m, args, below, meth, c) (D, dT, sp, A, n0, ad0) Fin (pc, lv, .ref 43 :: .ref 0 :: st, gl_h (gc_h S P R E) hM f, bc, bs) := by
  have hR1 := hR.1
  have hR2 := hR.2
  refine gl_S (hh9 := gl_hh2) (k := 2) (As := [.ref 0, .ref 43]) (st := st) (d' := 300) (kc := kc) (ks := ks) (gl_Gok L xs) hCx (gl_goodS gl_w265 gl_w266 gl_w0 gl_k2) rfl (by decide +kernel) hd ⟨rfl, by decide⟩ ⟨by omega, by omega⟩ (fun v hv => by
    simp only [List.mem_cons, List.not_mem_nil, or_false] at hv
    rcases hv with rfl | rfl <;> rfl) hsum hb ?_
  exact gl_h2 hl hJ oC h2 oM hkc hks hk
theorem gl_lh_drop {z : Int32} (hl : l.stackTraces = false) (hCx : gx_Cx (gl_zz L xs) (p, l, e, Rm, s, m, args, below, meth, c) (D, dT, sp, A, n0, ad0)) (hR : 1000 ≤ Rm.frames ∧ 80000 ≤ Rm.locals) (hd : decode code pc = .ok (.invokestatic 60, 3)) (h2 : hM.length = 26) (oC : gx_okH (gc_h S P R E)) (oM : gx_okH hM) (hsum : (st.map Value.category).sum ≤ 8) (hJ : gj_C a S P R E) (hkc : 1 ≤ kc) (hks : 6 ≤ ks) (hb : kc ≤ bc ∧ ks ≤ bs) (hk : ∀ k v a2 S2 P2 R2 E2 g, gj_drop z a (k, v, a2) → gj_C a2 S2 P2 R2 E2 → gx_okH (gc_h S2 P2 R2 E2) → (k = 0 → g 0 = gl_cb v) → k ≤ 2 → gx_Gd (gl_zz L xs) (p, l, e, Rm, s, m, args, below, meth, c) (D, dT, sp, A, n0, ad0) Fin (pc + 3, lv, .int (nI k) :: st, gl_h (gc_h S2 P2 R2 E2) hM g, bc - kc, bs - ks)) : gx_Gd (gl_zz L xs) (p, l, e, Rm, s, m, args, below, meth, c) (D, dT, sp, A, n0, ad0) Fin (pc, lv, .ref 43 :: .int z :: .ref 0 :: st, gl_h (gc_h S P R E) hM f, bc, bs) := by
  have hR1 := hR.1
  have hR2 := hR.2
  refine gl_S (hh9 := gl_hh3) (k := 3) (As := [.ref 0, .int z, .ref 43]) (st := st) (d' := 300) (kc := kc) (ks := ks) (gl_Gok L xs) hCx (gl_goodS gl_w533 gl_w534 gl_w0 gl_k3) rfl (by decide +kernel) hd ⟨rfl, by decide⟩ ⟨by omega, by omega⟩ (fun v hv => by
    simp only [List.mem_cons, List.not_mem_nil, or_false] at hv
    rcases hv with rfl | rfl | rfl <;> rfl) hsum hb ?_
  exact gl_h3 hl hJ oC h2 oM hkc hks hk
theorem gl_lh_text {z : Int32} (hl : l.stackTraces = false) (hCx : gx_Cx (gl_zz L xs) (p, l, e, Rm, s, m, args, below, meth, c) (D, dT, sp, A, n0, ad0)) (hR : 1000 ≤ Rm.frames ∧ 80000 ≤ Rm.locals) (hd : decode code pc = .ok (.invokestatic 68, 3)) (h2 : hM.length = 26) (oC : gx_okH (gc_h S P R E)) (oM : gx_okH hM) (hsum : (st.map Value.category).sum ≤ 8) (hJ : gj_C a S P R E) (hkc : 1 ≤ kc) (hks : 6 ≤ ks) (hb : kc ≤ bc ∧ ks ≤ bs) (hk : ∀ k v a2 S2 P2 R2 E2 g, gj_text z a (k, v, a2) → gj_C a2 S2 P2 R2 E2 → gx_okH (gc_h S2 P2 R2 E2) → (k = 0 → g 0 = gl_cb v) → k ≤ 2 → gx_Gd (gl_zz L xs) (p, l, e, Rm, s, m, args, below, meth, c) (D, dT, sp, A, n0, ad0) Fin (pc + 3, lv, .int (nI k) :: st, gl_h (gc_h S2 P2 R2 E2) hM g, bc - kc, bs - ks)) : gx_Gd (gl_zz L xs) (p, l, e, Rm, s, m, args, below, meth, c) (D, dT, sp, A, n0, ad0) Fin (pc, lv, .ref 43 :: .int z :: .ref 0 :: st, gl_h (gc_h S P R E) hM f, bc, bs) := by
  have hR1 := hR.1
  have hR2 := hR.2
  refine gl_S (hh9 := gl_hh4) (k := 3) (As := [.ref 0, .int z, .ref 43]) (st := st) (d' := 300) (kc := kc) (ks := ks) (gl_Gok L xs) hCx (gl_goodS gl_w560 gl_w561 gl_w0 gl_k4) rfl (by decide +kernel) hd ⟨rfl, by decide⟩ ⟨by omega, by omega⟩ (fun v hv => by
    simp only [List.mem_cons, List.not_mem_nil, or_false] at hv
    rcases hv with rfl | rfl | rfl <;> rfl) hsum hb ?_
  exact gl_h4 hl hJ oC h2 oM hkc hks hk
theorem gl_lh_check {z : Int32} (hl : l.stackTraces = false) (hCx : gx_Cx (gl_zz L xs) (p, l, e, Rm, s, m, args, below, meth, c) (D, dT, sp, A, n0, ad0)) (hR : 1000 ≤ Rm.frames ∧ 80000 ≤ Rm.locals) (hd : decode code pc = .ok (.invokestatic 75, 3)) (h2 : hM.length = 26) (oC : gx_okH (gc_h S P R E)) (oM : gx_okH hM) (hsum : (st.map Value.category).sum ≤ 8) (hJ : gj_C a S P R E) (hkc : 1 ≤ kc) (hks : 6 ≤ ks) (hb : kc ≤ bc ∧ ks ≤ bs) (hk : ∀ k v a2 S2 P2 R2 E2 g, gj_check z a (k, v, a2) → gj_C a2 S2 P2 R2 E2 → gx_okH (gc_h S2 P2 R2 E2) → (k = 0 → g 0 = v.toInt64) → k ≤ 2 → gx_Gd (gl_zz L xs) (p, l, e, Rm, s, m, args, below, meth, c) (D, dT, sp, A, n0, ad0) Fin (pc + 3, lv, .int (nI k) :: st, gl_h (gc_h S2 P2 R2 E2) hM g, bc - kc, bs - ks)) : gx_Gd (gl_zz L xs) (p, l, e, Rm, s, m, args, below, meth, c) (D, dT, sp, A, n0, ad0) Fin (pc, lv, .ref 43 :: .int z :: .ref 0 :: st, gl_h (gc_h S P R E) hM f, bc, bs) := by
  have hR1 := hR.1
  have hR2 := hR.2
  refine gl_S (hh9 := gl_hh5) (k := 3) (As := [.ref 0, .int z, .ref 43]) (st := st) (d' := 300) (kc := kc) (ks := ks) (gl_Gok L xs) hCx (gl_goodS gl_w567 gl_w568 gl_w0 gl_k5) rfl (by decide +kernel) hd ⟨rfl, by decide⟩ ⟨by omega, by omega⟩ (fun v hv => by
    simp only [List.mem_cons, List.not_mem_nil, or_false] at hv
    rcases hv with rfl | rfl | rfl <;> rfl) hsum hb ?_
  exact gl_h5 hl hJ oC h2 oM hkc hks hk
theorem gl_lh_match {z1 z2 : Int32} (hl : l.stackTraces = false) (hCx : gx_Cx (gl_zz L xs) (p, l, e, Rm, s, m, args, below, meth, c) (D, dT, sp, A, n0, ad0)) (hR : 1000 ≤ Rm.frames ∧ 80000 ≤ Rm.locals) (hd : decode code pc = .ok (.invokestatic 78, 3)) (h2 : hM.length = 26) (oC : gx_okH (gc_h S P R E)) (oM : gx_okH hM) (hsum : (st.map Value.category).sum ≤ 8) (hJ : gj_C a S P R E) (hkc : 3 ≤ kc) (hks : 18 ≤ ks) (hb : kc ≤ bc ∧ ks ≤ bs) (hk : ∀ k v a2 S2 P2 R2 E2 g, gj_match z1 z2 a (k, v, a2) → gj_C a2 S2 P2 R2 E2 → gx_okH (gc_h S2 P2 R2 E2) → (k = 0 → g 0 = v.toInt64) → k ≤ 2 → gx_Gd (gl_zz L xs) (p, l, e, Rm, s, m, args, below, meth, c) (D, dT, sp, A, n0, ad0) Fin (pc + 3, lv, .int (nI k) :: st, gl_h (gc_h S2 P2 R2 E2) hM g, bc - kc, bs - ks)) : gx_Gd (gl_zz L xs) (p, l, e, Rm, s, m, args, below, meth, c) (D, dT, sp, A, n0, ad0) Fin (pc, lv, .ref 43 :: .int z2 :: .int z1 :: .ref 0 :: st, gl_h (gc_h S P R E) hM f, bc, bs) := by
  have hR1 := hR.1
  have hR2 := hR.2
  refine gl_S (hh9 := gl_hh6) (k := 4) (As := [.ref 0, .int z1, .int z2, .ref 43]) (st := st) (d' := 300) (kc := kc) (ks := ks) (gl_Gok L xs) hCx (gl_goodS gl_w726 gl_w727 gl_w0 gl_k6) rfl (by decide +kernel) hd ⟨rfl, by decide⟩ ⟨by omega, by omega⟩ (fun v hv => by
    simp only [List.mem_cons, List.not_mem_nil, or_false] at hv
    rcases hv with rfl | rfl | rfl | rfl <;> rfl) hsum hb ?_
  exact gl_h6 hl hJ oC h2 oM hkc hks hk
theorem gl_lh_find {z : Int32} (hl : l.stackTraces = false) (hCx : gx_Cx (gl_zz L xs) (p, l, e, Rm, s, m, args, below, meth, c) (D, dT, sp, A, n0, ad0)) (hR : 1000 ≤ Rm.frames ∧ 80000 ≤ Rm.locals) (hd : decode code pc = .ok (.invokestatic 82, 3)) (h2 : hM.length = 26) (oC : gx_okH (gc_h S P R E)) (oM : gx_okH hM) (hsum : (st.map Value.category).sum ≤ 8) (hJ : gj_C a S P R E) (hkc : 3 ≤ kc) (hks : 18 ≤ ks) (hb : kc ≤ bc ∧ ks ≤ bs) (hk : ∀ k v a2 S2 P2 R2 E2 g, gj_find z a (k, v, a2) → gj_C a2 S2 P2 R2 E2 → gx_okH (gc_h S2 P2 R2 E2) → (k = 0 → g 0 = v.toInt64) → k ≤ 2 → gx_Gd (gl_zz L xs) (p, l, e, Rm, s, m, args, below, meth, c) (D, dT, sp, A, n0, ad0) Fin (pc + 3, lv, .int (nI k) :: st, gl_h (gc_h S2 P2 R2 E2) hM g, bc - kc, bs - ks)) : gx_Gd (gl_zz L xs) (p, l, e, Rm, s, m, args, below, meth, c) (D, dT, sp, A, n0, ad0) Fin (pc, lv, .ref 43 :: .int z :: .ref 0 :: st, gl_h (gc_h S P R E) hM f, bc, bs) := by
  have hR1 := hR.1
  have hR2 := hR.2
  refine gl_S (hh9 := gl_hh7) (k := 3) (As := [.ref 0, .int z, .ref 43]) (st := st) (d' := 300) (kc := kc) (ks := ks) (gl_Gok L xs) hCx (gl_goodS gl_w838 gl_w839 gl_w0 gl_k7) rfl (by decide +kernel) hd ⟨rfl, by decide⟩ ⟨by omega, by omega⟩ (fun v hv => by
    simp only [List.mem_cons, List.not_mem_nil, or_false] at hv
    rcases hv with rfl | rfl | rfl <;> rfl) hsum hb ?_
  exact gl_h7 hl hJ oC h2 oM hkc hks hk
theorem gl_lh_capture {z1 z2 : Int32} (hl : l.stackTraces = false) (hCx : gx_Cx (gl_zz L xs) (p, l, e, Rm, s, m, args, below, meth, c) (D, dT, sp, A, n0, ad0)) (hR : 1000 ≤ Rm.frames ∧ 80000 ≤ Rm.locals) (hd : decode code pc = .ok (.invokestatic 89, 3)) (h2 : hM.length = 26) (oC : gx_okH (gc_h S P R E)) (oM : gx_okH hM) (hsum : (st.map Value.category).sum ≤ 8) (hJ : gj_C a S P R E) (hkc : 1 ≤ kc) (hks : 6 ≤ ks) (hb : kc ≤ bc ∧ ks ≤ bs) (hk : ∀ k v a2 S2 P2 R2 E2 g, gj_capture z1 z2 a (k, v, a2) → gj_C a2 S2 P2 R2 E2 → gx_okH (gc_h S2 P2 R2 E2) → (k = 0 → g 0 = v.toInt64) → k ≤ 2 → gx_Gd (gl_zz L xs) (p, l, e, Rm, s, m, args, below, meth, c) (D, dT, sp, A, n0, ad0) Fin (pc + 3, lv, .int (nI k) :: st, gl_h (gc_h S2 P2 R2 E2) hM g, bc - kc, bs - ks)) : gx_Gd (gl_zz L xs) (p, l, e, Rm, s, m, args, below, meth, c) (D, dT, sp, A, n0, ad0) Fin (pc, lv, .ref 43 :: .int z2 :: .int z1 :: .ref 0 :: st, gl_h (gc_h S P R E) hM f, bc, bs) := by
  have hR1 := hR.1
  have hR2 := hR.2
  refine gl_S (hh9 := gl_hh8) (k := 4) (As := [.ref 0, .int z1, .int z2, .ref 43]) (st := st) (d' := 300) (kc := kc) (ks := ks) (gl_Gok L xs) hCx (gl_goodS gl_w845 gl_w846 gl_w0 gl_k8) rfl (by decide +kernel) hd ⟨rfl, by decide⟩ ⟨by omega, by omega⟩ (fun v hv => by
    simp only [List.mem_cons, List.not_mem_nil, or_false] at hv
    rcases hv with rfl | rfl | rfl | rfl <;> rfl) hsum hb ?_
  exact gl_h8 hl hJ oC h2 oM hkc hks hk
end GLQ
