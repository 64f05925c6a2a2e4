/-! The law's start. Written by wip/tools/lawstart.py. -/
theorem gl_arrP {args : Array Value} {s : State} {ty : FieldType} (h : (Cond.arrayClass ty).before args s = true) : ∃ cA, ArrOfT s cA ty ∧ s.vm.findClass ("[" ++ ty.toString) = some cA := by
  obtain ⟨cA, k, comp, h1, h2, h3⟩ := Cond.arrayClass_spec h
  exact ⟨cA, fun n z => ⟨fun k h => (by cases h), k, h2, comp, h3⟩, h1⟩
theorem gl_arrO {args : Array Value} {s : State} {C : String} (h : (Cond.arrayOver (.object C)).before args s = true) : ∃ cA, ArrOfT s cA (.object C) ∧ va_RA s cA (.object C) := by
  obtain ⟨comp, cA, k, h1, h2, h3, h4, h5⟩ := Cond.arrayOver_spec h
  exact ⟨cA, fun n z => ⟨fun k h => (by cases h), k, h3, comp, h4⟩, k, comp, h3, h4, h1, h5⟩
theorem gl_tb {w : Cond} (i : Nat) (h : tables_1[i]? = some w) : w ∈ lw_tbl := List.mem_append_right _ (List.mem_of_getElem? h)
theorem gl_cls {s : State} {args : Array Value} (hts : ∀ w ∈ gl_hd :: gm_WS, w.before args s = true) (ht : ∀ w ∈ lw_tbl, w.before args s = true) : ∃ D : va_G, ∀ (c : Nat) (q : vw_C), gm_cl[c]? = some q → u_Kn s q.1 q.2.1 q.2.2 (D.1 c) (D.2 c) := by
  obtain ⟨c0, i0, h0⟩ := u_known (C := gm_R0) (T := gm_T0) (N := 8) hts gc_in0 (ht (Cond.instantiable "GrammarMachine" 8) (gl_tb 31 (by decide +kernel)))
  obtain ⟨c1, i1, h1⟩ := u_known (C := gm_R1) (T := gm_T1) (N := 3) hts gc_in1 (ht (Cond.instantiable "GrammarMachine$Reader" 3) (gl_tb 39 (by decide +kernel)))
  obtain ⟨c2, i2, h2⟩ := u_known (C := gm_R2) (T := gm_T2) (N := 4) hts gc_in2 (ht (Cond.instantiable "GrammarMachine$Grammar" 4) (gl_tb 56 (by decide +kernel)))
  obtain ⟨c3, i3, h3⟩ := u_known (C := gm_R3) (T := gm_T3) (N := 9) hts gc_in3 (ht (Cond.instantiable "GrammarMachine$Chart" 9) (gl_tb 81 (by decide +kernel)))
  obtain ⟨c4, i4, h4⟩ := u_known (C := gm_R4) (T := gm_T4) (N := 35) hts gm_in4c (ht (Cond.instantiable "GrammarMachineModel" 35) (gl_tb 856 (by decide +kernel)))
  obtain ⟨c5, i5, h5⟩ := u_known (C := gm_R5) (T := gm_T5) (N := 2) hts gc_in5 (ht (Cond.instantiable "GrammarMachine$Single" 2) (gl_tb 345 (by decide +kernel)))
  obtain ⟨c6, i6, h6⟩ := u_known (C := gm_R6) (T := gm_T6) (N := 1) hts gc_in6 (ht (Cond.instantiable "GrammarMachine$Name" 1) (gl_tb 358 (by decide +kernel)))
  obtain ⟨c7, i7, h7⟩ := u_known (C := gm_R7) (T := gm_T7) (N := 1) hts gc_in7 (ht (Cond.instantiable "GrammarMachine$Capture" 1) (gl_tb 321 (by decide +kernel)))
  obtain ⟨c8, i8, h8⟩ := u_known (C := gm_R8) (T := gm_T8) (N := 3) hts gc_in8 (ht (Cond.instantiable "GrammarMachine$Repeat" 3) (gl_tb 368 (by decide +kernel)))
  obtain ⟨c9, i9, h9⟩ := u_known (C := gm_R9) (T := gm_T9) (N := 2) hts gc_in9 (ht (Cond.instantiable "GrammarMachine$Look" 2) (gl_tb 384 (by decide +kernel)))
  obtain ⟨c10, i10, h10⟩ := u_known (C := gm_R10) (T := gm_T10) (N := 1) hts gc_in10 (ht (Cond.instantiable "GrammarMachine$Sequence" 1) (gl_tb 400 (by decide +kernel)))
  obtain ⟨c11, i11, h11⟩ := u_known (C := gm_R11) (T := gm_T11) (N := 1) hts gc_in11 (ht (Cond.instantiable "GrammarMachine$Choice" 1) (gl_tb 507 (by decide +kernel)))
  obtain ⟨c12, i12, h12⟩ := u_known (C := gm_R12) (T := gm_T12) (N := 3) hts gc_in12 (ht (Cond.instantiable "java/util/ArrayList" 3) (gl_tb 406 (by decide +kernel)))
  refine ⟨(fun k => [c0, c1, c2, c3, c4, c5, c6, c7, c8, c9, c10, c11, c12].getD k c0, fun k => [i0, i1, i2, i3, i4, i5, i6, i7, i8, i9, i10, i11, i12].getD k i0), fun c q h => ?_⟩
  match c, h with
  | 0, h => cases h; exact h0
  | 1, h => cases h; exact h1
  | 2, h => cases h; exact h2
  | 3, h => cases h; exact h3
  | 4, h => cases h; exact h4
  | 5, h => cases h; exact h5
  | 6, h => cases h; exact h6
  | 7, h => cases h; exact h7
  | 8, h => cases h; exact h8
  | 9, h => cases h; exact h9
  | 10, h => cases h; exact h10
  | 11, h => cases h; exact h11
  | 12, h => cases h; exact h12
  | c + 13, h => cases h
theorem gl_tys {s : State} {args : Array Value} (ht : ∀ w ∈ lw_tbl, w.before args s = true) : ∃ dT : Nat → ClassId, ∀ (k : Nat) (q : ClassId × FieldType), (gx_ty dT gm_tyl)[k]? = some q → ArrOfT s q.1 q.2 ∧ va_RA s q.1 q.2 := by
  obtain ⟨c0, a0, b0⟩ := gl_arrP (ty := .int) (ht _ (gl_tb 79 (by decide +kernel)))
  obtain ⟨c1, a1, b1⟩ := gl_arrP (ty := .char) (ht _ (gl_tb 54 (by decide +kernel)))
  obtain ⟨c2, a2, b2⟩ := gl_arrP (ty := .boolean) (ht _ (gl_tb 967 (by decide +kernel)))
  obtain ⟨c3, a3, b3⟩ := gl_arrP (ty := .long) (ht _ (gl_tb 114 (by decide +kernel)))
  obtain ⟨c4, a4, b4⟩ := gl_arrO (C := "GrammarMachine$Pattern") (ht _ (gl_tb 62 (by decide +kernel)))
  obtain ⟨c5, a5, b5⟩ := gl_arrO (C := "java/lang/Object") (ht _ (gl_tb 498 (by decide +kernel)))
  refine ⟨fun k => [c0, c1, c2, c3, c4, c5].getD k c0, fun k q h => ?_⟩
  match k, h with
  | 0, h => cases h; exact ⟨a0, b0⟩
  | 1, h => cases h; exact ⟨a1, b1⟩
  | 2, h => cases h; exact ⟨a2, b2⟩
  | 3, h => cases h; exact ⟨a3, b3⟩
  | 4, h => cases h; exact ⟨a4, b4⟩
  | 5, h => cases h; exact ⟨a5, b5⟩
  | k + 6, h => cases h
theorem gl_G0 {s : State} {b L : Nat} {xs : Nat → Int32} (ht : ∀ w ∈ lw_tbl, w.before #[Value.ref b] s = true) (hX : va_X b L xs s s.heap) (hb : b < s.heap.size) (hg : (Jvm.Cond.and given_1 narrow_1).before #[Value.ref b] s = true) : ∃ sp : Nat → Nat, sp 0 = b ∧ gl_G L xs sp (fun q => s.heap.size ≤ q) s s.heap := by
  have hs := flat_of_before _ hg
  have hA : ∀ a : Nat, a < s.heap.size → ¬ (fun q => s.heap.size ≤ q) a := fun a ha h => Nat.lt_irrefl _ (Nat.lt_of_lt_of_le ha h)
  have h1 : vx_Zq Bundle.tN "UNASSIGNED_STACK" Bundle.steD (fun q => s.heap.size ≤ q) s s.heap := vx_Zqof (ht _ (gl_tb 229 (by decide +kernel))) (ht _ (gl_tb 6 (by decide +kernel))) (hs (Cond.isRef (.static "java/lang/Throwable" "UNASSIGNED_STACK" "[Ljava/lang/StackTraceElement;")) (by decide +kernel)) hA
  have h2 : vx_Zq Bundle.tN "SUPPRESSED_SENTINEL" Bundle.listD (fun q => s.heap.size ≤ q) s s.heap := vx_Zqof (ht _ (gl_tb 231 (by decide +kernel))) (ht _ (gl_tb 6 (by decide +kernel))) (hs (Cond.isRef (.static "java/lang/Throwable" "SUPPRESSED_SENTINEL" "Ljava/util/List;")) (by decide +kernel)) hA
  have hlen : (Term.length (.static "java/util/ArrayList" "DEFAULTCAPACITY_EMPTY_ELEMENTDATA" "[Ljava/lang/Object;")).eval #[Value.ref b] s none [] s = some (.int (Int32.ofNat 0)) := Cond.eq_int (hs (Cond.eq (.length (.static "java/util/ArrayList" "DEFAULTCAPACITY_EMPTY_ELEMENTDATA" "[Ljava/lang/Object;")) (.int 0)) (by decide +kernel)) rfl
  obtain ⟨t, ev, hT⟩ := va_Tof (N := 0) (f := fun _ => .null) (by decide) (hs (Cond.arrayOf (.static "java/util/ArrayList" "DEFAULTCAPACITY_EMPTY_ELEMENTDATA" "[Ljava/lang/Object;") (.object "java/lang/Object")) (by decide +kernel)) hlen (fun j hj => absurd hj (Nat.not_lt_zero _)) hA
  have hZ := va_Zof (ht _ (gl_tb 418 (by decide +kernel))) (ht _ (gl_tb 20 (by decide +kernel))) ev hA
  obtain ⟨mi, hMi⟩ := va_Mi.of (hs (Cond.isRef (.mirror "[Ljava/lang/Object;")) (by decide +kernel))
  have hcast := ht (Cond.castable "java/util/ArrayList" "java/util/List") (gl_tb 443 (by decide +kernel))
  have hf1 : va_Fw "java/util/ArrayList" (gc_yl "add" "(Ljava/lang/Object;)Z") (gc_ya "add" "(Ljava/lang/Object;)Z") s := va_Fw.of (ht _ (gl_tb 442 (by decide +kernel))) (ht _ (gl_tb 441 (by decide +kernel))) (ht _ (gl_tb 447 (by decide +kernel))) (ht _ (gl_tb 445 (by decide +kernel))) hcast
  have hf2 : va_Fw "java/util/ArrayList" (gc_yl "size" "()I") (gc_ya "size" "()I") s := va_Fw.of (ht _ (gl_tb 609 (by decide +kernel))) (ht _ (gl_tb 608 (by decide +kernel))) (ht _ (gl_tb 613 (by decide +kernel))) (ht _ (gl_tb 611 (by decide +kernel))) hcast
  have hf3 : va_Fw "java/util/ArrayList" (gc_yl "get" "(I)Ljava/lang/Object;") (gc_ya "get" "(I)Ljava/lang/Object;") s := va_Fw.of (ht _ (gl_tb 618 (by decide +kernel))) (ht _ (gl_tb 617 (by decide +kernel))) (ht _ (gl_tb 622 (by decide +kernel))) (ht _ (gl_tb 620 (by decide +kernel))) hcast
  have ha1 : va_AO "GrammarMachine$Pattern" s := va_AO.of (ht _ (gl_tb 62 (by decide +kernel)))
  have ha2 : va_AO "java/lang/Object" s := va_AO.of (ht _ (gl_tb 498 (by decide +kernel)))
  have hnc : va_Nc "java/lang/IllegalStateException" "java/lang/IndexOutOfBoundsException" s := va_Nc.of (hs (Cond.not (.castable "java/lang/IllegalStateException" "java/lang/IndexOutOfBoundsException")) (by decide +kernel))
  have htl : t < s.heap.size := by
    obtain ⟨cell, hc, -⟩ := hT
    exact (Array.getElem?_eq_some_iff.mp hc).1
  refine ⟨fun j => match j with
    | 1 => t
    | 2 => mi
    | _ => b, rfl, ⟨⟨h1, h2⟩, fun w hw => ?_, ⟨hZ, hT⟩, hMi, ⟨hf1, hf2, hf3⟩, ⟨ha1, ha2⟩, fun j hj => ?_, hX, hb⟩, hnc⟩
  · obtain ⟨g1, g2⟩ := List.mem_filter.mp hw
    exact va_tabs (gc_tab g2) rfl (ht w (List.mem_append_right _ g1))
  · match j, hj with
    | 0, _ => exact hA b hb
    | 1, _ => exact hA t htl
    | 2, hj => exact absurd rfl hj
    | j + 3, _ => exact hA b hb
section GLB
variable {p : Program} {l : Launch} {e : Env} {Rm : Room} {s : State} {m : MethodId} {args : Array Value} {below : List Frame} {meth : Method} {c : Code} {D : va_G} {dT : Nat → ClassId} {sp : Nat → Nat} {A : Nat → Prop} {n0 : Nat} {ad0 : Nat → Nat} {Fin : State → Prop} {L : Nat} {xs : Nat → Int32}
set_option maxHeartbeats 4000000 in
theorem gl_begin (hl : l.stackTraces = false) (hCx : gx_Cx (gl_zz L xs) (p, l, e, Rm, s, m, args, below, meth, c) (D, dT, sp, A, n0, ad0)) (hR : 1000 ≤ Rm.frames ∧ 80000 ≤ Rm.locals) (hL : L ≤ 1536) (hend : ∀ lv h bc bs, gx_Gd (gl_zz L xs) (p, l, e, Rm, s, m, args, below, meth, c) (D, dT, sp, A, n0, ad0) Fin (681, lv, [.int 1], h, bc, bs)) : gx_Gd (gl_zz L xs) (p, l, e, Rm, s, m, args, below, meth, c) (D, dT, sp, A, n0, ad0) Fin (0, [some (.retAddr 0), none, none, none, none, none, none], [], [], 601024, 7293034) := by
  have hR1 := hR.1
  have hR2 := hR.2
  refine gl_bs.go hCx (gl_th_ok L xs) [] 8 ⟨⟨by decide, by decide⟩, (show gx_Gd (gl_zz L xs) (p, l, e, Rm, s, m, args, below, meth, c) (D, dT, sp, A, n0, ad0) Fin (4, [some (.retAddr 0), none, none, none, none, none, none], [.ref 0, .ref 0], [.inr (0, [.null, .null, .null, .null, .null, .int 0, .int 0, .int 0])], 601024 - 1, 7293034 - 8) from ?_)⟩
  refine gl_I (st := [.ref 0]) (a := 0) (d' := 200) (kc := 16) (ks := 3522) (gl_Gok L xs) hCx (gm_good gc_k0) rfl (gm_f _ gl_w1) (gm_f _ gl_w32) (gm_f _ gl_w33) rfl (by decide +kernel) gl_e0_4 (by decide) ⟨by omega, by omega⟩ (by decide) ⟨by decide, by decide⟩ ?_
  refine gl_mtC0 (d := 198) hl rfl (Nat.le_refl _) (Nat.le_refl _) (fun oC => ?_)
  have oa := (gl_new1 (x := .inr (0, [.null, .null, .null, .null, .null, .int 0, .int 0, .int 0])) rfl oC).2.2.2.2
  show gx_Gd (gl_zz L xs) (p, l, e, Rm, s, m, args, below, meth, c) (D, dT, sp, A, n0, ad0) Fin (7, [some (.retAddr 0), none, none, none, none, none, none], [.ref 0], (gc_h gc_S0 (fun _ => none) (fun _ => 0) []).map (gy_e gl_s), 601024 - 1 - 16, 7293034 - 8 - 3522)
  refine gl_bs.go hCx (gl_th_ok L xs) [] 8 ⟨⟨by decide, by decide⟩, (show gx_Gd (gl_zz L xs) (p, l, e, Rm, s, m, args, below, meth, c) (D, dT, sp, A, n0, ad0) Fin (12, [some (.retAddr 0), some (.ref 0), none, none, none, none, none], [.ref 17, .ref 17], (gc_h gc_S0 (fun _ => none) (fun _ => 0) []).map (gy_e gl_s) ++ [.inr (4, [.int 0, .null, .int 0, .null, .int 0, .null, .null, .null, .null, .null, .null, .null, .null, .null, .null, .null, .null, .int 0, .int 0, .int 0, .null, .null, .null, .null, .null, .null, .null, .null, .int 0, .null, .int 0, .null, .null, .int 0, .int 0])], 601024 - 1 - 16 - 1, 7293034 - 8 - 3522 - 35) from ?_)⟩
  refine gl_I (st := [.ref 17]) (a := 17) (d' := 200) (kc := 25) (ks := 9501) (gl_Gok L xs) hCx (gm_good gm_k0) rfl (gm_f _ gl_w5) (gm_f _ gl_w857) (gm_f _ gl_w858) rfl (by decide +kernel) gl_e0_12 (by decide) ⟨by omega, by omega⟩ (by decide) ⟨by decide, by decide⟩ ?_
  refine gl_mtM0 (d := 199) rfl rfl oa (Nat.le_refl _) (Nat.le_refl _) (fun oM => ?_) rfl
  show gx_Gd (gl_zz L xs) (p, l, e, Rm, s, m, args, below, meth, c) (D, dT, sp, A, n0, ad0) Fin (15, [some (.retAddr 0), some (.ref 0), none, none, none, none, none], [.ref 17], (gc_h gc_S0 (fun _ => none) (fun _ => 0) []).map (gy_e gl_s) ++ (gm_h gm_S0).map (gy_e gl_t), 601024 - 1 - 16 - 1 - 25, 7293034 - 8 - 3522 - 35 - 9501)
  refine gl_bs.go hCx (gl_th_ok L xs) [23] 12 ⟨⟨by decide, by decide⟩, ⟨by decide, by decide⟩, (show gx_Gd (gl_zz L xs) (p, l, e, Rm, s, m, args, below, meth, c) (D, dT, sp, A, n0, ad0) Fin (23, [some (.retAddr 0), some (.ref 0), some (.ref 17), some (.ref 43), some (.int (nI (3 * 0))), none, none], [], ((gc_h gc_S0 (fun _ => none) (fun _ => 0) []).map (gy_e gl_s) ++ (gm_h gm_S0).map (gy_e gl_t)) ++ [gl_o (fun _ => 0)], 601024 - 1 - 16 - 1 - 25 - 1, 7293034 - 8 - 3522 - 35 - 9501 - 1) from ?_)⟩
  rw [gl_new3 rfl]
  refine gl_loop hl hCx hR hL hend (L / 3) 0 gj_a0 gc_S0 gm_S0 (fun _ => none) (fun _ => 0) [] (fun _ => 0) none none _ _ (by omega) (by omega) gjc_0 gjm_0 oC oM ?_ ?_
  · show 710 * (L / 3) + 0 ≤ _
    omega
  · show 5000 * (L / 3) + 0 ≤ _
    omega
end GLB
