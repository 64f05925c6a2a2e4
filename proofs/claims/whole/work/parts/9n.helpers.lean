/-! The law's helpers are right. Written by wip/tools/lawhelp.py. -/
theorem gl_h1 {l : Launch} (hl : l.stackTraces = false) {L : Nat} {xs : Nat → Int32} {D : va_G} {dT : Nat → ClassId} {sp : Nat → Nat} {a : gj_A} {S : Nat → Nat → Int32} {P : Nat → Option Nat} {R : Nat → Int64} {E hM : gx_H} {f : Nat → Int64} {z : Int32} {kc ks : Nat} {Q : gx_R → Prop} (hJ : gj_C a S P R E) (oC : gx_okH (gc_h S P R E)) (h2 : hM.length = 26) (oM : gx_okH hM) (hkc : 1 ≤ kc) (hks : 6 ≤ ks)
    (hQ : ∀ k v a2 S2 P2 R2 E2 g, gj_type z a (k, v, a2) → gj_C a2 S2 P2 R2 E2 → gx_okH (gc_h S2 P2 R2 E2) → (k = 0 → g 0 = gl_cb v) → k ≤ 2 → Q (.inl (some (.int (nI k))), gl_h (gc_h S2 P2 R2 E2) hM g)) :
    gx_Mt l (gl_z1 L xs) D dT sp 300 (0, [some (.ref 0), some (.int z), some (.ref 43), none], [], gl_h (gc_h S P R E) hM f, kc, ks) Q := by
  refine gl_of (hh9 := gl_hh1) (by decide +kernel) rfl (fun x9 y9 e1 e2 e3 e4 hCx hex hf hlo => ?_)
  obtain ⟨p, l', e, Rm, s, m, args, below, meth, c⟩ := x9
  obtain ⟨D', dT', sp', A, n0, ad0⟩ := y9
  have e1 : l' = l := e1
  have e2 : D' = D := e2
  have e3 : dT' = dT := e3
  have e4 : sp' = sp := e4
  subst e1 e2 e3 e4
  have hf : Rm.frames = 320 := hf
  have hlo : Rm.locals = 21200 := hlo
  have hex : c.exceptionTable.toList = tableOf gl_hh1 := hex
  obtain ⟨fs, hcell⟩ := gl_cell0 S P R E hM f
  have hts : ∀ w ∈ gm_WS, w.before args s = true := fun w h => hCx.2.1 w (List.mem_cons_of_mem _ h)
  have hG0 : gl_G L xs sp' A s s.heap := hCx.2.2.2.2.2
  refine gl_bs.go hCx (gl_tb1_ok L xs) [] 8 (show gx_Gd (gl_z1 L xs) (p, l', e, Rm, s, m, args, below, meth, c) (D', dT', sp', A, n0, ad0) (gx_Fin (gl_z1 L xs) (p, l', e, Rm, s, m, args, below, meth, c) (D', dT', sp', A, n0, ad0) Q) (4, [some (.ref 0), some (.int z), some (.ref 43), none], [.int z, .ref 0, .int 0, .ref 43], gl_h (gc_h S P R E) hM f, kc, ks) from ?_)
  refine gl_VX (k := 1) (As := [.int z]) (st := [.int 0, .ref 43]) (a := 0) (d' := 200) (kc := kc) (ks := ks) (Cn := gm_R0) (T := gm_T0) (N := 8) (gl_Gok L xs) hCx (gm_good gc_k14) rfl rfl (gm_f _ gl_w1) (gm_f _ gl_w189) (gm_f _ gl_w190) (gm_f _ gl_w191) (by decide +kernel) gl_e1_4 ⟨rfl, by decide⟩ ⟨by omega, by omega⟩ hcell gl_i1.cat (by decide) ⟨Nat.le_refl _, Nat.le_refl _⟩ ?_
  refine gl_mtC hl rfl gl_i1 (gl_17 S P R E) h2 oC oM (gjc_type (d := 196) hJ hkc hks) ?_
  rintro r hC2 ⟨k, v, a2, S2, P2, R2, E2, hO, hJ2, e5, hr⟩ oC2 -
  have e5 : hC2 = gc_h S2 P2 R2 E2 := e5
  subst e5
  rcases hr with ⟨rfl, e6⟩ | ⟨hk, e6⟩
  · have e6 : r = .inl (some (.int v)) := e6
    subst e6
    have fin : ∀ w, w = gl_cb v → gx_Gd (gl_z1 L xs) (p, l', e, Rm, s, m, args, below, meth, c) (D', dT', sp', A, n0, ad0) (gx_Fin (gl_z1 L xs) (p, l', e, Rm, s, m, args, below, meth, c) (D', dT', sp', A, n0, ad0) Q) (15, [some (.ref 0), some (.int z), some (.ref 43), none], [.long w, .int 0, .ref 43], gl_h (gc_h S2 P2 R2 E2) hM f, kc - kc, ks - ks) := fun w hw => gl_str hCx gl_e1_15 (gl_17 S2 P2 R2 E2) h2 (gl_bs.go hCx (gl_tb1_ok L xs) [] 8 (show gx_Gd (gl_z1 L xs) (p, l', e, Rm, s, m, args, below, meth, c) (D', dT', sp', A, n0, ad0) (gx_Fin (gl_z1 L xs) (p, l', e, Rm, s, m, args, below, meth, c) (D', dT', sp', A, n0, ad0) Q) (23, [some (.ref 0), some (.int z), some (.ref 43), none], [.int 0], gl_h (gc_h S2 P2 R2 E2) hM (vp_updL f (0 : Int32).toNatClampNeg w), kc - kc, ks - ks) from gl_rti hCx gl_e1_23 (hQ 0 v a2 S2 P2 R2 E2 _ hO hJ2 oC2 (fun _ => (gl_up0 f w).trans hw) (by decide))))
    have st : gx_Gd (gl_z1 L xs) (p, l', e, Rm, s, m, args, below, meth, c) (D', dT', sp', A, n0, ad0) (gx_Fin (gl_z1 L xs) (p, l', e, Rm, s, m, args, below, meth, c) (D', dT', sp', A, n0, ad0) Q) (7, [some (.ref 0), some (.int z), some (.ref 43), none], [.int v, .int 0, .ref 43], gl_h (gc_h S2 P2 R2 E2) hM f, kc - kc, ks - ks) := gl_bs.go hCx (gl_tb1_ok L xs) [] 8 ⟨fun h0 => fin 0 (if_pos h0).symm, fun h0 => fin 1 (if_neg h0).symm⟩
    exact st
  · have hk1 : k = 1 := by
      rcases hk with h | h
      · exact h
      · exact absurd h (gj_type_k hO)
    subst hk1
    have e6 : r = .inr (gj_ia 1) := e6
    subst e6
    refine ⟨20, ⟨[], ⟨0, 16, 19, 13⟩, [], "java/lang/IllegalArgumentException", 3, hex, fun z hz => (nomatch hz), by decide, by decide, hts _ gl_w188, va_tabs rfl rfl (gl_n204 _ _ _ _ hG0), rfl, fun y p l e R s m args below meth c H locs cells slots Fin ls rest l1 hx hb hl hn k => lv_astore_n hx hb gl_e1_19 rfl hl hn rfl k⟩, ?_⟩
    exact gl_bs.go hCx (gl_tb1_ok L xs) [] 4 (show gx_Gd (gl_z1 L xs) (p, l', e, Rm, s, m, args, below, meth, c) (D', dT', sp', A, n0, ad0) (gx_Fin (gl_z1 L xs) (p, l', e, Rm, s, m, args, below, meth, c) (D', dT', sp', A, n0, ad0) Q) (21, [some (.ref 0), some (.int z), some (.ref 43), none], [.int 1], gl_h (gc_h S2 P2 R2 E2) hM f, kc - kc, ks - ks) from gl_rti hCx gl_e1_21 (hQ 1 v a2 S2 P2 R2 E2 f hO hJ2 oC2 (fun h => absurd h (by decide)) (by decide)))
theorem gl_h2 {l : Launch} (hl : l.stackTraces = false) {L : Nat} {xs : Nat → Int32} {D : va_G} {dT : Nat → ClassId} {sp : Nat → Nat} {a : gj_A} {S : Nat → Nat → Int32} {P : Nat → Option Nat} {R : Nat → Int64} {E hM : gx_H} {f : Nat → Int64} {kc ks : Nat} {Q : gx_R → Prop} (hJ : gj_C a S P R E) (oC : gx_okH (gc_h S P R E)) (h2 : hM.length = 26) (oM : gx_okH hM) (hkc : (if a.2.2.1.1 = 0 then 1 else 1300) ≤ kc) (hks : (if a.2.2.1.1 = 0 then 6 else 9000) ≤ ks)
    (hQ : ∀ k v a2 S2 P2 R2 E2 g, gj_define a (k, v, a2) → gj_C a2 S2 P2 R2 E2 → gx_okH (gc_h S2 P2 R2 E2) → (k = 0 → g 0 = v.toInt64) → k ≤ 2 → Q (.inl (some (.int (nI k))), gl_h (gc_h S2 P2 R2 E2) hM g)) :
    gx_Mt l (gl_z2 L xs) D dT sp 300 (0, [some (.ref 0), some (.ref 43), none], [], gl_h (gc_h S P R E) hM f, kc, ks) Q := by
  refine gl_of (hh9 := gl_hh2) (by decide +kernel) rfl (fun x9 y9 e1 e2 e3 e4 hCx hex hf hlo => ?_)
  obtain ⟨p, l', e, Rm, s, m, args, below, meth, c⟩ := x9
  obtain ⟨D', dT', sp', A, n0, ad0⟩ := y9
  have e1 : l' = l := e1
  have e2 : D' = D := e2
  have e3 : dT' = dT := e3
  have e4 : sp' = sp := e4
  subst e1 e2 e3 e4
  have hf : Rm.frames = 320 := hf
  have hlo : Rm.locals = 21200 := hlo
  have hex : c.exceptionTable.toList = tableOf gl_hh2 := hex
  obtain ⟨fs, hcell⟩ := gl_cell0 S P R E hM f
  have hts : ∀ w ∈ gm_WS, w.before args s = true := fun w h => hCx.2.1 w (List.mem_cons_of_mem _ h)
  have hG0 : gl_G L xs sp' A s s.heap := hCx.2.2.2.2.2
  refine gl_bs.go hCx (gl_tb2_ok L xs) [] 8 (show gx_Gd (gl_z2 L xs) (p, l', e, Rm, s, m, args, below, meth, c) (D', dT', sp', A, n0, ad0) (gx_Fin (gl_z2 L xs) (p, l', e, Rm, s, m, args, below, meth, c) (D', dT', sp', A, n0, ad0) Q) (3, [some (.ref 0), some (.ref 43), none], [.ref 0, .int 0, .ref 43], gl_h (gc_h S P R E) hM f, kc, ks) from ?_)
  refine gl_VX (k := 0) (As := []) (st := [.int 0, .ref 43]) (a := 0) (d' := 200) (kc := kc) (ks := ks) (Cn := gm_R0) (T := gm_T0) (N := 8) (gl_Gok L xs) hCx (gm_good gc_k18) rfl rfl (gm_f _ gl_w1) (gm_f _ gl_w268) (gm_f _ gl_w269) (gm_f _ gl_w270) (by decide +kernel) gl_e2_3 ⟨rfl, by decide⟩ ⟨by omega, by omega⟩ hcell gl_i0.cat (by decide) ⟨Nat.le_refl _, Nat.le_refl _⟩ ?_
  refine gl_mtC hl rfl gl_i0 (gl_17 S P R E) h2 oC oM (gjc_define (d := 152) hJ hkc hks) ?_
  rintro r hC2 ⟨k, v, a2, S2, P2, R2, E2, hO, hJ2, e5, hr⟩ oC2 -
  have e5 : hC2 = gc_h S2 P2 R2 E2 := e5
  subst e5
  rcases hr with ⟨rfl, e6⟩ | ⟨hk, e6⟩
  · have e6 : r = .inl (some (.int v)) := e6
    subst e6
    have fin : ∀ w, w = v.toInt64 → gx_Gd (gl_z2 L xs) (p, l', e, Rm, s, m, args, below, meth, c) (D', dT', sp', A, n0, ad0) (gx_Fin (gl_z2 L xs) (p, l', e, Rm, s, m, args, below, meth, c) (D', dT', sp', A, n0, ad0) Q) (7, [some (.ref 0), some (.ref 43), none], [.long w, .int 0, .ref 43], gl_h (gc_h S2 P2 R2 E2) hM f, kc - kc, ks - ks) := fun w hw => gl_str hCx gl_e2_7 (gl_17 S2 P2 R2 E2) h2 (gl_bs.go hCx (gl_tb2_ok L xs) [] 8 (show gx_Gd (gl_z2 L xs) (p, l', e, Rm, s, m, args, below, meth, c) (D', dT', sp', A, n0, ad0) (gx_Fin (gl_z2 L xs) (p, l', e, Rm, s, m, args, below, meth, c) (D', dT', sp', A, n0, ad0) Q) (15, [some (.ref 0), some (.ref 43), none], [.int 0], gl_h (gc_h S2 P2 R2 E2) hM (vp_updL f (0 : Int32).toNatClampNeg w), kc - kc, ks - ks) from gl_rti hCx gl_e2_15 (hQ 0 v a2 S2 P2 R2 E2 _ hO hJ2 oC2 (fun _ => (gl_up0 f w).trans hw) (by decide))))
    have st : gx_Gd (gl_z2 L xs) (p, l', e, Rm, s, m, args, below, meth, c) (D', dT', sp', A, n0, ad0) (gx_Fin (gl_z2 L xs) (p, l', e, Rm, s, m, args, below, meth, c) (D', dT', sp', A, n0, ad0) Q) (6, [some (.ref 0), some (.ref 43), none], [.int v, .int 0, .ref 43], gl_h (gc_h S2 P2 R2 E2) hM f, kc - kc, ks - ks) := gl_bs.go hCx (gl_tb2_ok L xs) [] 8 (fin _ rfl)
    exact st
  · have hk1 : k = 1 := by
      rcases hk with h | h
      · exact h
      · exact absurd h (gj_define_k hO)
    subst hk1
    have e6 : r = .inr (gj_ia 1) := e6
    subst e6
    refine ⟨12, ⟨[], ⟨0, 8, 11, 13⟩, [], "java/lang/IllegalArgumentException", 2, hex, fun z hz => (nomatch hz), by decide, by decide, hts _ gl_w188, va_tabs rfl rfl (gl_n204 _ _ _ _ hG0), rfl, fun y p l e R s m args below meth c H locs cells slots Fin ls rest l1 hx hb hl hn k => lv_astore_n hx hb gl_e2_11 rfl hl hn rfl k⟩, ?_⟩
    exact gl_bs.go hCx (gl_tb2_ok L xs) [] 4 (show gx_Gd (gl_z2 L xs) (p, l', e, Rm, s, m, args, below, meth, c) (D', dT', sp', A, n0, ad0) (gx_Fin (gl_z2 L xs) (p, l', e, Rm, s, m, args, below, meth, c) (D', dT', sp', A, n0, ad0) Q) (13, [some (.ref 0), some (.ref 43), none], [.int 1], gl_h (gc_h S2 P2 R2 E2) hM f, kc - kc, ks - ks) from gl_rti hCx gl_e2_13 (hQ 1 v a2 S2 P2 R2 E2 f hO hJ2 oC2 (fun h => absurd h (by decide)) (by decide)))
theorem gl_h3 {l : Launch} (hl : l.stackTraces = false) {L : Nat} {xs : Nat → Int32} {D : va_G} {dT : Nat → ClassId} {sp : Nat → Nat} {a : gj_A} {S : Nat → Nat → Int32} {P : Nat → Option Nat} {R : Nat → Int64} {E hM : gx_H} {f : Nat → Int64} {z : Int32} {kc ks : Nat} {Q : gx_R → Prop} (hJ : gj_C a S P R E) (oC : gx_okH (gc_h S P R E)) (h2 : hM.length = 26) (oM : gx_okH hM) (hkc : 1 ≤ kc) (hks : 6 ≤ ks)
    (hQ : ∀ k v a2 S2 P2 R2 E2 g, gj_drop z a (k, v, a2) → gj_C a2 S2 P2 R2 E2 → gx_okH (gc_h S2 P2 R2 E2) → (k = 0 → g 0 = gl_cb v) → k ≤ 2 → Q (.inl (some (.int (nI k))), gl_h (gc_h S2 P2 R2 E2) hM g)) :
    gx_Mt l (gl_z3 L xs) D dT sp 300 (0, [some (.ref 0), some (.int z), some (.ref 43), none], [], gl_h (gc_h S P R E) hM f, kc, ks) Q := by
  refine gl_of (hh9 := gl_hh3) (by decide +kernel) rfl (fun x9 y9 e1 e2 e3 e4 hCx hex hf hlo => ?_)
  obtain ⟨p, l', e, Rm, s, m, args, below, meth, c⟩ := x9
  obtain ⟨D', dT', sp', A, n0, ad0⟩ := y9
  have e1 : l' = l := e1
  have e2 : D' = D := e2
  have e3 : dT' = dT := e3
  have e4 : sp' = sp := e4
  subst e1 e2 e3 e4
  have hf : Rm.frames = 320 := hf
  have hlo : Rm.locals = 21200 := hlo
  have hex : c.exceptionTable.toList = tableOf gl_hh3 := hex
  obtain ⟨fs, hcell⟩ := gl_cell0 S P R E hM f
  have hts : ∀ w ∈ gm_WS, w.before args s = true := fun w h => hCx.2.1 w (List.mem_cons_of_mem _ h)
  have hG0 : gl_G L xs sp' A s s.heap := hCx.2.2.2.2.2
  refine gl_bs.go hCx (gl_tb3_ok L xs) [] 8 (show gx_Gd (gl_z3 L xs) (p, l', e, Rm, s, m, args, below, meth, c) (D', dT', sp', A, n0, ad0) (gx_Fin (gl_z3 L xs) (p, l', e, Rm, s, m, args, below, meth, c) (D', dT', sp', A, n0, ad0) Q) (4, [some (.ref 0), some (.int z), some (.ref 43), none], [.int z, .ref 0, .int 0, .ref 43], gl_h (gc_h S P R E) hM f, kc, ks) from ?_)
  refine gl_VX (k := 1) (As := [.int z]) (st := [.int 0, .ref 43]) (a := 0) (d' := 200) (kc := kc) (ks := ks) (Cn := gm_R0) (T := gm_T0) (N := 8) (gl_Gok L xs) hCx (gm_good gc_k46) rfl rfl (gm_f _ gl_w1) (gm_f _ gl_w537) (gm_f _ gl_w538) (gm_f _ gl_w539) (by decide +kernel) gl_e3_4 ⟨rfl, by decide⟩ ⟨by omega, by omega⟩ hcell gl_i1.cat (by decide) ⟨Nat.le_refl _, Nat.le_refl _⟩ ?_
  refine gl_mtC hl rfl gl_i1 (gl_17 S P R E) h2 oC oM (gjc_drop (d := 197) hJ hkc hks) ?_
  rintro r hC2 ⟨k, v, a2, S2, P2, R2, E2, hO, hJ2, e5, hr⟩ oC2 -
  have e5 : hC2 = gc_h S2 P2 R2 E2 := e5
  subst e5
  rcases hr with ⟨rfl, e6⟩ | ⟨hk, e6⟩
  · have e6 : r = .inl (some (.int v)) := e6
    subst e6
    have fin : ∀ w, w = gl_cb v → gx_Gd (gl_z3 L xs) (p, l', e, Rm, s, m, args, below, meth, c) (D', dT', sp', A, n0, ad0) (gx_Fin (gl_z3 L xs) (p, l', e, Rm, s, m, args, below, meth, c) (D', dT', sp', A, n0, ad0) Q) (15, [some (.ref 0), some (.int z), some (.ref 43), none], [.long w, .int 0, .ref 43], gl_h (gc_h S2 P2 R2 E2) hM f, kc - kc, ks - ks) := fun w hw => gl_str hCx gl_e3_15 (gl_17 S2 P2 R2 E2) h2 (gl_bs.go hCx (gl_tb3_ok L xs) [] 8 (show gx_Gd (gl_z3 L xs) (p, l', e, Rm, s, m, args, below, meth, c) (D', dT', sp', A, n0, ad0) (gx_Fin (gl_z3 L xs) (p, l', e, Rm, s, m, args, below, meth, c) (D', dT', sp', A, n0, ad0) Q) (23, [some (.ref 0), some (.int z), some (.ref 43), none], [.int 0], gl_h (gc_h S2 P2 R2 E2) hM (vp_updL f (0 : Int32).toNatClampNeg w), kc - kc, ks - ks) from gl_rti hCx gl_e3_23 (hQ 0 v a2 S2 P2 R2 E2 _ hO hJ2 oC2 (fun _ => (gl_up0 f w).trans hw) (by decide))))
    have st : gx_Gd (gl_z3 L xs) (p, l', e, Rm, s, m, args, below, meth, c) (D', dT', sp', A, n0, ad0) (gx_Fin (gl_z3 L xs) (p, l', e, Rm, s, m, args, below, meth, c) (D', dT', sp', A, n0, ad0) Q) (7, [some (.ref 0), some (.int z), some (.ref 43), none], [.int v, .int 0, .ref 43], gl_h (gc_h S2 P2 R2 E2) hM f, kc - kc, ks - ks) := gl_bs.go hCx (gl_tb3_ok L xs) [] 8 ⟨fun h0 => fin 0 (if_pos h0).symm, fun h0 => fin 1 (if_neg h0).symm⟩
    exact st
  · have hk1 : k = 1 := by
      rcases hk with h | h
      · exact h
      · exact absurd h (gj_drop_k hO)
    subst hk1
    have e6 : r = .inr (gj_io 1) := e6
    subst e6
    refine ⟨20, ⟨[], ⟨0, 16, 19, 22⟩, [], "java/lang/IndexOutOfBoundsException", 3, hex, fun z hz => (nomatch hz), by decide, by decide, hts _ gl_w536, va_tabs rfl rfl (gl_n546 _ _ _ _ hG0), rfl, fun y p l e R s m args below meth c H locs cells slots Fin ls rest l1 hx hb hl hn k => lv_astore_n hx hb gl_e3_19 rfl hl hn rfl k⟩, ?_⟩
    exact gl_bs.go hCx (gl_tb3_ok L xs) [] 4 (show gx_Gd (gl_z3 L xs) (p, l', e, Rm, s, m, args, below, meth, c) (D', dT', sp', A, n0, ad0) (gx_Fin (gl_z3 L xs) (p, l', e, Rm, s, m, args, below, meth, c) (D', dT', sp', A, n0, ad0) Q) (21, [some (.ref 0), some (.int z), some (.ref 43), none], [.int 1], gl_h (gc_h S2 P2 R2 E2) hM f, kc - kc, ks - ks) from gl_rti hCx gl_e3_21 (hQ 1 v a2 S2 P2 R2 E2 f hO hJ2 oC2 (fun h => absurd h (by decide)) (by decide)))
theorem gl_h4 {l : Launch} (hl : l.stackTraces = false) {L : Nat} {xs : Nat → Int32} {D : va_G} {dT : Nat → ClassId} {sp : Nat → Nat} {a : gj_A} {S : Nat → Nat → Int32} {P : Nat → Option Nat} {R : Nat → Int64} {E hM : gx_H} {f : Nat → Int64} {z : Int32} {kc ks : Nat} {Q : gx_R → Prop} (hJ : gj_C a S P R E) (oC : gx_okH (gc_h S P R E)) (h2 : hM.length = 26) (oM : gx_okH hM) (hkc : 1 ≤ kc) (hks : 6 ≤ ks)
    (hQ : ∀ k v a2 S2 P2 R2 E2 g, gj_text z a (k, v, a2) → gj_C a2 S2 P2 R2 E2 → gx_okH (gc_h S2 P2 R2 E2) → (k = 0 → g 0 = gl_cb v) → k ≤ 2 → Q (.inl (some (.int (nI k))), gl_h (gc_h S2 P2 R2 E2) hM g)) :
    gx_Mt l (gl_z4 L xs) D dT sp 300 (0, [some (.ref 0), some (.int z), some (.ref 43), none], [], gl_h (gc_h S P R E) hM f, kc, ks) Q := by
  refine gl_of (hh9 := gl_hh4) (by decide +kernel) rfl (fun x9 y9 e1 e2 e3 e4 hCx hex hf hlo => ?_)
  obtain ⟨p, l', e, Rm, s, m, args, below, meth, c⟩ := x9
  obtain ⟨D', dT', sp', A, n0, ad0⟩ := y9
  have e1 : l' = l := e1
  have e2 : D' = D := e2
  have e3 : dT' = dT := e3
  have e4 : sp' = sp := e4
  subst e1 e2 e3 e4
  have hf : Rm.frames = 320 := hf
  have hlo : Rm.locals = 21200 := hlo
  have hex : c.exceptionTable.toList = tableOf gl_hh4 := hex
  obtain ⟨fs, hcell⟩ := gl_cell0 S P R E hM f
  have hts : ∀ w ∈ gm_WS, w.before args s = true := fun w h => hCx.2.1 w (List.mem_cons_of_mem _ h)
  have hG0 : gl_G L xs sp' A s s.heap := hCx.2.2.2.2.2
  refine gl_bs.go hCx (gl_tb4_ok L xs) [] 8 (show gx_Gd (gl_z4 L xs) (p, l', e, Rm, s, m, args, below, meth, c) (D', dT', sp', A, n0, ad0) (gx_Fin (gl_z4 L xs) (p, l', e, Rm, s, m, args, below, meth, c) (D', dT', sp', A, n0, ad0) Q) (4, [some (.ref 0), some (.int z), some (.ref 43), none], [.int z, .ref 0, .int 0, .ref 43], gl_h (gc_h S P R E) hM f, kc, ks) from ?_)
  refine gl_VX (k := 1) (As := [.int z]) (st := [.int 0, .ref 43]) (a := 0) (d' := 200) (kc := kc) (ks := ks) (Cn := gm_R0) (T := gm_T0) (N := 8) (gl_Gok L xs) hCx (gm_good gc_k48) rfl rfl (gm_f _ gl_w1) (gm_f _ gl_w563) (gm_f _ gl_w564) (gm_f _ gl_w565) (by decide +kernel) gl_e4_4 ⟨rfl, by decide⟩ ⟨by omega, by omega⟩ hcell gl_i1.cat (by decide) ⟨Nat.le_refl _, Nat.le_refl _⟩ ?_
  refine gl_mtC hl rfl gl_i1 (gl_17 S P R E) h2 oC oM (gjc_text (d := 196) hJ hkc hks) ?_
  rintro r hC2 ⟨k, v, a2, S2, P2, R2, E2, hO, hJ2, e5, hr⟩ oC2 -
  have e5 : hC2 = gc_h S2 P2 R2 E2 := e5
  subst e5
  rcases hr with ⟨rfl, e6⟩ | ⟨hk, e6⟩
  · have e6 : r = .inl (some (.int v)) := e6
    subst e6
    have fin : ∀ w, w = gl_cb v → gx_Gd (gl_z4 L xs) (p, l', e, Rm, s, m, args, below, meth, c) (D', dT', sp', A, n0, ad0) (gx_Fin (gl_z4 L xs) (p, l', e, Rm, s, m, args, below, meth, c) (D', dT', sp', A, n0, ad0) Q) (15, [some (.ref 0), some (.int z), some (.ref 43), none], [.long w, .int 0, .ref 43], gl_h (gc_h S2 P2 R2 E2) hM f, kc - kc, ks - ks) := fun w hw => gl_str hCx gl_e4_15 (gl_17 S2 P2 R2 E2) h2 (gl_bs.go hCx (gl_tb4_ok L xs) [] 8 (show gx_Gd (gl_z4 L xs) (p, l', e, Rm, s, m, args, below, meth, c) (D', dT', sp', A, n0, ad0) (gx_Fin (gl_z4 L xs) (p, l', e, Rm, s, m, args, below, meth, c) (D', dT', sp', A, n0, ad0) Q) (23, [some (.ref 0), some (.int z), some (.ref 43), none], [.int 0], gl_h (gc_h S2 P2 R2 E2) hM (vp_updL f (0 : Int32).toNatClampNeg w), kc - kc, ks - ks) from gl_rti hCx gl_e4_23 (hQ 0 v a2 S2 P2 R2 E2 _ hO hJ2 oC2 (fun _ => (gl_up0 f w).trans hw) (by decide))))
    have st : gx_Gd (gl_z4 L xs) (p, l', e, Rm, s, m, args, below, meth, c) (D', dT', sp', A, n0, ad0) (gx_Fin (gl_z4 L xs) (p, l', e, Rm, s, m, args, below, meth, c) (D', dT', sp', A, n0, ad0) Q) (7, [some (.ref 0), some (.int z), some (.ref 43), none], [.int v, .int 0, .ref 43], gl_h (gc_h S2 P2 R2 E2) hM f, kc - kc, ks - ks) := gl_bs.go hCx (gl_tb4_ok L xs) [] 8 ⟨fun h0 => fin 0 (if_pos h0).symm, fun h0 => fin 1 (if_neg h0).symm⟩
    exact st
  · have hk1 : k = 1 := by
      rcases hk with h | h
      · exact h
      · exact absurd h (gj_text_k hO)
    subst hk1
    have e6 : r = .inr (gj_ia 1) := e6
    subst e6
    refine ⟨20, ⟨[], ⟨0, 16, 19, 13⟩, [], "java/lang/IllegalArgumentException", 3, hex, fun z hz => (nomatch hz), by decide, by decide, hts _ gl_w188, va_tabs rfl rfl (gl_n204 _ _ _ _ hG0), rfl, fun y p l e R s m args below meth c H locs cells slots Fin ls rest l1 hx hb hl hn k => lv_astore_n hx hb gl_e4_19 rfl hl hn rfl k⟩, ?_⟩
    exact gl_bs.go hCx (gl_tb4_ok L xs) [] 4 (show gx_Gd (gl_z4 L xs) (p, l', e, Rm, s, m, args, below, meth, c) (D', dT', sp', A, n0, ad0) (gx_Fin (gl_z4 L xs) (p, l', e, Rm, s, m, args, below, meth, c) (D', dT', sp', A, n0, ad0) Q) (21, [some (.ref 0), some (.int z), some (.ref 43), none], [.int 1], gl_h (gc_h S2 P2 R2 E2) hM f, kc - kc, ks - ks) from gl_rti hCx gl_e4_21 (hQ 1 v a2 S2 P2 R2 E2 f hO hJ2 oC2 (fun h => absurd h (by decide)) (by decide)))
theorem gl_h5 {l : Launch} (hl : l.stackTraces = false) {L : Nat} {xs : Nat → Int32} {D : va_G} {dT : Nat → ClassId} {sp : Nat → Nat} {a : gj_A} {S : Nat → Nat → Int32} {P : Nat → Option Nat} {R : Nat → Int64} {E hM : gx_H} {f : Nat → Int64} {z : Int32} {kc ks : Nat} {Q : gx_R → Prop} (hJ : gj_C a S P R E) (oC : gx_okH (gc_h S P R E)) (h2 : hM.length = 26) (oM : gx_okH hM) (hkc : 1 ≤ kc) (hks : 6 ≤ ks)
    (hQ : ∀ k v a2 S2 P2 R2 E2 g, gj_check z a (k, v, a2) → gj_C a2 S2 P2 R2 E2 → gx_okH (gc_h S2 P2 R2 E2) → (k = 0 → g 0 = v.toInt64) → k ≤ 2 → Q (.inl (some (.int (nI k))), gl_h (gc_h S2 P2 R2 E2) hM g)) :
    gx_Mt l (gl_z5 L xs) D dT sp 300 (0, [some (.ref 0), some (.int z), some (.ref 43), none], [], gl_h (gc_h S P R E) hM f, kc, ks) Q := by
  refine gl_of (hh9 := gl_hh5) (by decide +kernel) rfl (fun x9 y9 e1 e2 e3 e4 hCx hex hf hlo => ?_)
  obtain ⟨p, l', e, Rm, s, m, args, below, meth, c⟩ := x9
  obtain ⟨D', dT', sp', A, n0, ad0⟩ := y9
  have e1 : l' = l := e1
  have e2 : D' = D := e2
  have e3 : dT' = dT := e3
  have e4 : sp' = sp := e4
  subst e1 e2 e3 e4
  have hf : Rm.frames = 320 := hf
  have hlo : Rm.locals = 21200 := hlo
  have hex : c.exceptionTable.toList = tableOf gl_hh5 := hex
  obtain ⟨fs, hcell⟩ := gl_cell0 S P R E hM f
  have hts : ∀ w ∈ gm_WS, w.before args s = true := fun w h => hCx.2.1 w (List.mem_cons_of_mem _ h)
  have hG0 : gl_G L xs sp' A s s.heap := hCx.2.2.2.2.2
  refine gl_bs.go hCx (gl_tb5_ok L xs) [] 8 (show gx_Gd (gl_z5 L xs) (p, l', e, Rm, s, m, args, below, meth, c) (D', dT', sp', A, n0, ad0) (gx_Fin (gl_z5 L xs) (p, l', e, Rm, s, m, args, below, meth, c) (D', dT', sp', A, n0, ad0) Q) (4, [some (.ref 0), some (.int z), some (.ref 43), none], [.int z, .ref 0, .int 0, .ref 43], gl_h (gc_h S P R E) hM f, kc, ks) from ?_)
  refine gl_VX (k := 1) (As := [.int z]) (st := [.int 0, .ref 43]) (a := 0) (d' := 200) (kc := kc) (ks := ks) (Cn := gm_R0) (T := gm_T0) (N := 8) (gl_Gok L xs) hCx (gm_good gc_k49) rfl rfl (gm_f _ gl_w1) (gm_f _ gl_w570) (gm_f _ gl_w571) (gm_f _ gl_w572) (by decide +kernel) gl_e5_4 ⟨rfl, by decide⟩ ⟨by omega, by omega⟩ hcell gl_i1.cat (by decide) ⟨Nat.le_refl _, Nat.le_refl _⟩ ?_
  refine gl_mtC hl rfl gl_i1 (gl_17 S P R E) h2 oC oM (gjc_check (d := 91) hJ hkc hks) ?_
  rintro r hC2 ⟨k, v, a2, S2, P2, R2, E2, hO, hJ2, e5, hr⟩ oC2 -
  have e5 : hC2 = gc_h S2 P2 R2 E2 := e5
  subst e5
  rcases hr with ⟨rfl, e6⟩ | ⟨hk, e6⟩
  · have e6 : r = .inl (some (.int v)) := e6
    subst e6
    have fin : ∀ w, w = v.toInt64 → gx_Gd (gl_z5 L xs) (p, l', e, Rm, s, m, args, below, meth, c) (D', dT', sp', A, n0, ad0) (gx_Fin (gl_z5 L xs) (p, l', e, Rm, s, m, args, below, meth, c) (D', dT', sp', A, n0, ad0) Q) (8, [some (.ref 0), some (.int z), some (.ref 43), none], [.long w, .int 0, .ref 43], gl_h (gc_h S2 P2 R2 E2) hM f, kc - kc, ks - ks) := fun w hw => gl_str hCx gl_e5_8 (gl_17 S2 P2 R2 E2) h2 (gl_bs.go hCx (gl_tb5_ok L xs) [] 8 (show gx_Gd (gl_z5 L xs) (p, l', e, Rm, s, m, args, below, meth, c) (D', dT', sp', A, n0, ad0) (gx_Fin (gl_z5 L xs) (p, l', e, Rm, s, m, args, below, meth, c) (D', dT', sp', A, n0, ad0) Q) (16, [some (.ref 0), some (.int z), some (.ref 43), none], [.int 0], gl_h (gc_h S2 P2 R2 E2) hM (vp_updL f (0 : Int32).toNatClampNeg w), kc - kc, ks - ks) from gl_rti hCx gl_e5_16 (hQ 0 v a2 S2 P2 R2 E2 _ hO hJ2 oC2 (fun _ => (gl_up0 f w).trans hw) (by decide))))
    have st : gx_Gd (gl_z5 L xs) (p, l', e, Rm, s, m, args, below, meth, c) (D', dT', sp', A, n0, ad0) (gx_Fin (gl_z5 L xs) (p, l', e, Rm, s, m, args, below, meth, c) (D', dT', sp', A, n0, ad0) Q) (7, [some (.ref 0), some (.int z), some (.ref 43), none], [.int v, .int 0, .ref 43], gl_h (gc_h S2 P2 R2 E2) hM f, kc - kc, ks - ks) := gl_bs.go hCx (gl_tb5_ok L xs) [] 8 (fin _ rfl)
    exact st
  · have hk1 : k = 1 := by
      rcases hk with h | h
      · exact h
      · exact absurd h (gj_check_k hO)
    subst hk1
    have e6 : r = .inr (gj_io 1) := e6
    subst e6
    refine ⟨13, ⟨[], ⟨0, 9, 12, 22⟩, [], "java/lang/IndexOutOfBoundsException", 3, hex, fun z hz => (nomatch hz), by decide, by decide, hts _ gl_w536, va_tabs rfl rfl (gl_n546 _ _ _ _ hG0), rfl, fun y p l e R s m args below meth c H locs cells slots Fin ls rest l1 hx hb hl hn k => lv_astore_n hx hb gl_e5_12 rfl hl hn rfl k⟩, ?_⟩
    exact gl_bs.go hCx (gl_tb5_ok L xs) [] 4 (show gx_Gd (gl_z5 L xs) (p, l', e, Rm, s, m, args, below, meth, c) (D', dT', sp', A, n0, ad0) (gx_Fin (gl_z5 L xs) (p, l', e, Rm, s, m, args, below, meth, c) (D', dT', sp', A, n0, ad0) Q) (14, [some (.ref 0), some (.int z), some (.ref 43), none], [.int 1], gl_h (gc_h S2 P2 R2 E2) hM f, kc - kc, ks - ks) from gl_rti hCx gl_e5_14 (hQ 1 v a2 S2 P2 R2 E2 f hO hJ2 oC2 (fun h => absurd h (by decide)) (by decide)))
theorem gl_h6 {l : Launch} (hl : l.stackTraces = false) {L : Nat} {xs : Nat → Int32} {D : va_G} {dT : Nat → ClassId} {sp : Nat → Nat} {a : gj_A} {S : Nat → Nat → Int32} {P : Nat → Option Nat} {R : Nat → Int64} {E hM : gx_H} {f : Nat → Int64} {z1 z2 : Int32} {kc ks : Nat} {Q : gx_R → Prop} (hJ : gj_C a S P R E) (oC : gx_okH (gc_h S P R E)) (h2 : hM.length = 26) (oM : gx_okH hM) (hkc : 3 ≤ kc) (hks : 18 ≤ ks)
    (hQ : ∀ k v a2 S2 P2 R2 E2 g, gj_match z1 z2 a (k, v, a2) → gj_C a2 S2 P2 R2 E2 → gx_okH (gc_h S2 P2 R2 E2) → (k = 0 → g 0 = v.toInt64) → k ≤ 2 → Q (.inl (some (.int (nI k))), gl_h (gc_h S2 P2 R2 E2) hM g)) :
    gx_Mt l (gl_z6 L xs) D dT sp 300 (0, [some (.ref 0), some (.int z1), some (.int z2), some (.ref 43), none], [], gl_h (gc_h S P R E) hM f, kc, ks) Q := by
  refine gl_of (hh9 := gl_hh6) (by decide +kernel) rfl (fun x9 y9 e1 e2 e3 e4 hCx hex hf hlo => ?_)
  obtain ⟨p, l', e, Rm, s, m, args, below, meth, c⟩ := x9
  obtain ⟨D', dT', sp', A, n0, ad0⟩ := y9
  have e1 : l' = l := e1
  have e2 : D' = D := e2
  have e3 : dT' = dT := e3
  have e4 : sp' = sp := e4
  subst e1 e2 e3 e4
  have hf : Rm.frames = 320 := hf
  have hlo : Rm.locals = 21200 := hlo
  have hex : c.exceptionTable.toList = tableOf gl_hh6 := hex
  obtain ⟨fs, hcell⟩ := gl_cell0 S P R E hM f
  have hts : ∀ w ∈ gm_WS, w.before args s = true := fun w h => hCx.2.1 w (List.mem_cons_of_mem _ h)
  have hG0 : gl_G L xs sp' A s s.heap := hCx.2.2.2.2.2
  refine gl_bs.go hCx (gl_tb6_ok L xs) [] 8 (show gx_Gd (gl_z6 L xs) (p, l', e, Rm, s, m, args, below, meth, c) (D', dT', sp', A, n0, ad0) (gx_Fin (gl_z6 L xs) (p, l', e, Rm, s, m, args, below, meth, c) (D', dT', sp', A, n0, ad0) Q) (5, [some (.ref 0), some (.int z1), some (.int z2), some (.ref 43), none], [.int z2, .int z1, .ref 0, .int 0, .ref 43], gl_h (gc_h S P R E) hM f, kc, ks) from ?_)
  refine gl_VX (k := 2) (As := [.int z1, .int z2]) (st := [.int 0, .ref 43]) (a := 0) (d' := 200) (kc := kc) (ks := ks) (Cn := gm_R0) (T := gm_T0) (N := 8) (gl_Gok L xs) hCx (gm_good gc_k79) rfl rfl (gm_f _ gl_w1) (gm_f _ gl_w730) (gm_f _ gl_w731) (gm_f _ gl_w732) (by decide +kernel) gl_e6_5 ⟨rfl, by decide⟩ ⟨by omega, by omega⟩ hcell gl_i2.cat (by decide) ⟨Nat.le_refl _, Nat.le_refl _⟩ ?_
  refine gl_mtC hl rfl gl_i2 (gl_17 S P R E) h2 oC oM (gjc_match (d := 90) hJ hkc hks) ?_
  rintro r hC2 ⟨k, v, a2, S2, P2, R2, E2, hO, hJ2, e5, hr⟩ oC2 -
  have e5 : hC2 = gc_h S2 P2 R2 E2 := e5
  subst e5
  rcases hr with ⟨rfl, e6⟩ | ⟨hk, e6⟩
  · have e6 : r = .inl (some (.int v)) := e6
    subst e6
    have fin : ∀ w, w = v.toInt64 → gx_Gd (gl_z6 L xs) (p, l', e, Rm, s, m, args, below, meth, c) (D', dT', sp', A, n0, ad0) (gx_Fin (gl_z6 L xs) (p, l', e, Rm, s, m, args, below, meth, c) (D', dT', sp', A, n0, ad0) Q) (9, [some (.ref 0), some (.int z1), some (.int z2), some (.ref 43), none], [.long w, .int 0, .ref 43], gl_h (gc_h S2 P2 R2 E2) hM f, kc - kc, ks - ks) := fun w hw => gl_str hCx gl_e6_9 (gl_17 S2 P2 R2 E2) h2 (gl_bs.go hCx (gl_tb6_ok L xs) [] 8 (show gx_Gd (gl_z6 L xs) (p, l', e, Rm, s, m, args, below, meth, c) (D', dT', sp', A, n0, ad0) (gx_Fin (gl_z6 L xs) (p, l', e, Rm, s, m, args, below, meth, c) (D', dT', sp', A, n0, ad0) Q) (22, [some (.ref 0), some (.int z1), some (.int z2), some (.ref 43), none], [.int 0], gl_h (gc_h S2 P2 R2 E2) hM (vp_updL f (0 : Int32).toNatClampNeg w), kc - kc, ks - ks) from gl_rti hCx gl_e6_22 (hQ 0 v a2 S2 P2 R2 E2 _ hO hJ2 oC2 (fun _ => (gl_up0 f w).trans hw) (by decide))))
    have st : gx_Gd (gl_z6 L xs) (p, l', e, Rm, s, m, args, below, meth, c) (D', dT', sp', A, n0, ad0) (gx_Fin (gl_z6 L xs) (p, l', e, Rm, s, m, args, below, meth, c) (D', dT', sp', A, n0, ad0) Q) (8, [some (.ref 0), some (.int z1), some (.int z2), some (.ref 43), none], [.int v, .int 0, .ref 43], gl_h (gc_h S2 P2 R2 E2) hM f, kc - kc, ks - ks) := gl_bs.go hCx (gl_tb6_ok L xs) [] 8 (fin _ rfl)
    exact st
  · rcases hk with hk1 | hk1
    · subst hk1
      have e6 : r = .inr (gj_io 1) := e6
      subst e6
      refine ⟨15, ⟨[], ⟨0, 10, 13, 22⟩, [⟨0, 10, 17, 35⟩], "java/lang/IndexOutOfBoundsException", 4, hex, fun z hz => (nomatch hz), by decide, by decide, hts _ gl_w536, va_tabs rfl rfl (gl_n546 _ _ _ _ hG0), rfl, fun y p l e R s m args below meth c H locs cells slots Fin ls rest l1 hx hb hl hn k => lv_astore hx hb gl_e6_13 hl hn rfl k⟩, ?_⟩
      exact gl_bs.go hCx (gl_tb6_ok L xs) [] 4 (show gx_Gd (gl_z6 L xs) (p, l', e, Rm, s, m, args, below, meth, c) (D', dT', sp', A, n0, ad0) (gx_Fin (gl_z6 L xs) (p, l', e, Rm, s, m, args, below, meth, c) (D', dT', sp', A, n0, ad0) Q) (16, [some (.ref 0), some (.int z1), some (.int z2), some (.ref 43), none], [.int 1], gl_h (gc_h S2 P2 R2 E2) hM f, kc - kc, ks - ks) from gl_rti hCx gl_e6_16 (hQ 1 v a2 S2 P2 R2 E2 f hO hJ2 oC2 (fun h => absurd h (by decide)) (by decide)))
    · subst hk1
      have e6 : r = .inr (gj_io 2) := e6
      subst e6
      refine ⟨19, ⟨[⟨0, 10, 13, 22⟩], ⟨0, 10, 17, 35⟩, [], "java/lang/IllegalStateException", 4, hex, fun z hz => Or.inr (by
            rcases List.mem_cons.mp hz with e9 | e9
            · subst e9; exact ⟨by decide, "java/lang/IndexOutOfBoundsException", hts _ gl_w536, hG0.2⟩
            · cases e9), by decide, by decide, hts _ gl_w729, va_tabs rfl rfl (gl_n740 _ _ _ _ hG0), rfl, fun y p l e R s m args below meth c H locs cells slots Fin ls rest l1 hx hb hl hn k => lv_astore hx hb gl_e6_17 hl hn rfl k⟩, ?_⟩
      exact gl_bs.go hCx (gl_tb6_ok L xs) [] 4 (show gx_Gd (gl_z6 L xs) (p, l', e, Rm, s, m, args, below, meth, c) (D', dT', sp', A, n0, ad0) (gx_Fin (gl_z6 L xs) (p, l', e, Rm, s, m, args, below, meth, c) (D', dT', sp', A, n0, ad0) Q) (20, [some (.ref 0), some (.int z1), some (.int z2), some (.ref 43), none], [.int 2], gl_h (gc_h S2 P2 R2 E2) hM f, kc - kc, ks - ks) from gl_rti hCx gl_e6_20 (hQ 2 v a2 S2 P2 R2 E2 f hO hJ2 oC2 (fun h => absurd h (by decide)) (by decide)))
theorem gl_h7 {l : Launch} (hl : l.stackTraces = false) {L : Nat} {xs : Nat → Int32} {D : va_G} {dT : Nat → ClassId} {sp : Nat → Nat} {a : gj_A} {S : Nat → Nat → Int32} {P : Nat → Option Nat} {R : Nat → Int64} {E hM : gx_H} {f : Nat → Int64} {z : Int32} {kc ks : Nat} {Q : gx_R → Prop} (hJ : gj_C a S P R E) (oC : gx_okH (gc_h S P R E)) (h2 : hM.length = 26) (oM : gx_okH hM) (hkc : 3 ≤ kc) (hks : 18 ≤ ks)
    (hQ : ∀ k v a2 S2 P2 R2 E2 g, gj_find z a (k, v, a2) → gj_C a2 S2 P2 R2 E2 → gx_okH (gc_h S2 P2 R2 E2) → (k = 0 → g 0 = v.toInt64) → k ≤ 2 → Q (.inl (some (.int (nI k))), gl_h (gc_h S2 P2 R2 E2) hM g)) :
    gx_Mt l (gl_z7 L xs) D dT sp 300 (0, [some (.ref 0), some (.int z), some (.ref 43), none], [], gl_h (gc_h S P R E) hM f, kc, ks) Q := by
  refine gl_of (hh9 := gl_hh7) (by decide +kernel) rfl (fun x9 y9 e1 e2 e3 e4 hCx hex hf hlo => ?_)
  obtain ⟨p, l', e, Rm, s, m, args, below, meth, c⟩ := x9
  obtain ⟨D', dT', sp', A, n0, ad0⟩ := y9
  have e1 : l' = l := e1
  have e2 : D' = D := e2
  have e3 : dT' = dT := e3
  have e4 : sp' = sp := e4
  subst e1 e2 e3 e4
  have hf : Rm.frames = 320 := hf
  have hlo : Rm.locals = 21200 := hlo
  have hex : c.exceptionTable.toList = tableOf gl_hh7 := hex
  obtain ⟨fs, hcell⟩ := gl_cell0 S P R E hM f
  have hts : ∀ w ∈ gm_WS, w.before args s = true := fun w h => hCx.2.1 w (List.mem_cons_of_mem _ h)
  have hG0 : gl_G L xs sp' A s s.heap := hCx.2.2.2.2.2
  refine gl_bs.go hCx (gl_tb7_ok L xs) [] 8 (show gx_Gd (gl_z7 L xs) (p, l', e, Rm, s, m, args, below, meth, c) (D', dT', sp', A, n0, ad0) (gx_Fin (gl_z7 L xs) (p, l', e, Rm, s, m, args, below, meth, c) (D', dT', sp', A, n0, ad0) Q) (4, [some (.ref 0), some (.int z), some (.ref 43), none], [.int z, .ref 0, .int 0, .ref 43], gl_h (gc_h S P R E) hM f, kc, ks) from ?_)
  refine gl_VX (k := 1) (As := [.int z]) (st := [.int 0, .ref 43]) (a := 0) (d' := 200) (kc := kc) (ks := ks) (Cn := gm_R0) (T := gm_T0) (N := 8) (gl_Gok L xs) hCx (gm_good gc_k100) rfl rfl (gm_f _ gl_w1) (gm_f _ gl_w841) (gm_f _ gl_w842) (gm_f _ gl_w843) (by decide +kernel) gl_e7_4 ⟨rfl, by decide⟩ ⟨by omega, by omega⟩ hcell gl_i1.cat (by decide) ⟨Nat.le_refl _, Nat.le_refl _⟩ ?_
  refine gl_mtC hl rfl gl_i1 (gl_17 S P R E) h2 oC oM (gjc_find (d := 90) hJ hkc hks) ?_
  rintro r hC2 ⟨k, v, a2, S2, P2, R2, E2, hO, hJ2, e5, hr⟩ oC2 -
  have e5 : hC2 = gc_h S2 P2 R2 E2 := e5
  subst e5
  rcases hr with ⟨rfl, e6⟩ | ⟨hk, e6⟩
  · have e6 : r = .inl (some (.int v)) := e6
    subst e6
    have fin : ∀ w, w = v.toInt64 → gx_Gd (gl_z7 L xs) (p, l', e, Rm, s, m, args, below, meth, c) (D', dT', sp', A, n0, ad0) (gx_Fin (gl_z7 L xs) (p, l', e, Rm, s, m, args, below, meth, c) (D', dT', sp', A, n0, ad0) Q) (8, [some (.ref 0), some (.int z), some (.ref 43), none], [.long w, .int 0, .ref 43], gl_h (gc_h S2 P2 R2 E2) hM f, kc - kc, ks - ks) := fun w hw => gl_str hCx gl_e7_8 (gl_17 S2 P2 R2 E2) h2 (gl_bs.go hCx (gl_tb7_ok L xs) [] 8 (show gx_Gd (gl_z7 L xs) (p, l', e, Rm, s, m, args, below, meth, c) (D', dT', sp', A, n0, ad0) (gx_Fin (gl_z7 L xs) (p, l', e, Rm, s, m, args, below, meth, c) (D', dT', sp', A, n0, ad0) Q) (19, [some (.ref 0), some (.int z), some (.ref 43), none], [.int 0], gl_h (gc_h S2 P2 R2 E2) hM (vp_updL f (0 : Int32).toNatClampNeg w), kc - kc, ks - ks) from gl_rti hCx gl_e7_19 (hQ 0 v a2 S2 P2 R2 E2 _ hO hJ2 oC2 (fun _ => (gl_up0 f w).trans hw) (by decide))))
    have st : gx_Gd (gl_z7 L xs) (p, l', e, Rm, s, m, args, below, meth, c) (D', dT', sp', A, n0, ad0) (gx_Fin (gl_z7 L xs) (p, l', e, Rm, s, m, args, below, meth, c) (D', dT', sp', A, n0, ad0) Q) (7, [some (.ref 0), some (.int z), some (.ref 43), none], [.int v, .int 0, .ref 43], gl_h (gc_h S2 P2 R2 E2) hM f, kc - kc, ks - ks) := gl_bs.go hCx (gl_tb7_ok L xs) [] 8 (fin _ rfl)
    exact st
  · rcases hk with hk1 | hk1
    · subst hk1
      have e6 : r = .inr (gj_io 1) := e6
      subst e6
      refine ⟨13, ⟨[], ⟨0, 9, 12, 22⟩, [⟨0, 9, 15, 35⟩], "java/lang/IndexOutOfBoundsException", 3, hex, fun z hz => (nomatch hz), by decide, by decide, hts _ gl_w536, va_tabs rfl rfl (gl_n546 _ _ _ _ hG0), rfl, fun y p l e R s m args below meth c H locs cells slots Fin ls rest l1 hx hb hl hn k => lv_astore_n hx hb gl_e7_12 rfl hl hn rfl k⟩, ?_⟩
      exact gl_bs.go hCx (gl_tb7_ok L xs) [] 4 (show gx_Gd (gl_z7 L xs) (p, l', e, Rm, s, m, args, below, meth, c) (D', dT', sp', A, n0, ad0) (gx_Fin (gl_z7 L xs) (p, l', e, Rm, s, m, args, below, meth, c) (D', dT', sp', A, n0, ad0) Q) (14, [some (.ref 0), some (.int z), some (.ref 43), none], [.int 1], gl_h (gc_h S2 P2 R2 E2) hM f, kc - kc, ks - ks) from gl_rti hCx gl_e7_14 (hQ 1 v a2 S2 P2 R2 E2 f hO hJ2 oC2 (fun h => absurd h (by decide)) (by decide)))
    · subst hk1
      have e6 : r = .inr (gj_io 2) := e6
      subst e6
      refine ⟨16, ⟨[⟨0, 9, 12, 22⟩], ⟨0, 9, 15, 35⟩, [], "java/lang/IllegalStateException", 3, hex, fun z hz => Or.inr (by
            rcases List.mem_cons.mp hz with e9 | e9
            · subst e9; exact ⟨by decide, "java/lang/IndexOutOfBoundsException", hts _ gl_w536, hG0.2⟩
            · cases e9), by decide, by decide, hts _ gl_w729, va_tabs rfl rfl (gl_n740 _ _ _ _ hG0), rfl, fun y p l e R s m args below meth c H locs cells slots Fin ls rest l1 hx hb hl hn k => lv_astore_n hx hb gl_e7_15 rfl hl hn rfl k⟩, ?_⟩
      exact gl_bs.go hCx (gl_tb7_ok L xs) [] 4 (show gx_Gd (gl_z7 L xs) (p, l', e, Rm, s, m, args, below, meth, c) (D', dT', sp', A, n0, ad0) (gx_Fin (gl_z7 L xs) (p, l', e, Rm, s, m, args, below, meth, c) (D', dT', sp', A, n0, ad0) Q) (17, [some (.ref 0), some (.int z), some (.ref 43), none], [.int 2], gl_h (gc_h S2 P2 R2 E2) hM f, kc - kc, ks - ks) from gl_rti hCx gl_e7_17 (hQ 2 v a2 S2 P2 R2 E2 f hO hJ2 oC2 (fun h => absurd h (by decide)) (by decide)))
theorem gl_h8 {l : Launch} (hl : l.stackTraces = false) {L : Nat} {xs : Nat → Int32} {D : va_G} {dT : Nat → ClassId} {sp : Nat → Nat} {a : gj_A} {S : Nat → Nat → Int32} {P : Nat → Option Nat} {R : Nat → Int64} {E hM : gx_H} {f : Nat → Int64} {z1 z2 : Int32} {kc ks : Nat} {Q : gx_R → Prop} (hJ : gj_C a S P R E) (oC : gx_okH (gc_h S P R E)) (h2 : hM.length = 26) (oM : gx_okH hM) (hkc : 1 ≤ kc) (hks : 6 ≤ ks)
    (hQ : ∀ k v a2 S2 P2 R2 E2 g, gj_capture z1 z2 a (k, v, a2) → gj_C a2 S2 P2 R2 E2 → gx_okH (gc_h S2 P2 R2 E2) → (k = 0 → g 0 = v.toInt64) → k ≤ 2 → Q (.inl (some (.int (nI k))), gl_h (gc_h S2 P2 R2 E2) hM g)) :
    gx_Mt l (gl_z8 L xs) D dT sp 300 (0, [some (.ref 0), some (.int z1), some (.int z2), some (.ref 43), none], [], gl_h (gc_h S P R E) hM f, kc, ks) Q := by
  refine gl_of (hh9 := gl_hh8) (by decide +kernel) rfl (fun x9 y9 e1 e2 e3 e4 hCx hex hf hlo => ?_)
  obtain ⟨p, l', e, Rm, s, m, args, below, meth, c⟩ := x9
  obtain ⟨D', dT', sp', A, n0, ad0⟩ := y9
  have e1 : l' = l := e1
  have e2 : D' = D := e2
  have e3 : dT' = dT := e3
  have e4 : sp' = sp := e4
  subst e1 e2 e3 e4
  have hf : Rm.frames = 320 := hf
  have hlo : Rm.locals = 21200 := hlo
  have hex : c.exceptionTable.toList = tableOf gl_hh8 := hex
  obtain ⟨fs, hcell⟩ := gl_cell0 S P R E hM f
  have hts : ∀ w ∈ gm_WS, w.before args s = true := fun w h => hCx.2.1 w (List.mem_cons_of_mem _ h)
  have hG0 : gl_G L xs sp' A s s.heap := hCx.2.2.2.2.2
  refine gl_bs.go hCx (gl_tb8_ok L xs) [] 8 (show gx_Gd (gl_z8 L xs) (p, l', e, Rm, s, m, args, below, meth, c) (D', dT', sp', A, n0, ad0) (gx_Fin (gl_z8 L xs) (p, l', e, Rm, s, m, args, below, meth, c) (D', dT', sp', A, n0, ad0) Q) (5, [some (.ref 0), some (.int z1), some (.int z2), some (.ref 43), none], [.int z2, .int z1, .ref 0, .int 0, .ref 43], gl_h (gc_h S P R E) hM f, kc, ks) from ?_)
  refine gl_VX (k := 2) (As := [.int z1, .int z2]) (st := [.int 0, .ref 43]) (a := 0) (d' := 200) (kc := kc) (ks := ks) (Cn := gm_R0) (T := gm_T0) (N := 8) (gl_Gok L xs) hCx (gm_good gc_k101) rfl rfl (gm_f _ gl_w1) (gm_f _ gl_w848) (gm_f _ gl_w849) (gm_f _ gl_w850) (by decide +kernel) gl_e8_5 ⟨rfl, by decide⟩ ⟨by omega, by omega⟩ hcell gl_i2.cat (by decide) ⟨Nat.le_refl _, Nat.le_refl _⟩ ?_
  refine gl_mtC hl rfl gl_i2 (gl_17 S P R E) h2 oC oM (gjc_capture (d := 197) hJ hkc hks) ?_
  rintro r hC2 ⟨k, v, a2, S2, P2, R2, E2, hO, hJ2, e5, hr⟩ oC2 -
  have e5 : hC2 = gc_h S2 P2 R2 E2 := e5
  subst e5
  rcases hr with ⟨rfl, e6⟩ | ⟨hk, e6⟩
  · have e6 : r = .inl (some (.int v)) := e6
    subst e6
    have fin : ∀ w, w = v.toInt64 → gx_Gd (gl_z8 L xs) (p, l', e, Rm, s, m, args, below, meth, c) (D', dT', sp', A, n0, ad0) (gx_Fin (gl_z8 L xs) (p, l', e, Rm, s, m, args, below, meth, c) (D', dT', sp', A, n0, ad0) Q) (9, [some (.ref 0), some (.int z1), some (.int z2), some (.ref 43), none], [.long w, .int 0, .ref 43], gl_h (gc_h S2 P2 R2 E2) hM f, kc - kc, ks - ks) := fun w hw => gl_str hCx gl_e8_9 (gl_17 S2 P2 R2 E2) h2 (gl_bs.go hCx (gl_tb8_ok L xs) [] 8 (show gx_Gd (gl_z8 L xs) (p, l', e, Rm, s, m, args, below, meth, c) (D', dT', sp', A, n0, ad0) (gx_Fin (gl_z8 L xs) (p, l', e, Rm, s, m, args, below, meth, c) (D', dT', sp', A, n0, ad0) Q) (18, [some (.ref 0), some (.int z1), some (.int z2), some (.ref 43), none], [.int 0], gl_h (gc_h S2 P2 R2 E2) hM (vp_updL f (0 : Int32).toNatClampNeg w), kc - kc, ks - ks) from gl_rti hCx gl_e8_18 (hQ 0 v a2 S2 P2 R2 E2 _ hO hJ2 oC2 (fun _ => (gl_up0 f w).trans hw) (by decide))))
    have st : gx_Gd (gl_z8 L xs) (p, l', e, Rm, s, m, args, below, meth, c) (D', dT', sp', A, n0, ad0) (gx_Fin (gl_z8 L xs) (p, l', e, Rm, s, m, args, below, meth, c) (D', dT', sp', A, n0, ad0) Q) (8, [some (.ref 0), some (.int z1), some (.int z2), some (.ref 43), none], [.int v, .int 0, .ref 43], gl_h (gc_h S2 P2 R2 E2) hM f, kc - kc, ks - ks) := gl_bs.go hCx (gl_tb8_ok L xs) [] 8 (fin _ rfl)
    exact st
  · have hk1 : k = 1 := by
      rcases hk with h | h
      · exact h
      · exact absurd h (gj_capture_k hO)
    subst hk1
    have e6 : r = .inr (gj_io 1) := e6
    subst e6
    refine ⟨15, ⟨[], ⟨0, 10, 13, 22⟩, [], "java/lang/IndexOutOfBoundsException", 4, hex, fun z hz => (nomatch hz), by decide, by decide, hts _ gl_w536, va_tabs rfl rfl (gl_n546 _ _ _ _ hG0), rfl, fun y p l e R s m args below meth c H locs cells slots Fin ls rest l1 hx hb hl hn k => lv_astore hx hb gl_e8_13 hl hn rfl k⟩, ?_⟩
    exact gl_bs.go hCx (gl_tb8_ok L xs) [] 4 (show gx_Gd (gl_z8 L xs) (p, l', e, Rm, s, m, args, below, meth, c) (D', dT', sp', A, n0, ad0) (gx_Fin (gl_z8 L xs) (p, l', e, Rm, s, m, args, below, meth, c) (D', dT', sp', A, n0, ad0) Q) (16, [some (.ref 0), some (.int z1), some (.int z2), some (.ref 43), none], [.int 1], gl_h (gc_h S2 P2 R2 E2) hM f, kc - kc, ks - ks) from gl_rti hCx gl_e8_16 (hQ 1 v a2 S2 P2 R2 E2 f hO hJ2 oC2 (fun h => absurd h (by decide)) (by decide)))
