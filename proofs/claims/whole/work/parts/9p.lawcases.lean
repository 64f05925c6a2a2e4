/-! The cases of the law's switch. Written by wip/tools/lawcases.py. -/
/-- room that n more calls may take -/
def gl_W (a : gj_A) (n : Nat) : Nat := 710 * n + (if a.2.2.1.1 = 0 then 0 else 700)
def gl_V9 (a : gj_A) (n : Nat) : Nat := 5000 * n + (if a.2.2.1.1 = 0 then 0 else 4500)
theorem gl_Wle (a : gj_A) (n : Nat) : gl_W a n ≤ 710 * n + 700 ∧ gl_V9 a n ≤ 5000 * n + 4500 := by
  unfold gl_W gl_V9
  constructor <;> split <;> omega
theorem gl_Wge (a : gj_A) (n : Nat) : 710 * n + 710 ≤ gl_W a (n + 1) ∧ 5000 * n + 5000 ≤ gl_V9 a (n + 1) := by
  unfold gl_W gl_V9
  constructor <;> omega
theorem gj_define_n {a a2 : gj_A} {k : Nat} {v : Int32} (h : gj_define a (k, v, a2)) : a2.2.2.1.1 = 0 := by
  obtain ⟨T, ch, ⟨nn, c⟩, tx, m⟩ := a
  cases hc : gq_line c nn with
  | none =>
    simp only [gj_define, hc] at h
    rw [show a2 = _ from congrArg (fun q : gj_O => q.2.2) h]
  | some rt =>
    simp only [gj_define, hc] at h
    rw [show a2 = _ from congrArg (fun q : gj_O => q.2.2) h]
theorem gl_k0 {k : Nat} (h : k ≤ 2) (h0 : nI k = 0) : k = 0 := by
  have aux : ∀ k, k < 3 → nI k = 0 → k = 0 := by decide
  exact aux k (by omega) h0
theorem gl_cmp0 (z : Int64) : lg_cmp z z = 0 := by
  unfold lg_cmp
  rw [if_neg (by simp [Int64.lt_irrefl]), if_pos rfl]
theorem gl_cb0 {v : Int32} (h : v = 0) : lg_cmp (gl_cb v) 0 = 0 := by
  rw [show gl_cb v = 0 from if_pos h]; exact gl_cmp0 0
theorem gl_cb1 {v : Int32} (h : ¬ v = 0) : lg_cmp (gl_cb v) 1 = 0 := by
  rw [show gl_cb v = 1 from if_neg h]; exact gl_cmp0 1
theorem gl_in {L i : Nat} (hL : L ≤ 1536) (h : 3 * i + 2 < L) : vp_in (nI (3 * i)) L ∧ vp_in (nI (3 * i) + 1) L ∧ vp_in (nI (3 * i) + 2) L := by
  have e1 : nI (3 * i) + 1 = nI (3 * i + 1) := (Int32.ofNat_add (3 * i) 1).symm
  have e2 : nI (3 * i) + 2 = nI (3 * i + 2) := (Int32.ofNat_add (3 * i) 2).symm
  rw [e1, e2]
  exact ⟨vp_in_nI (by omega) (by omega), vp_in_nI (by omega) (by omega), vp_in_nI (by omega) (by omega)⟩
section GLU
variable {p : Program} {l : Launch} {e : Env} {Rm : Room} {s : State} {m : MethodId} {args : Array Value} {below : List Frame} {meth : Method} {c : Code} {D : va_G} {dT : Nat → ClassId} {sp : Nat → Nat} {A : Nat → Prop} {n0 : Nat} {ad0 : Nat → Nat} {Fin : State → Prop} {L : Nat} {xs : Nat → Int32}
variable {bc bs i n : Nat} {a : gj_A} {S S1 : Nat → Nat → Int32} {P : Nat → Option Nat} {R : Nat → Int64} {E : gx_H} {f : Nat → Int64} {o5 o6 : Option Value}
theorem gl_case0 (hl : l.stackTraces = false) (hCx : gx_Cx (gl_zz L xs) (p, l, e, Rm, s, m, args, below, meth, c) (D, dT, sp, A, n0, ad0)) (hR : 1000 ≤ Rm.frames ∧ 80000 ≤ Rm.locals) (hL : L ≤ 1536) (hi : 3 * i + 2 < L) (hJ : gj_C a S P R E) (hM : gj_M a S1) (oC : gx_okH (gc_h S P R E)) (oM : gx_okH (gm_h S1)) (hb1 : gl_W a (n + 1) ≤ bc) (hb2 : gl_V9 a (n + 1) ≤ bs)
    (hk : ∀ a2 S2 P2 R2 E2 S3 g o5 o6 bc2 bs2, gl_W a2 n ≤ bc2 → gl_V9 a2 n ≤ bs2 → gj_C a2 S2 P2 R2 E2 → gj_M a2 S3 → gx_okH (gc_h S2 P2 R2 E2) → gx_okH (gm_h S3) → gx_Gd (gl_zz L xs) (p, l, e, Rm, s, m, args, below, meth, c) (D, dT, sp, A, n0, ad0) Fin (674, [some (.retAddr 0), some (.ref 0), some (.ref 17), some (.ref 43), some (.int (nI (3 * i))), o5, o6], [], gl_h (gc_h S2 P2 R2 E2) (gm_h S3) g, bc2, bs2)) :
    gx_Gd (gl_zz L xs) (p, l, e, Rm, s, m, args, below, meth, c) (D, dT, sp, A, n0, ad0) Fin (104, [some (.retAddr 0), some (.ref 0), some (.ref 17), some (.ref 43), some (.int (nI (3 * i))), o5, o6], [], gl_h (gc_h S P R E) (gm_h S1) f, bc, bs) := by
  have hin := gl_in hL hi
  have w1 := gl_Wge a n
  refine gl_bs.go hCx (gl_tc0_ok L xs) [674] 40 ⟨hin.2.1, (show gx_Gd (gl_zz L xs) (p, l, e, Rm, s, m, args, below, meth, c) (D, dT, sp, A, n0, ad0) Fin (112, [some (.retAddr 0), some (.ref 0), some (.ref 17), some (.ref 43), some (.int (nI (3 * i))), o5, o6], [.ref 43, .int (xs (nI (3 * i) + 1).toNatClampNeg), .ref 0], gl_h (gc_h S P R E) (gm_h S1) f, bc, bs) from ?_)⟩
  refine gl_lh_type (kc := 1) (ks := 6) hl hCx hR gl_e0_112 rfl oC oM (by decide) hJ (Nat.le_refl _) (Nat.le_refl _) ⟨by omega, by omega⟩ ?_
  intro k v a2 S2 P2 R2 E2 g hO hJ2 oC2 hg hk2
  refine gl_bs.go hCx (gl_tc0_ok L xs) [674] 40 ⟨hin.2.1, (show gx_Gd (gl_zz L xs) (p, l, e, Rm, s, m, args, below, meth, c) (D, dT, sp, A, n0, ad0) Fin (124, [some (.retAddr 0), some (.ref 0), some (.ref 17), some (.ref 43), some (.int (nI (3 * i))), some (.int (nI k)), o6], [.int (xs (nI (3 * i) + 1).toNatClampNeg), .ref 17], gl_h (gc_h S2 P2 R2 E2) (gm_h S1) g, bc - 1, bs - 6) from ?_)⟩
  refine gl_lm_type hCx hR gl_e0_124 (gl_17 S2 P2 R2 E2) oC2 oM (by decide) hM ?_
  intro k' v1 a3 S3 v' hO' hJ3 h0 oM3 hv
  have eo := gj_type_det hO hO'
  cases eo
  refine gl_bs.go hCx (gl_tc0_ok L xs) [674] 40 (show gx_Gd (gl_zz L xs) (p, l, e, Rm, s, m, args, below, meth, c) (D, dT, sp, A, n0, ad0) Fin (130, [some (.retAddr 0), some (.ref 0), some (.ref 17), some (.ref 43), some (.int (nI (3 * i))), some (.int (nI k)), some (.int v')], [.ref 17], gl_h (gc_h S2 P2 R2 E2) (gm_h S3) g, bc - 1, bs - 6) from ?_)
  refine gl_lm_thrown hCx hR gl_e0_130 (gl_17 S2 P2 R2 E2) oC2 oM3 (by decide) ?_
  have w2 := gl_Wle a2 n
  have fin := hk a2 S2 P2 R2 E2 S3 g (some (.int (nI k))) (some (.int v')) (bc - 1) (bs - 6) (by omega) (by omega) hJ2 hJ3 oC2 oM3
  refine gl_bs.go hCx (gl_tc0_ok L xs) [674] 40 ⟨fun _ => ⟨fun _ => fin, fun hk0 => (show gx_Gd (gl_zz L xs) (p, l, e, Rm, s, m, args, below, meth, c) (D, dT, sp, A, n0, ad0) Fin (147, [some (.retAddr 0), some (.ref 0), some (.ref 17), some (.ref 43), some (.int (nI (3 * i))), some (.int (nI k)), some (.int v')], [.int 0, .ref 43], gl_h (gc_h S2 P2 R2 E2) (gm_h S3) g, bc - 1, bs - 6) from ?_)⟩, fun h => absurd h0 h⟩
  have hk9 := gl_k0 hk2 hk0
  have hv9 := hv hk9
  have hg9 := hg hk9
  subst hv9
  refine gl_lod hCx gl_e0_147 (gl_17 S2 P2 R2 E2) rfl ?_
  rw [hg9]
  exact gl_bs.go hCx (gl_tc0_ok L xs) [674] 40 ⟨fun h => ⟨fun _ => fin, fun h9 => absurd (gl_cb0 h) h9⟩, fun h => ⟨fun _ => fin, fun h9 => absurd (gl_cb1 h) h9⟩⟩
theorem gl_case1 (hl : l.stackTraces = false) (hCx : gx_Cx (gl_zz L xs) (p, l, e, Rm, s, m, args, below, meth, c) (D, dT, sp, A, n0, ad0)) (hR : 1000 ≤ Rm.frames ∧ 80000 ≤ Rm.locals) (hL : L ≤ 1536) (hi : 3 * i + 2 < L) (hJ : gj_C a S P R E) (hM : gj_M a S1) (oC : gx_okH (gc_h S P R E)) (oM : gx_okH (gm_h S1)) (hb1 : gl_W a (n + 1) ≤ bc) (hb2 : gl_V9 a (n + 1) ≤ bs)
    (hk : ∀ a2 S2 P2 R2 E2 S3 g o5 o6 bc2 bs2, gl_W a2 n ≤ bc2 → gl_V9 a2 n ≤ bs2 → gj_C a2 S2 P2 R2 E2 → gj_M a2 S3 → gx_okH (gc_h S2 P2 R2 E2) → gx_okH (gm_h S3) → gx_Gd (gl_zz L xs) (p, l, e, Rm, s, m, args, below, meth, c) (D, dT, sp, A, n0, ad0) Fin (674, [some (.retAddr 0), some (.ref 0), some (.ref 17), some (.ref 43), some (.int (nI (3 * i))), o5, o6], [], gl_h (gc_h S2 P2 R2 E2) (gm_h S3) g, bc2, bs2)) :
    gx_Gd (gl_zz L xs) (p, l, e, Rm, s, m, args, below, meth, c) (D, dT, sp, A, n0, ad0) Fin (167, [some (.retAddr 0), some (.ref 0), some (.ref 17), some (.ref 43), some (.int (nI (3 * i))), o5, o6], [], gl_h (gc_h S P R E) (gm_h S1) f, bc, bs) := by
  have hin := gl_in hL hi
  have w1 := gl_Wge a n
  refine gl_bs.go hCx (gl_tc1_ok L xs) [674] 40 (show gx_Gd (gl_zz L xs) (p, l, e, Rm, s, m, args, below, meth, c) (D, dT, sp, A, n0, ad0) Fin (169, [some (.retAddr 0), some (.ref 0), some (.ref 17), some (.ref 43), some (.int (nI (3 * i))), o5, o6], [.ref 43, .ref 0], gl_h (gc_h S P R E) (gm_h S1) f, bc, bs) from ?_)
  refine gl_lh_define (kc := (if a.2.2.1.1 = 0 then 1 else 1300)) (ks := (if a.2.2.1.1 = 0 then 6 else 9000)) hl hCx hR gl_e0_169 rfl oC oM (by decide) hJ (Nat.le_refl _) (Nat.le_refl _) ⟨by unfold gl_W at hb1; split at hb1 <;> (rename_i h9; first | rw [if_pos h9] | rw [if_neg h9]) <;> omega, by unfold gl_V9 at hb2; split at hb2 <;> (rename_i h9; first | rw [if_pos h9] | rw [if_neg h9]) <;> omega⟩ ?_
  intro k v a2 S2 P2 R2 E2 g hO hJ2 oC2 hg hk2
  refine gl_bs.go hCx (gl_tc1_ok L xs) [674] 40 (show gx_Gd (gl_zz L xs) (p, l, e, Rm, s, m, args, below, meth, c) (D, dT, sp, A, n0, ad0) Fin (175, [some (.retAddr 0), some (.ref 0), some (.ref 17), some (.ref 43), some (.int (nI (3 * i))), some (.int (nI k)), o6], [.ref 17], gl_h (gc_h S2 P2 R2 E2) (gm_h S1) g, bc - (if a.2.2.1.1 = 0 then 1 else 1300), bs - (if a.2.2.1.1 = 0 then 6 else 9000)) from ?_)
  refine gl_lm_define hCx hR gl_e0_175 (gl_17 S2 P2 R2 E2) oC2 oM (by decide) hM ?_
  intro k' v1 a3 S3 v' hO' hJ3 h0 oM3 hv
  have eo := gj_define_det hO hO'
  cases eo
  refine gl_bs.go hCx (gl_tc1_ok L xs) [674] 40 (show gx_Gd (gl_zz L xs) (p, l, e, Rm, s, m, args, below, meth, c) (D, dT, sp, A, n0, ad0) Fin (181, [some (.retAddr 0), some (.ref 0), some (.ref 17), some (.ref 43), some (.int (nI (3 * i))), some (.int (nI k)), some (.int v')], [.ref 17], gl_h (gc_h S2 P2 R2 E2) (gm_h S3) g, bc - (if a.2.2.1.1 = 0 then 1 else 1300), bs - (if a.2.2.1.1 = 0 then 6 else 9000)) from ?_)
  refine gl_lm_thrown hCx hR gl_e0_181 (gl_17 S2 P2 R2 E2) oC2 oM3 (by decide) ?_
  have fin := hk a2 S2 P2 R2 E2 S3 g (some (.int (nI k))) (some (.int v')) (bc - (if a.2.2.1.1 = 0 then 1 else 1300)) (bs - (if a.2.2.1.1 = 0 then 6 else 9000)) (by
    have q := gj_define_n hO
    unfold gl_W at hb1 ⊢
    rw [if_pos q]
    split at hb1 <;> (rename_i h9; first | rw [if_pos h9] | rw [if_neg h9]) <;> omega) (by
    have q := gj_define_n hO
    unfold gl_V9 at hb2 ⊢
    rw [if_pos q]
    split at hb2 <;> (rename_i h9; first | rw [if_pos h9] | rw [if_neg h9]) <;> omega) hJ2 hJ3 oC2 oM3
  refine gl_bs.go hCx (gl_tc1_ok L xs) [674] 40 ⟨fun _ => ⟨fun _ => fin, fun hk0 => (show gx_Gd (gl_zz L xs) (p, l, e, Rm, s, m, args, below, meth, c) (D, dT, sp, A, n0, ad0) Fin (198, [some (.retAddr 0), some (.ref 0), some (.ref 17), some (.ref 43), some (.int (nI (3 * i))), some (.int (nI k)), some (.int v')], [.int 0, .ref 43], gl_h (gc_h S2 P2 R2 E2) (gm_h S3) g, bc - (if a.2.2.1.1 = 0 then 1 else 1300), bs - (if a.2.2.1.1 = 0 then 6 else 9000)) from ?_)⟩, fun h => absurd h0 h⟩
  have hk9 := gl_k0 hk2 hk0
  have hv9 := hv hk9
  have hg9 := hg hk9
  subst hv9
  refine gl_lod hCx gl_e0_198 (gl_17 S2 P2 R2 E2) rfl ?_
  rw [hg9]
  exact gl_bs.go hCx (gl_tc1_ok L xs) [674] 40 ⟨fun _ => fin, fun h9 => absurd (gl_cmp0 _) h9⟩
theorem gl_case2 (hl : l.stackTraces = false) (hCx : gx_Cx (gl_zz L xs) (p, l, e, Rm, s, m, args, below, meth, c) (D, dT, sp, A, n0, ad0)) (hR : 1000 ≤ Rm.frames ∧ 80000 ≤ Rm.locals) (hL : L ≤ 1536) (hi : 3 * i + 2 < L) (hJ : gj_C a S P R E) (hM : gj_M a S1) (oC : gx_okH (gc_h S P R E)) (oM : gx_okH (gm_h S1)) (hb1 : gl_W a (n + 1) ≤ bc) (hb2 : gl_V9 a (n + 1) ≤ bs)
    (hk : ∀ a2 S2 P2 R2 E2 S3 g o5 o6 bc2 bs2, gl_W a2 n ≤ bc2 → gl_V9 a2 n ≤ bs2 → gj_C a2 S2 P2 R2 E2 → gj_M a2 S3 → gx_okH (gc_h S2 P2 R2 E2) → gx_okH (gm_h S3) → gx_Gd (gl_zz L xs) (p, l, e, Rm, s, m, args, below, meth, c) (D, dT, sp, A, n0, ad0) Fin (674, [some (.retAddr 0), some (.ref 0), some (.ref 17), some (.ref 43), some (.int (nI (3 * i))), o5, o6], [], gl_h (gc_h S2 P2 R2 E2) (gm_h S3) g, bc2, bs2)) :
    gx_Gd (gl_zz L xs) (p, l, e, Rm, s, m, args, below, meth, c) (D, dT, sp, A, n0, ad0) Fin (211, [some (.retAddr 0), some (.ref 0), some (.ref 17), some (.ref 43), some (.int (nI (3 * i))), o5, o6], [], gl_h (gc_h S P R E) (gm_h S1) f, bc, bs) := by
  have hin := gl_in hL hi
  have w1 := gl_Wge a n
  refine gl_bs.go hCx (gl_tc2_ok L xs) [674] 40 ⟨hin.2.1, (show gx_Gd (gl_zz L xs) (p, l, e, Rm, s, m, args, below, meth, c) (D, dT, sp, A, n0, ad0) Fin (219, [some (.retAddr 0), some (.ref 0), some (.ref 17), some (.ref 43), some (.int (nI (3 * i))), o5, o6], [.ref 43, .int (xs (nI (3 * i) + 1).toNatClampNeg), .ref 0], gl_h (gc_h S P R E) (gm_h S1) f, bc, bs) from ?_)⟩
  refine gl_lh_drop (kc := 1) (ks := 6) hl hCx hR gl_e0_219 rfl oC oM (by decide) hJ (Nat.le_refl _) (Nat.le_refl _) ⟨by omega, by omega⟩ ?_
  intro k v a2 S2 P2 R2 E2 g hO hJ2 oC2 hg hk2
  refine gl_bs.go hCx (gl_tc2_ok L xs) [674] 40 ⟨hin.2.1, (show gx_Gd (gl_zz L xs) (p, l, e, Rm, s, m, args, below, meth, c) (D, dT, sp, A, n0, ad0) Fin (231, [some (.retAddr 0), some (.ref 0), some (.ref 17), some (.ref 43), some (.int (nI (3 * i))), some (.int (nI k)), o6], [.int (xs (nI (3 * i) + 1).toNatClampNeg), .ref 17], gl_h (gc_h S2 P2 R2 E2) (gm_h S1) g, bc - 1, bs - 6) from ?_)⟩
  refine gl_lm_drop hCx hR gl_e0_231 (gl_17 S2 P2 R2 E2) oC2 oM (by decide) hM ?_
  intro k' v1 a3 S3 v' hO' hJ3 h0 oM3 hv
  have eo := gj_drop_det hO hO'
  cases eo
  refine gl_bs.go hCx (gl_tc2_ok L xs) [674] 40 (show gx_Gd (gl_zz L xs) (p, l, e, Rm, s, m, args, below, meth, c) (D, dT, sp, A, n0, ad0) Fin (237, [some (.retAddr 0), some (.ref 0), some (.ref 17), some (.ref 43), some (.int (nI (3 * i))), some (.int (nI k)), some (.int v')], [.ref 17], gl_h (gc_h S2 P2 R2 E2) (gm_h S3) g, bc - 1, bs - 6) from ?_)
  refine gl_lm_thrown hCx hR gl_e0_237 (gl_17 S2 P2 R2 E2) oC2 oM3 (by decide) ?_
  have w2 := gl_Wle a2 n
  have fin := hk a2 S2 P2 R2 E2 S3 g (some (.int (nI k))) (some (.int v')) (bc - 1) (bs - 6) (by omega) (by omega) hJ2 hJ3 oC2 oM3
  refine gl_bs.go hCx (gl_tc2_ok L xs) [674] 40 ⟨fun _ => ⟨fun _ => fin, fun hk0 => (show gx_Gd (gl_zz L xs) (p, l, e, Rm, s, m, args, below, meth, c) (D, dT, sp, A, n0, ad0) Fin (254, [some (.retAddr 0), some (.ref 0), some (.ref 17), some (.ref 43), some (.int (nI (3 * i))), some (.int (nI k)), some (.int v')], [.int 0, .ref 43], gl_h (gc_h S2 P2 R2 E2) (gm_h S3) g, bc - 1, bs - 6) from ?_)⟩, fun h => absurd h0 h⟩
  have hk9 := gl_k0 hk2 hk0
  have hv9 := hv hk9
  have hg9 := hg hk9
  subst hv9
  refine gl_lod hCx gl_e0_254 (gl_17 S2 P2 R2 E2) rfl ?_
  rw [hg9]
  exact gl_bs.go hCx (gl_tc2_ok L xs) [674] 40 ⟨fun h => ⟨fun _ => fin, fun h9 => absurd (gl_cb0 h) h9⟩, fun h => ⟨fun _ => fin, fun h9 => absurd (gl_cb1 h) h9⟩⟩
theorem gl_case3 (hl : l.stackTraces = false) (hCx : gx_Cx (gl_zz L xs) (p, l, e, Rm, s, m, args, below, meth, c) (D, dT, sp, A, n0, ad0)) (hR : 1000 ≤ Rm.frames ∧ 80000 ≤ Rm.locals) (hL : L ≤ 1536) (hi : 3 * i + 2 < L) (hJ : gj_C a S P R E) (hM : gj_M a S1) (oC : gx_okH (gc_h S P R E)) (oM : gx_okH (gm_h S1)) (hb1 : gl_W a (n + 1) ≤ bc) (hb2 : gl_V9 a (n + 1) ≤ bs)
    (hk : ∀ a2 S2 P2 R2 E2 S3 g o5 o6 bc2 bs2, gl_W a2 n ≤ bc2 → gl_V9 a2 n ≤ bs2 → gj_C a2 S2 P2 R2 E2 → gj_M a2 S3 → gx_okH (gc_h S2 P2 R2 E2) → gx_okH (gm_h S3) → gx_Gd (gl_zz L xs) (p, l, e, Rm, s, m, args, below, meth, c) (D, dT, sp, A, n0, ad0) Fin (674, [some (.retAddr 0), some (.ref 0), some (.ref 17), some (.ref 43), some (.int (nI (3 * i))), o5, o6], [], gl_h (gc_h S2 P2 R2 E2) (gm_h S3) g, bc2, bs2)) :
    gx_Gd (gl_zz L xs) (p, l, e, Rm, s, m, args, below, meth, c) (D, dT, sp, A, n0, ad0) Fin (274, [some (.retAddr 0), some (.ref 0), some (.ref 17), some (.ref 43), some (.int (nI (3 * i))), o5, o6], [], gl_h (gc_h S P R E) (gm_h S1) f, bc, bs) := by
  have hin := gl_in hL hi
  refine gl_bs.go hCx (gl_tc3_ok L xs) [674] 40 ⟨hin.2.1, ⟨hin.2.2, (show gx_Gd (gl_zz L xs) (p, l, e, Rm, s, m, args, below, meth, c) (D, dT, sp, A, n0, ad0) Fin (287, [some (.retAddr 0), some (.ref 0), some (.ref 17), some (.ref 43), some (.int (nI (3 * i))), o5, o6], [.int (xs (nI (3 * i) + 2).toNatClampNeg), .int (xs (nI (3 * i) + 1).toNatClampNeg), .ref 0], gl_h (gc_h S P R E) (gm_h S1) f, bc, bs) from ?_)⟩⟩
  refine gl_lc_shown hl hCx hR gl_e0_287 rfl oC oM (by decide) hJ ?_
  intro v a2 S2 P2 R2 E2 hO hJ2 oC2
  refine gl_bs.go hCx (gl_tc3_ok L xs) [674] 40 ⟨hin.2.1, ⟨hin.2.2, (show gx_Gd (gl_zz L xs) (p, l, e, Rm, s, m, args, below, meth, c) (D, dT, sp, A, n0, ad0) Fin (303, [some (.retAddr 0), some (.ref 0), some (.ref 17), some (.ref 43), some (.int (nI (3 * i))), o5, o6], [.int (xs (nI (3 * i) + 2).toNatClampNeg), .int (xs (nI (3 * i) + 1).toNatClampNeg), .ref 17, .int v], gl_h (gc_h S2 P2 R2 E2) (gm_h S1) f, bc, bs) from ?_)⟩⟩
  refine gl_lm_shown hCx hR gl_e0_303 (gl_17 S2 P2 R2 E2) oC2 oM (by show 1 ≤ 8; decide) hM ?_
  intro k' v1 a3 S3 v' hO' hJ3 h0 oM3 hv
  have eo := gj_shown_det hO hO'
  cases eo
  have hv9 := hv rfl
  subst hv9
  have w1 := gl_Wge a n
  have w2 := gl_Wle a2 n
  exact gl_bs.go hCx (gl_tc3_ok L xs) [674] 40 ⟨fun _ => hk a2 S2 P2 R2 E2 S3 f o5 o6 bc bs (by omega) (by omega) hJ2 hJ3 oC2 oM3, fun h => absurd rfl h⟩
theorem gl_case4 (hl : l.stackTraces = false) (hCx : gx_Cx (gl_zz L xs) (p, l, e, Rm, s, m, args, below, meth, c) (D, dT, sp, A, n0, ad0)) (hR : 1000 ≤ Rm.frames ∧ 80000 ≤ Rm.locals) (hL : L ≤ 1536) (hi : 3 * i + 2 < L) (hJ : gj_C a S P R E) (hM : gj_M a S1) (oC : gx_okH (gc_h S P R E)) (oM : gx_okH (gm_h S1)) (hb1 : gl_W a (n + 1) ≤ bc) (hb2 : gl_V9 a (n + 1) ≤ bs)
    (hk : ∀ a2 S2 P2 R2 E2 S3 g o5 o6 bc2 bs2, gl_W a2 n ≤ bc2 → gl_V9 a2 n ≤ bs2 → gj_C a2 S2 P2 R2 E2 → gj_M a2 S3 → gx_okH (gc_h S2 P2 R2 E2) → gx_okH (gm_h S3) → gx_Gd (gl_zz L xs) (p, l, e, Rm, s, m, args, below, meth, c) (D, dT, sp, A, n0, ad0) Fin (674, [some (.retAddr 0), some (.ref 0), some (.ref 17), some (.ref 43), some (.int (nI (3 * i))), o5, o6], [], gl_h (gc_h S2 P2 R2 E2) (gm_h S3) g, bc2, bs2)) :
    gx_Gd (gl_zz L xs) (p, l, e, Rm, s, m, args, below, meth, c) (D, dT, sp, A, n0, ad0) Fin (311, [some (.retAddr 0), some (.ref 0), some (.ref 17), some (.ref 43), some (.int (nI (3 * i))), o5, o6], [], gl_h (gc_h S P R E) (gm_h S1) f, bc, bs) := by
  have hin := gl_in hL hi
  have w1 := gl_Wge a n
  refine gl_bs.go hCx (gl_tc4_ok L xs) [674] 40 ⟨hin.2.1, (show gx_Gd (gl_zz L xs) (p, l, e, Rm, s, m, args, below, meth, c) (D, dT, sp, A, n0, ad0) Fin (319, [some (.retAddr 0), some (.ref 0), some (.ref 17), some (.ref 43), some (.int (nI (3 * i))), o5, o6], [.ref 43, .int (xs (nI (3 * i) + 1).toNatClampNeg), .ref 0], gl_h (gc_h S P R E) (gm_h S1) f, bc, bs) from ?_)⟩
  refine gl_lh_text (kc := 1) (ks := 6) hl hCx hR gl_e0_319 rfl oC oM (by decide) hJ (Nat.le_refl _) (Nat.le_refl _) ⟨by omega, by omega⟩ ?_
  intro k v a2 S2 P2 R2 E2 g hO hJ2 oC2 hg hk2
  refine gl_bs.go hCx (gl_tc4_ok L xs) [674] 40 ⟨hin.2.1, (show gx_Gd (gl_zz L xs) (p, l, e, Rm, s, m, args, below, meth, c) (D, dT, sp, A, n0, ad0) Fin (331, [some (.retAddr 0), some (.ref 0), some (.ref 17), some (.ref 43), some (.int (nI (3 * i))), some (.int (nI k)), o6], [.int (xs (nI (3 * i) + 1).toNatClampNeg), .ref 17], gl_h (gc_h S2 P2 R2 E2) (gm_h S1) g, bc - 1, bs - 6) from ?_)⟩
  refine gl_lm_text hCx hR gl_e0_331 (gl_17 S2 P2 R2 E2) oC2 oM (by decide) hM ?_
  intro k' v1 a3 S3 v' hO' hJ3 h0 oM3 hv
  have eo := gj_text_det hO hO'
  cases eo
  refine gl_bs.go hCx (gl_tc4_ok L xs) [674] 40 (show gx_Gd (gl_zz L xs) (p, l, e, Rm, s, m, args, below, meth, c) (D, dT, sp, A, n0, ad0) Fin (337, [some (.retAddr 0), some (.ref 0), some (.ref 17), some (.ref 43), some (.int (nI (3 * i))), some (.int (nI k)), some (.int v')], [.ref 17], gl_h (gc_h S2 P2 R2 E2) (gm_h S3) g, bc - 1, bs - 6) from ?_)
  refine gl_lm_thrown hCx hR gl_e0_337 (gl_17 S2 P2 R2 E2) oC2 oM3 (by decide) ?_
  have w2 := gl_Wle a2 n
  have fin := hk a2 S2 P2 R2 E2 S3 g (some (.int (nI k))) (some (.int v')) (bc - 1) (bs - 6) (by omega) (by omega) hJ2 hJ3 oC2 oM3
  refine gl_bs.go hCx (gl_tc4_ok L xs) [674] 40 ⟨fun _ => ⟨fun _ => fin, fun hk0 => (show gx_Gd (gl_zz L xs) (p, l, e, Rm, s, m, args, below, meth, c) (D, dT, sp, A, n0, ad0) Fin (354, [some (.retAddr 0), some (.ref 0), some (.ref 17), some (.ref 43), some (.int (nI (3 * i))), some (.int (nI k)), some (.int v')], [.int 0, .ref 43], gl_h (gc_h S2 P2 R2 E2) (gm_h S3) g, bc - 1, bs - 6) from ?_)⟩, fun h => absurd h0 h⟩
  have hk9 := gl_k0 hk2 hk0
  have hv9 := hv hk9
  have hg9 := hg hk9
  subst hv9
  refine gl_lod hCx gl_e0_354 (gl_17 S2 P2 R2 E2) rfl ?_
  rw [hg9]
  exact gl_bs.go hCx (gl_tc4_ok L xs) [674] 40 ⟨fun h => ⟨fun _ => fin, fun h9 => absurd (gl_cb0 h) h9⟩, fun h => ⟨fun _ => fin, fun h9 => absurd (gl_cb1 h) h9⟩⟩
theorem gl_case5 (hl : l.stackTraces = false) (hCx : gx_Cx (gl_zz L xs) (p, l, e, Rm, s, m, args, below, meth, c) (D, dT, sp, A, n0, ad0)) (hR : 1000 ≤ Rm.frames ∧ 80000 ≤ Rm.locals) (hL : L ≤ 1536) (hi : 3 * i + 2 < L) (hJ : gj_C a S P R E) (hM : gj_M a S1) (oC : gx_okH (gc_h S P R E)) (oM : gx_okH (gm_h S1)) (hb1 : gl_W a (n + 1) ≤ bc) (hb2 : gl_V9 a (n + 1) ≤ bs)
    (hk : ∀ a2 S2 P2 R2 E2 S3 g o5 o6 bc2 bs2, gl_W a2 n ≤ bc2 → gl_V9 a2 n ≤ bs2 → gj_C a2 S2 P2 R2 E2 → gj_M a2 S3 → gx_okH (gc_h S2 P2 R2 E2) → gx_okH (gm_h S3) → gx_Gd (gl_zz L xs) (p, l, e, Rm, s, m, args, below, meth, c) (D, dT, sp, A, n0, ad0) Fin (674, [some (.retAddr 0), some (.ref 0), some (.ref 17), some (.ref 43), some (.int (nI (3 * i))), o5, o6], [], gl_h (gc_h S2 P2 R2 E2) (gm_h S3) g, bc2, bs2)) :
    gx_Gd (gl_zz L xs) (p, l, e, Rm, s, m, args, below, meth, c) (D, dT, sp, A, n0, ad0) Fin (374, [some (.retAddr 0), some (.ref 0), some (.ref 17), some (.ref 43), some (.int (nI (3 * i))), o5, o6], [], gl_h (gc_h S P R E) (gm_h S1) f, bc, bs) := by
  have hin := gl_in hL hi
  refine gl_bs.go hCx (gl_tc5_ok L xs) [674] 40 (show gx_Gd (gl_zz L xs) (p, l, e, Rm, s, m, args, below, meth, c) (D, dT, sp, A, n0, ad0) Fin (375, [some (.retAddr 0), some (.ref 0), some (.ref 17), some (.ref 43), some (.int (nI (3 * i))), o5, o6], [.ref 0], gl_h (gc_h S P R E) (gm_h S1) f, bc, bs) from ?_)
  refine gl_lc_clear hl hCx hR gl_e0_375 rfl oC oM (by decide) hJ ?_
  intro v a2 S2 P2 R2 E2 hO hJ2 oC2
  refine gl_bs.go hCx (gl_tc5_ok L xs) [674] 40 (show gx_Gd (gl_zz L xs) (p, l, e, Rm, s, m, args, below, meth, c) (D, dT, sp, A, n0, ad0) Fin (379, [some (.retAddr 0), some (.ref 0), some (.ref 17), some (.ref 43), some (.int (nI (3 * i))), o5, o6], [.ref 17, .int v], gl_h (gc_h S2 P2 R2 E2) (gm_h S1) f, bc, bs) from ?_)
  refine gl_lm_clear hCx hR gl_e0_379 (gl_17 S2 P2 R2 E2) oC2 oM (by show 1 ≤ 8; decide) hM ?_
  intro k' v1 a3 S3 v' hO' hJ3 h0 oM3 hv
  have eo := gj_clear_det hO hO'
  cases eo
  have hv9 := hv rfl
  subst hv9
  have w1 := gl_Wge a n
  have w2 := gl_Wle a2 n
  exact gl_bs.go hCx (gl_tc5_ok L xs) [674] 40 ⟨fun _ => hk a2 S2 P2 R2 E2 S3 f o5 o6 bc bs (by omega) (by omega) hJ2 hJ3 oC2 oM3, fun h => absurd rfl h⟩
theorem gl_case6 (hl : l.stackTraces = false) (hCx : gx_Cx (gl_zz L xs) (p, l, e, Rm, s, m, args, below, meth, c) (D, dT, sp, A, n0, ad0)) (hR : 1000 ≤ Rm.frames ∧ 80000 ≤ Rm.locals) (hL : L ≤ 1536) (hi : 3 * i + 2 < L) (hJ : gj_C a S P R E) (hM : gj_M a S1) (oC : gx_okH (gc_h S P R E)) (oM : gx_okH (gm_h S1)) (hb1 : gl_W a (n + 1) ≤ bc) (hb2 : gl_V9 a (n + 1) ≤ bs)
    (hk : ∀ a2 S2 P2 R2 E2 S3 g o5 o6 bc2 bs2, gl_W a2 n ≤ bc2 → gl_V9 a2 n ≤ bs2 → gj_C a2 S2 P2 R2 E2 → gj_M a2 S3 → gx_okH (gc_h S2 P2 R2 E2) → gx_okH (gm_h S3) → gx_Gd (gl_zz L xs) (p, l, e, Rm, s, m, args, below, meth, c) (D, dT, sp, A, n0, ad0) Fin (674, [some (.retAddr 0), some (.ref 0), some (.ref 17), some (.ref 43), some (.int (nI (3 * i))), o5, o6], [], gl_h (gc_h S2 P2 R2 E2) (gm_h S3) g, bc2, bs2)) :
    gx_Gd (gl_zz L xs) (p, l, e, Rm, s, m, args, below, meth, c) (D, dT, sp, A, n0, ad0) Fin (387, [some (.retAddr 0), some (.ref 0), some (.ref 17), some (.ref 43), some (.int (nI (3 * i))), o5, o6], [], gl_h (gc_h S P R E) (gm_h S1) f, bc, bs) := by
  have hin := gl_in hL hi
  have w1 := gl_Wge a n
  refine gl_bs.go hCx (gl_tc6_ok L xs) [674] 40 ⟨hin.2.1, (show gx_Gd (gl_zz L xs) (p, l, e, Rm, s, m, args, below, meth, c) (D, dT, sp, A, n0, ad0) Fin (395, [some (.retAddr 0), some (.ref 0), some (.ref 17), some (.ref 43), some (.int (nI (3 * i))), o5, o6], [.ref 43, .int (xs (nI (3 * i) + 1).toNatClampNeg), .ref 0], gl_h (gc_h S P R E) (gm_h S1) f, bc, bs) from ?_)⟩
  refine gl_lh_check (kc := 1) (ks := 6) hl hCx hR gl_e0_395 rfl oC oM (by decide) hJ (Nat.le_refl _) (Nat.le_refl _) ⟨by omega, by omega⟩ ?_
  intro k v a2 S2 P2 R2 E2 g hO hJ2 oC2 hg hk2
  refine gl_bs.go hCx (gl_tc6_ok L xs) [674] 40 ⟨hin.2.1, (show gx_Gd (gl_zz L xs) (p, l, e, Rm, s, m, args, below, meth, c) (D, dT, sp, A, n0, ad0) Fin (407, [some (.retAddr 0), some (.ref 0), some (.ref 17), some (.ref 43), some (.int (nI (3 * i))), some (.int (nI k)), o6], [.int (xs (nI (3 * i) + 1).toNatClampNeg), .ref 17], gl_h (gc_h S2 P2 R2 E2) (gm_h S1) g, bc - 1, bs - 6) from ?_)⟩
  refine gl_lm_check hCx hR gl_e0_407 (gl_17 S2 P2 R2 E2) oC2 oM (by decide) hM ?_
  intro k' v1 a3 S3 v' hO' hJ3 h0 oM3 hv
  have eo := gj_check_det hO hO'
  cases eo
  refine gl_bs.go hCx (gl_tc6_ok L xs) [674] 40 (show gx_Gd (gl_zz L xs) (p, l, e, Rm, s, m, args, below, meth, c) (D, dT, sp, A, n0, ad0) Fin (413, [some (.retAddr 0), some (.ref 0), some (.ref 17), some (.ref 43), some (.int (nI (3 * i))), some (.int (nI k)), some (.int v')], [.ref 17], gl_h (gc_h S2 P2 R2 E2) (gm_h S3) g, bc - 1, bs - 6) from ?_)
  refine gl_lm_thrown hCx hR gl_e0_413 (gl_17 S2 P2 R2 E2) oC2 oM3 (by decide) ?_
  have w2 := gl_Wle a2 n
  have fin := hk a2 S2 P2 R2 E2 S3 g (some (.int (nI k))) (some (.int v')) (bc - 1) (bs - 6) (by omega) (by omega) hJ2 hJ3 oC2 oM3
  refine gl_bs.go hCx (gl_tc6_ok L xs) [674] 40 ⟨fun _ => ⟨fun _ => fin, fun hk0 => (show gx_Gd (gl_zz L xs) (p, l, e, Rm, s, m, args, below, meth, c) (D, dT, sp, A, n0, ad0) Fin (430, [some (.retAddr 0), some (.ref 0), some (.ref 17), some (.ref 43), some (.int (nI (3 * i))), some (.int (nI k)), some (.int v')], [.int 0, .ref 43], gl_h (gc_h S2 P2 R2 E2) (gm_h S3) g, bc - 1, bs - 6) from ?_)⟩, fun h => absurd h0 h⟩
  have hk9 := gl_k0 hk2 hk0
  have hv9 := hv hk9
  have hg9 := hg hk9
  subst hv9
  refine gl_lod hCx gl_e0_430 (gl_17 S2 P2 R2 E2) rfl ?_
  rw [hg9]
  exact gl_bs.go hCx (gl_tc6_ok L xs) [674] 40 ⟨fun _ => fin, fun h9 => absurd (gl_cmp0 _) h9⟩
theorem gl_case7 (hl : l.stackTraces = false) (hCx : gx_Cx (gl_zz L xs) (p, l, e, Rm, s, m, args, below, meth, c) (D, dT, sp, A, n0, ad0)) (hR : 1000 ≤ Rm.frames ∧ 80000 ≤ Rm.locals) (hL : L ≤ 1536) (hi : 3 * i + 2 < L) (hJ : gj_C a S P R E) (hM : gj_M a S1) (oC : gx_okH (gc_h S P R E)) (oM : gx_okH (gm_h S1)) (hb1 : gl_W a (n + 1) ≤ bc) (hb2 : gl_V9 a (n + 1) ≤ bs)
    (hk : ∀ a2 S2 P2 R2 E2 S3 g o5 o6 bc2 bs2, gl_W a2 n ≤ bc2 → gl_V9 a2 n ≤ bs2 → gj_C a2 S2 P2 R2 E2 → gj_M a2 S3 → gx_okH (gc_h S2 P2 R2 E2) → gx_okH (gm_h S3) → gx_Gd (gl_zz L xs) (p, l, e, Rm, s, m, args, below, meth, c) (D, dT, sp, A, n0, ad0) Fin (674, [some (.retAddr 0), some (.ref 0), some (.ref 17), some (.ref 43), some (.int (nI (3 * i))), o5, o6], [], gl_h (gc_h S2 P2 R2 E2) (gm_h S3) g, bc2, bs2)) :
    gx_Gd (gl_zz L xs) (p, l, e, Rm, s, m, args, below, meth, c) (D, dT, sp, A, n0, ad0) Fin (443, [some (.retAddr 0), some (.ref 0), some (.ref 17), some (.ref 43), some (.int (nI (3 * i))), o5, o6], [], gl_h (gc_h S P R E) (gm_h S1) f, bc, bs) := by
  have hin := gl_in hL hi
  have w1 := gl_Wge a n
  refine gl_bs.go hCx (gl_tc7_ok L xs) [674] 40 ⟨hin.2.1, ⟨hin.2.2, (show gx_Gd (gl_zz L xs) (p, l, e, Rm, s, m, args, below, meth, c) (D, dT, sp, A, n0, ad0) Fin (457, [some (.retAddr 0), some (.ref 0), some (.ref 17), some (.ref 43), some (.int (nI (3 * i))), o5, o6], [.ref 43, .int (xs (nI (3 * i) + 2).toNatClampNeg), .int (xs (nI (3 * i) + 1).toNatClampNeg), .ref 0], gl_h (gc_h S P R E) (gm_h S1) f, bc, bs) from ?_)⟩⟩
  refine gl_lh_match (kc := 3) (ks := 18) hl hCx hR gl_e0_457 rfl oC oM (by decide) hJ (Nat.le_refl _) (Nat.le_refl _) ⟨by omega, by omega⟩ ?_
  intro k v a2 S2 P2 R2 E2 g hO hJ2 oC2 hg hk2
  refine gl_bs.go hCx (gl_tc7_ok L xs) [674] 40 ⟨hin.2.1, ⟨hin.2.2, (show gx_Gd (gl_zz L xs) (p, l, e, Rm, s, m, args, below, meth, c) (D, dT, sp, A, n0, ad0) Fin (475, [some (.retAddr 0), some (.ref 0), some (.ref 17), some (.ref 43), some (.int (nI (3 * i))), some (.int (nI k)), o6], [.int (xs (nI (3 * i) + 2).toNatClampNeg), .int (xs (nI (3 * i) + 1).toNatClampNeg), .ref 17], gl_h (gc_h S2 P2 R2 E2) (gm_h S1) g, bc - 3, bs - 18) from ?_)⟩⟩
  refine gl_lm_match hCx hR gl_e0_475 (gl_17 S2 P2 R2 E2) oC2 oM (by decide) hM ?_
  intro k' v1 a3 S3 v' hO' hJ3 h0 oM3 hv
  have hx9 : a.2.2.2.1.1 ≤ 9 := by
    obtain ⟨T, ch, ⟨nn, c⟩, ⟨Lx, y⟩, cp, f, v⟩ := a
    exact hM.2.2.1.2.1
  have eo := gj_match_det (a := a) (hx9) hO hO'
  cases eo
  refine gl_bs.go hCx (gl_tc7_ok L xs) [674] 40 (show gx_Gd (gl_zz L xs) (p, l, e, Rm, s, m, args, below, meth, c) (D, dT, sp, A, n0, ad0) Fin (481, [some (.retAddr 0), some (.ref 0), some (.ref 17), some (.ref 43), some (.int (nI (3 * i))), some (.int (nI k)), some (.int v')], [.ref 17], gl_h (gc_h S2 P2 R2 E2) (gm_h S3) g, bc - 3, bs - 18) from ?_)
  refine gl_lm_thrown hCx hR gl_e0_481 (gl_17 S2 P2 R2 E2) oC2 oM3 (by decide) ?_
  have w2 := gl_Wle a2 n
  have fin := hk a2 S2 P2 R2 E2 S3 g (some (.int (nI k))) (some (.int v')) (bc - 3) (bs - 18) (by omega) (by omega) hJ2 hJ3 oC2 oM3
  refine gl_bs.go hCx (gl_tc7_ok L xs) [674] 40 ⟨fun _ => ⟨fun _ => fin, fun hk0 => (show gx_Gd (gl_zz L xs) (p, l, e, Rm, s, m, args, below, meth, c) (D, dT, sp, A, n0, ad0) Fin (498, [some (.retAddr 0), some (.ref 0), some (.ref 17), some (.ref 43), some (.int (nI (3 * i))), some (.int (nI k)), some (.int v')], [.int 0, .ref 43], gl_h (gc_h S2 P2 R2 E2) (gm_h S3) g, bc - 3, bs - 18) from ?_)⟩, fun h => absurd h0 h⟩
  have hk9 := gl_k0 hk2 hk0
  have hv9 := hv hk9
  have hg9 := hg hk9
  subst hv9
  refine gl_lod hCx gl_e0_498 (gl_17 S2 P2 R2 E2) rfl ?_
  rw [hg9]
  exact gl_bs.go hCx (gl_tc7_ok L xs) [674] 40 ⟨fun _ => fin, fun h9 => absurd (gl_cmp0 _) h9⟩
theorem gl_case8 (hl : l.stackTraces = false) (hCx : gx_Cx (gl_zz L xs) (p, l, e, Rm, s, m, args, below, meth, c) (D, dT, sp, A, n0, ad0)) (hR : 1000 ≤ Rm.frames ∧ 80000 ≤ Rm.locals) (hL : L ≤ 1536) (hi : 3 * i + 2 < L) (hJ : gj_C a S P R E) (hM : gj_M a S1) (oC : gx_okH (gc_h S P R E)) (oM : gx_okH (gm_h S1)) (hb1 : gl_W a (n + 1) ≤ bc) (hb2 : gl_V9 a (n + 1) ≤ bs)
    (hk : ∀ a2 S2 P2 R2 E2 S3 g o5 o6 bc2 bs2, gl_W a2 n ≤ bc2 → gl_V9 a2 n ≤ bs2 → gj_C a2 S2 P2 R2 E2 → gj_M a2 S3 → gx_okH (gc_h S2 P2 R2 E2) → gx_okH (gm_h S3) → gx_Gd (gl_zz L xs) (p, l, e, Rm, s, m, args, below, meth, c) (D, dT, sp, A, n0, ad0) Fin (674, [some (.retAddr 0), some (.ref 0), some (.ref 17), some (.ref 43), some (.int (nI (3 * i))), o5, o6], [], gl_h (gc_h S2 P2 R2 E2) (gm_h S3) g, bc2, bs2)) :
    gx_Gd (gl_zz L xs) (p, l, e, Rm, s, m, args, below, meth, c) (D, dT, sp, A, n0, ad0) Fin (511, [some (.retAddr 0), some (.ref 0), some (.ref 17), some (.ref 43), some (.int (nI (3 * i))), o5, o6], [], gl_h (gc_h S P R E) (gm_h S1) f, bc, bs) := by
  have hin := gl_in hL hi
  have w1 := gl_Wge a n
  refine gl_bs.go hCx (gl_tc8_ok L xs) [674] 40 ⟨hin.2.1, (show gx_Gd (gl_zz L xs) (p, l, e, Rm, s, m, args, below, meth, c) (D, dT, sp, A, n0, ad0) Fin (519, [some (.retAddr 0), some (.ref 0), some (.ref 17), some (.ref 43), some (.int (nI (3 * i))), o5, o6], [.ref 43, .int (xs (nI (3 * i) + 1).toNatClampNeg), .ref 0], gl_h (gc_h S P R E) (gm_h S1) f, bc, bs) from ?_)⟩
  refine gl_lh_find (kc := 3) (ks := 18) hl hCx hR gl_e0_519 rfl oC oM (by decide) hJ (Nat.le_refl _) (Nat.le_refl _) ⟨by omega, by omega⟩ ?_
  intro k v a2 S2 P2 R2 E2 g hO hJ2 oC2 hg hk2
  refine gl_bs.go hCx (gl_tc8_ok L xs) [674] 40 ⟨hin.2.1, (show gx_Gd (gl_zz L xs) (p, l, e, Rm, s, m, args, below, meth, c) (D, dT, sp, A, n0, ad0) Fin (531, [some (.retAddr 0), some (.ref 0), some (.ref 17), some (.ref 43), some (.int (nI (3 * i))), some (.int (nI k)), o6], [.int (xs (nI (3 * i) + 1).toNatClampNeg), .ref 17], gl_h (gc_h S2 P2 R2 E2) (gm_h S1) g, bc - 3, bs - 18) from ?_)⟩
  refine gl_lm_find hCx hR gl_e0_531 (gl_17 S2 P2 R2 E2) oC2 oM (by decide) hM ?_
  intro k' v1 a3 S3 v' hO' hJ3 h0 oM3 hv
  have eo := gj_find_det hO hO'
  cases eo
  refine gl_bs.go hCx (gl_tc8_ok L xs) [674] 40 (show gx_Gd (gl_zz L xs) (p, l, e, Rm, s, m, args, below, meth, c) (D, dT, sp, A, n0, ad0) Fin (537, [some (.retAddr 0), some (.ref 0), some (.ref 17), some (.ref 43), some (.int (nI (3 * i))), some (.int (nI k)), some (.int v')], [.ref 17], gl_h (gc_h S2 P2 R2 E2) (gm_h S3) g, bc - 3, bs - 18) from ?_)
  refine gl_lm_thrown hCx hR gl_e0_537 (gl_17 S2 P2 R2 E2) oC2 oM3 (by decide) ?_
  have w2 := gl_Wle a2 n
  have fin := hk a2 S2 P2 R2 E2 S3 g (some (.int (nI k))) (some (.int v')) (bc - 3) (bs - 18) (by omega) (by omega) hJ2 hJ3 oC2 oM3
  refine gl_bs.go hCx (gl_tc8_ok L xs) [674] 40 ⟨fun _ => ⟨fun _ => fin, fun hk0 => (show gx_Gd (gl_zz L xs) (p, l, e, Rm, s, m, args, below, meth, c) (D, dT, sp, A, n0, ad0) Fin (554, [some (.retAddr 0), some (.ref 0), some (.ref 17), some (.ref 43), some (.int (nI (3 * i))), some (.int (nI k)), some (.int v')], [.int 0, .ref 43], gl_h (gc_h S2 P2 R2 E2) (gm_h S3) g, bc - 3, bs - 18) from ?_)⟩, fun h => absurd h0 h⟩
  have hk9 := gl_k0 hk2 hk0
  have hv9 := hv hk9
  have hg9 := hg hk9
  subst hv9
  refine gl_lod hCx gl_e0_554 (gl_17 S2 P2 R2 E2) rfl ?_
  rw [hg9]
  exact gl_bs.go hCx (gl_tc8_ok L xs) [674] 40 ⟨fun _ => fin, fun h9 => absurd (gl_cmp0 _) h9⟩
theorem gl_case9 (hl : l.stackTraces = false) (hCx : gx_Cx (gl_zz L xs) (p, l, e, Rm, s, m, args, below, meth, c) (D, dT, sp, A, n0, ad0)) (hR : 1000 ≤ Rm.frames ∧ 80000 ≤ Rm.locals) (hL : L ≤ 1536) (hi : 3 * i + 2 < L) (hJ : gj_C a S P R E) (hM : gj_M a S1) (oC : gx_okH (gc_h S P R E)) (oM : gx_okH (gm_h S1)) (hb1 : gl_W a (n + 1) ≤ bc) (hb2 : gl_V9 a (n + 1) ≤ bs)
    (hk : ∀ a2 S2 P2 R2 E2 S3 g o5 o6 bc2 bs2, gl_W a2 n ≤ bc2 → gl_V9 a2 n ≤ bs2 → gj_C a2 S2 P2 R2 E2 → gj_M a2 S3 → gx_okH (gc_h S2 P2 R2 E2) → gx_okH (gm_h S3) → gx_Gd (gl_zz L xs) (p, l, e, Rm, s, m, args, below, meth, c) (D, dT, sp, A, n0, ad0) Fin (674, [some (.retAddr 0), some (.ref 0), some (.ref 17), some (.ref 43), some (.int (nI (3 * i))), o5, o6], [], gl_h (gc_h S2 P2 R2 E2) (gm_h S3) g, bc2, bs2)) :
    gx_Gd (gl_zz L xs) (p, l, e, Rm, s, m, args, below, meth, c) (D, dT, sp, A, n0, ad0) Fin (567, [some (.retAddr 0), some (.ref 0), some (.ref 17), some (.ref 43), some (.int (nI (3 * i))), o5, o6], [], gl_h (gc_h S P R E) (gm_h S1) f, bc, bs) := by
  have hin := gl_in hL hi
  refine gl_bs.go hCx (gl_tc9_ok L xs) [674] 40 (show gx_Gd (gl_zz L xs) (p, l, e, Rm, s, m, args, below, meth, c) (D, dT, sp, A, n0, ad0) Fin (568, [some (.retAddr 0), some (.ref 0), some (.ref 17), some (.ref 43), some (.int (nI (3 * i))), o5, o6], [.ref 0], gl_h (gc_h S P R E) (gm_h S1) f, bc, bs) from ?_)
  refine gl_lc_captures hl hCx hR gl_e0_568 rfl oC oM (by decide) hJ ?_
  intro v a2 S2 P2 R2 E2 hO hJ2 oC2
  refine gl_bs.go hCx (gl_tc9_ok L xs) [674] 40 (show gx_Gd (gl_zz L xs) (p, l, e, Rm, s, m, args, below, meth, c) (D, dT, sp, A, n0, ad0) Fin (572, [some (.retAddr 0), some (.ref 0), some (.ref 17), some (.ref 43), some (.int (nI (3 * i))), o5, o6], [.ref 17, .int v], gl_h (gc_h S2 P2 R2 E2) (gm_h S1) f, bc, bs) from ?_)
  refine gl_lm_captures hCx hR gl_e0_572 (gl_17 S2 P2 R2 E2) oC2 oM (by show 1 ≤ 8; decide) hM ?_
  intro k' v1 a3 S3 v' hO' hJ3 h0 oM3 hv
  have eo := gj_captures_det hO hO'
  cases eo
  have hv9 := hv rfl
  subst hv9
  have w1 := gl_Wge a n
  have w2 := gl_Wle a2 n
  exact gl_bs.go hCx (gl_tc9_ok L xs) [674] 40 ⟨fun _ => hk a2 S2 P2 R2 E2 S3 f o5 o6 bc bs (by omega) (by omega) hJ2 hJ3 oC2 oM3, fun h => absurd rfl h⟩
theorem gl_case10 (hl : l.stackTraces = false) (hCx : gx_Cx (gl_zz L xs) (p, l, e, Rm, s, m, args, below, meth, c) (D, dT, sp, A, n0, ad0)) (hR : 1000 ≤ Rm.frames ∧ 80000 ≤ Rm.locals) (hL : L ≤ 1536) (hi : 3 * i + 2 < L) (hJ : gj_C a S P R E) (hM : gj_M a S1) (oC : gx_okH (gc_h S P R E)) (oM : gx_okH (gm_h S1)) (hb1 : gl_W a (n + 1) ≤ bc) (hb2 : gl_V9 a (n + 1) ≤ bs)
    (hk : ∀ a2 S2 P2 R2 E2 S3 g o5 o6 bc2 bs2, gl_W a2 n ≤ bc2 → gl_V9 a2 n ≤ bs2 → gj_C a2 S2 P2 R2 E2 → gj_M a2 S3 → gx_okH (gc_h S2 P2 R2 E2) → gx_okH (gm_h S3) → gx_Gd (gl_zz L xs) (p, l, e, Rm, s, m, args, below, meth, c) (D, dT, sp, A, n0, ad0) Fin (674, [some (.retAddr 0), some (.ref 0), some (.ref 17), some (.ref 43), some (.int (nI (3 * i))), o5, o6], [], gl_h (gc_h S2 P2 R2 E2) (gm_h S3) g, bc2, bs2)) :
    gx_Gd (gl_zz L xs) (p, l, e, Rm, s, m, args, below, meth, c) (D, dT, sp, A, n0, ad0) Fin (580, [some (.retAddr 0), some (.ref 0), some (.ref 17), some (.ref 43), some (.int (nI (3 * i))), o5, o6], [], gl_h (gc_h S P R E) (gm_h S1) f, bc, bs) := by
  have hin := gl_in hL hi
  have w1 := gl_Wge a n
  refine gl_bs.go hCx (gl_tc10_ok L xs) [674] 40 ⟨hin.2.1, ⟨hin.2.2, (show gx_Gd (gl_zz L xs) (p, l, e, Rm, s, m, args, below, meth, c) (D, dT, sp, A, n0, ad0) Fin (594, [some (.retAddr 0), some (.ref 0), some (.ref 17), some (.ref 43), some (.int (nI (3 * i))), o5, o6], [.ref 43, .int (xs (nI (3 * i) + 2).toNatClampNeg), .int (xs (nI (3 * i) + 1).toNatClampNeg), .ref 0], gl_h (gc_h S P R E) (gm_h S1) f, bc, bs) from ?_)⟩⟩
  refine gl_lh_capture (kc := 1) (ks := 6) hl hCx hR gl_e0_594 rfl oC oM (by decide) hJ (Nat.le_refl _) (Nat.le_refl _) ⟨by omega, by omega⟩ ?_
  intro k v a2 S2 P2 R2 E2 g hO hJ2 oC2 hg hk2
  refine gl_bs.go hCx (gl_tc10_ok L xs) [674] 40 ⟨hin.2.1, ⟨hin.2.2, (show gx_Gd (gl_zz L xs) (p, l, e, Rm, s, m, args, below, meth, c) (D, dT, sp, A, n0, ad0) Fin (612, [some (.retAddr 0), some (.ref 0), some (.ref 17), some (.ref 43), some (.int (nI (3 * i))), some (.int (nI k)), o6], [.int (xs (nI (3 * i) + 2).toNatClampNeg), .int (xs (nI (3 * i) + 1).toNatClampNeg), .ref 17], gl_h (gc_h S2 P2 R2 E2) (gm_h S1) g, bc - 1, bs - 6) from ?_)⟩⟩
  refine gl_lm_capture hCx hR gl_e0_612 (gl_17 S2 P2 R2 E2) oC2 oM (by decide) hM ?_
  intro k' v1 a3 S3 v' hO' hJ3 h0 oM3 hv
  have hc9 : a.2.2.2.2.1.length ≤ 40 := by
    obtain ⟨T, ch, ⟨nn, c⟩, ⟨Lx, y⟩, cp, f, v⟩ := a
    exact hM.2.2.2.1.2.1
  have eo := gj_capture_det (a := a) (hc9) hO hO'
  cases eo
  refine gl_bs.go hCx (gl_tc10_ok L xs) [674] 40 (show gx_Gd (gl_zz L xs) (p, l, e, Rm, s, m, args, below, meth, c) (D, dT, sp, A, n0, ad0) Fin (618, [some (.retAddr 0), some (.ref 0), some (.ref 17), some (.ref 43), some (.int (nI (3 * i))), some (.int (nI k)), some (.int v')], [.ref 17], gl_h (gc_h S2 P2 R2 E2) (gm_h S3) g, bc - 1, bs - 6) from ?_)
  refine gl_lm_thrown hCx hR gl_e0_618 (gl_17 S2 P2 R2 E2) oC2 oM3 (by decide) ?_
  have w2 := gl_Wle a2 n
  have fin := hk a2 S2 P2 R2 E2 S3 g (some (.int (nI k))) (some (.int v')) (bc - 1) (bs - 6) (by omega) (by omega) hJ2 hJ3 oC2 oM3
  refine gl_bs.go hCx (gl_tc10_ok L xs) [674] 40 ⟨fun _ => ⟨fun _ => fin, fun hk0 => (show gx_Gd (gl_zz L xs) (p, l, e, Rm, s, m, args, below, meth, c) (D, dT, sp, A, n0, ad0) Fin (635, [some (.retAddr 0), some (.ref 0), some (.ref 17), some (.ref 43), some (.int (nI (3 * i))), some (.int (nI k)), some (.int v')], [.int 0, .ref 43], gl_h (gc_h S2 P2 R2 E2) (gm_h S3) g, bc - 1, bs - 6) from ?_)⟩, fun h => absurd h0 h⟩
  have hk9 := gl_k0 hk2 hk0
  have hv9 := hv hk9
  have hg9 := hg hk9
  subst hv9
  refine gl_lod hCx gl_e0_635 (gl_17 S2 P2 R2 E2) rfl ?_
  rw [hg9]
  exact gl_bs.go hCx (gl_tc10_ok L xs) [674] 40 ⟨fun _ => fin, fun h9 => absurd (gl_cmp0 _) h9⟩
theorem gl_case11 (hl : l.stackTraces = false) (hCx : gx_Cx (gl_zz L xs) (p, l, e, Rm, s, m, args, below, meth, c) (D, dT, sp, A, n0, ad0)) (hR : 1000 ≤ Rm.frames ∧ 80000 ≤ Rm.locals) (hL : L ≤ 1536) (hi : 3 * i + 2 < L) (hJ : gj_C a S P R E) (hM : gj_M a S1) (oC : gx_okH (gc_h S P R E)) (oM : gx_okH (gm_h S1)) (hb1 : gl_W a (n + 1) ≤ bc) (hb2 : gl_V9 a (n + 1) ≤ bs)
    (hk : ∀ a2 S2 P2 R2 E2 S3 g o5 o6 bc2 bs2, gl_W a2 n ≤ bc2 → gl_V9 a2 n ≤ bs2 → gj_C a2 S2 P2 R2 E2 → gj_M a2 S3 → gx_okH (gc_h S2 P2 R2 E2) → gx_okH (gm_h S3) → gx_Gd (gl_zz L xs) (p, l, e, Rm, s, m, args, below, meth, c) (D, dT, sp, A, n0, ad0) Fin (674, [some (.retAddr 0), some (.ref 0), some (.ref 17), some (.ref 43), some (.int (nI (3 * i))), o5, o6], [], gl_h (gc_h S2 P2 R2 E2) (gm_h S3) g, bc2, bs2)) :
    gx_Gd (gl_zz L xs) (p, l, e, Rm, s, m, args, below, meth, c) (D, dT, sp, A, n0, ad0) Fin (648, [some (.retAddr 0), some (.ref 0), some (.ref 17), some (.ref 43), some (.int (nI (3 * i))), o5, o6], [], gl_h (gc_h S P R E) (gm_h S1) f, bc, bs) := by
  have hin := gl_in hL hi
  refine gl_bs.go hCx (gl_tc11_ok L xs) [674] 40 (show gx_Gd (gl_zz L xs) (p, l, e, Rm, s, m, args, below, meth, c) (D, dT, sp, A, n0, ad0) Fin (649, [some (.retAddr 0), some (.ref 0), some (.ref 17), some (.ref 43), some (.int (nI (3 * i))), o5, o6], [.ref 0], gl_h (gc_h S P R E) (gm_h S1) f, bc, bs) from ?_)
  refine gl_lc_farthest hl hCx hR gl_e0_649 rfl oC oM (by decide) hJ ?_
  intro v a2 S2 P2 R2 E2 hO hJ2 oC2
  refine gl_bs.go hCx (gl_tc11_ok L xs) [674] 40 (show gx_Gd (gl_zz L xs) (p, l, e, Rm, s, m, args, below, meth, c) (D, dT, sp, A, n0, ad0) Fin (653, [some (.retAddr 0), some (.ref 0), some (.ref 17), some (.ref 43), some (.int (nI (3 * i))), o5, o6], [.ref 17, .int v], gl_h (gc_h S2 P2 R2 E2) (gm_h S1) f, bc, bs) from ?_)
  refine gl_lm_farthest hCx hR gl_e0_653 (gl_17 S2 P2 R2 E2) oC2 oM (by show 1 ≤ 8; decide) hM ?_
  intro k' v1 a3 S3 v' hO' hJ3 h0 oM3 hv
  have eo := gj_farthest_det hO hO'
  cases eo
  have hv9 := hv rfl
  subst hv9
  have w1 := gl_Wge a n
  have w2 := gl_Wle a2 n
  exact gl_bs.go hCx (gl_tc11_ok L xs) [674] 40 ⟨fun _ => hk a2 S2 P2 R2 E2 S3 f o5 o6 bc bs (by omega) (by omega) hJ2 hJ3 oC2 oM3, fun h => absurd rfl h⟩
theorem gl_case12 (hl : l.stackTraces = false) (hCx : gx_Cx (gl_zz L xs) (p, l, e, Rm, s, m, args, below, meth, c) (D, dT, sp, A, n0, ad0)) (hR : 1000 ≤ Rm.frames ∧ 80000 ≤ Rm.locals) (hL : L ≤ 1536) (hi : 3 * i + 2 < L) (hJ : gj_C a S P R E) (hM : gj_M a S1) (oC : gx_okH (gc_h S P R E)) (oM : gx_okH (gm_h S1)) (hb1 : gl_W a (n + 1) ≤ bc) (hb2 : gl_V9 a (n + 1) ≤ bs)
    (hk : ∀ a2 S2 P2 R2 E2 S3 g o5 o6 bc2 bs2, gl_W a2 n ≤ bc2 → gl_V9 a2 n ≤ bs2 → gj_C a2 S2 P2 R2 E2 → gj_M a2 S3 → gx_okH (gc_h S2 P2 R2 E2) → gx_okH (gm_h S3) → gx_Gd (gl_zz L xs) (p, l, e, Rm, s, m, args, below, meth, c) (D, dT, sp, A, n0, ad0) Fin (674, [some (.retAddr 0), some (.ref 0), some (.ref 17), some (.ref 43), some (.int (nI (3 * i))), o5, o6], [], gl_h (gc_h S2 P2 R2 E2) (gm_h S3) g, bc2, bs2)) :
    gx_Gd (gl_zz L xs) (p, l, e, Rm, s, m, args, below, meth, c) (D, dT, sp, A, n0, ad0) Fin (661, [some (.retAddr 0), some (.ref 0), some (.ref 17), some (.ref 43), some (.int (nI (3 * i))), o5, o6], [], gl_h (gc_h S P R E) (gm_h S1) f, bc, bs) := by
  have hin := gl_in hL hi
  refine gl_bs.go hCx (gl_tc12_ok L xs) [674] 40 (show gx_Gd (gl_zz L xs) (p, l, e, Rm, s, m, args, below, meth, c) (D, dT, sp, A, n0, ad0) Fin (662, [some (.retAddr 0), some (.ref 0), some (.ref 17), some (.ref 43), some (.int (nI (3 * i))), o5, o6], [.ref 0], gl_h (gc_h S P R E) (gm_h S1) f, bc, bs) from ?_)
  refine gl_lc_tried hl hCx hR gl_e0_662 rfl oC oM (by decide) hJ ?_
  intro v a2 S2 P2 R2 E2 hO hJ2 oC2
  refine gl_bs.go hCx (gl_tc12_ok L xs) [674] 40 (show gx_Gd (gl_zz L xs) (p, l, e, Rm, s, m, args, below, meth, c) (D, dT, sp, A, n0, ad0) Fin (666, [some (.retAddr 0), some (.ref 0), some (.ref 17), some (.ref 43), some (.int (nI (3 * i))), o5, o6], [.ref 17, .int v], gl_h (gc_h S2 P2 R2 E2) (gm_h S1) f, bc, bs) from ?_)
  refine gl_lm_tried hCx hR gl_e0_666 (gl_17 S2 P2 R2 E2) oC2 oM (by show 1 ≤ 8; decide) hM ?_
  intro k' v1 a3 S3 v' hO' hJ3 h0 oM3 hv
  have eo := gj_tried_det hO hO'
  cases eo
  have hv9 := hv rfl
  subst hv9
  have w1 := gl_Wge a n
  have w2 := gl_Wle a2 n
  exact gl_bs.go hCx (gl_tc12_ok L xs) [674] 40 ⟨fun _ => hk a2 S2 P2 R2 E2 S3 f o5 o6 bc bs (by omega) (by omega) hJ2 hJ3 oC2 oM3, fun h => absurd rfl h⟩
end GLU
