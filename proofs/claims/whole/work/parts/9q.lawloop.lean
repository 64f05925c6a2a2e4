/-! The law's loop. -/
theorem gl_n3 : ∀ L, L < 1537 → (nI L - 3).toInt = (L : Int) - 3 := by decide +kernel
theorem gl_nt : ∀ k, k < 1600 → (nI k).toInt = (k : Int) := by decide +kernel
theorem gl_go {L i : Nat} (hL : L ≤ 1536) (hi : 3 * i ≤ 1536) (h : ¬ nI L - 3 < nI (3 * i)) : 3 * i + 2 < L := by
  rw [Int32.lt_iff_toInt_lt, gl_n3 L (by omega), gl_nt (3 * i) (by omega)] at h
  omega
section GLL
variable {p : Program} {l : Launch} {e : Env} {Rm : Room} {s : State} {m : MethodId} {args : Array Value} {below : List Frame} {meth : Method} {c : Code} {D : va_G} {dT : Nat → ClassId} {sp : Nat → Nat} {A : Nat → Prop} {n0 : Nat} {ad0 : Nat → Nat} {Fin : State → Prop} {L : Nat} {xs : Nat → Int32}
theorem gl_loop (hl : l.stackTraces = false) (hCx : gx_Cx (gl_zz L xs) (p, l, e, Rm, s, m, args, below, meth, c) (D, dT, sp, A, n0, ad0)) (hR : 1000 ≤ Rm.frames ∧ 80000 ≤ Rm.locals) (hL : L ≤ 1536)
    (hend : ∀ lv h bc bs, gx_Gd (gl_zz L xs) (p, l, e, Rm, s, m, args, below, meth, c) (D, dT, sp, A, n0, ad0) Fin (681, lv, [.int 1], h, bc, bs)) :
    ∀ (n i : Nat) (a : gj_A) (S S1 : Nat → Nat → Int32) (P : Nat → Option Nat) (R : Nat → Int64) (E : gx_H) (f : Nat → Int64) (o5 o6 : Option Value) (bc bs : Nat), L / 3 ≤ i + n → 3 * i ≤ L → gj_C a S P R E → gj_M a S1 → gx_okH (gc_h S P R E) → gx_okH (gm_h S1) → gl_W a n ≤ bc → gl_V9 a n ≤ bs →
      gx_Gd (gl_zz L xs) (p, l, e, Rm, s, m, args, below, meth, c) (D, dT, sp, A, n0, ad0) Fin (23, [some (.retAddr 0), some (.ref 0), some (.ref 17), some (.ref 43), some (.int (nI (3 * i))), o5, o6], [], gl_h (gc_h S P R E) (gm_h S1) f, bc, bs) := by
  intro n
  induction n with
  | zero =>
    intro i a S S1 P R E f o5 o6 bc bs h1 h2 hC hM oC oM b1 b2
    refine gl_bs.go hCx (gl_th_ok L xs) [32] 40 ⟨fun _ => hend _ _ _ _, fun h => ?_⟩
    have h3 := gl_go hL (by omega) h
    omega
  | succ n ih =>
    intro i a S S1 P R E f o5 o6 bc bs h1 h2 hC hM oC oM b1 b2
    refine gl_bs.go hCx (gl_th_ok L xs) [32] 40 ⟨fun _ => hend _ _ _ _, fun h => (show gx_Gd (gl_zz L xs) (p, l, e, Rm, s, m, args, below, meth, c) (D, dT, sp, A, n0, ad0) Fin (32, [some (.retAddr 0), some (.ref 0), some (.ref 17), some (.ref 43), some (.int (nI (3 * i))), o5, o6], [], gl_h (gc_h S P R E) (gm_h S1) f, bc, bs) from ?_)⟩
    have hi := gl_go hL (by omega) h
    have hin := gl_in hL hi
    refine gl_bs.go hCx (gl_th_ok L xs) [39] 40 ⟨hin.1, (show gx_Gd (gl_zz L xs) (p, l, e, Rm, s, m, args, below, meth, c) (D, dT, sp, A, n0, ad0) Fin (39, [some (.retAddr 0), some (.ref 0), some (.ref 17), some (.ref 43), some (.int (nI (3 * i))), o5, o6], [.int (xs (nI (3 * i)).toNatClampNeg &&& 15)], gl_h (gc_h S P R E) (gm_h S1) f, bc, bs) from ?_)⟩
    have hk : ∀ a2 S2 P2 R2 E2 S3 g o5 o6 bc2 bs2, gl_W a2 n ≤ bc2 → gl_V9 a2 n ≤ bs2 → gj_C a2 S2 P2 R2 E2 → gj_M a2 S3 → gx_okH (gc_h S2 P2 R2 E2) → gx_okH (gm_h S3) → gx_Gd (gl_zz L xs) (p, l, e, Rm, s, m, args, below, meth, c) (D, dT, sp, A, n0, ad0) Fin (674, [some (.retAddr 0), some (.ref 0), some (.ref 17), some (.ref 43), some (.int (nI (3 * i))), o5, o6], [], gl_h (gc_h S2 P2 R2 E2) (gm_h S3) g, bc2, bs2) := by
      intro a2 S2 P2 R2 E2 S3 g o5 o6 bc2 bs2 w1 w2 c1 c2 c3 c4
      have hh := ih (i + 1) a2 S2 S3 P2 R2 E2 g o5 o6 bc2 bs2 (by omega) (by omega) c1 c2 c3 c4 w1 w2
      have e3 : nI (3 * (i + 1)) = nI (3 * i) + 3 := by
        rw [show 3 * (i + 1) = 3 * i + 3 by omega]
        exact Int32.ofNat_add (3 * i) 3
      rw [e3] at hh
      exact gl_bs.go hCx (gl_th_ok L xs) [23] 40 hh
    refine gs_tsw (tgs := [104, 167, 211, 274, 311, 374, 387, 443, 511, 567, 580, 648, 661]) (df := 674) (by decide) (by decide) (by decide) gl_e0_39 (p, l, e, Rm, s, m, args, below, meth, c) (D, dT, sp, A, n0, ad0) Fin _ _ _ _ _ (gx_Gd (gl_zz L xs) (p, l, e, Rm, s, m, args, below, meth, c) (D, dT, sp, A, n0, ad0) Fin) (fun _ => False) (fun _ _ _ => False) hCx ⟨fun _ => ?_, fun k tg _ htg => ?_⟩ (fun _ k => k)
    · have w1 := gl_Wge a n
      have w2 := gl_Wle a n
      exact hk a S P R E S1 f o5 o6 bc bs (by omega) (by omega) hC hM oC oM
    · match k, htg with
      | 0, h9 => cases h9; exact gl_case0 hl hCx hR hL hi hC hM oC oM b1 b2 hk
      | 1, h9 => cases h9; exact gl_case1 hl hCx hR hL hi hC hM oC oM b1 b2 hk
      | 2, h9 => cases h9; exact gl_case2 hl hCx hR hL hi hC hM oC oM b1 b2 hk
      | 3, h9 => cases h9; exact gl_case3 hl hCx hR hL hi hC hM oC oM b1 b2 hk
      | 4, h9 => cases h9; exact gl_case4 hl hCx hR hL hi hC hM oC oM b1 b2 hk
      | 5, h9 => cases h9; exact gl_case5 hl hCx hR hL hi hC hM oC oM b1 b2 hk
      | 6, h9 => cases h9; exact gl_case6 hl hCx hR hL hi hC hM oC oM b1 b2 hk
      | 7, h9 => cases h9; exact gl_case7 hl hCx hR hL hi hC hM oC oM b1 b2 hk
      | 8, h9 => cases h9; exact gl_case8 hl hCx hR hL hi hC hM oC oM b1 b2 hk
      | 9, h9 => cases h9; exact gl_case9 hl hCx hR hL hi hC hM oC oM b1 b2 hk
      | 10, h9 => cases h9; exact gl_case10 hl hCx hR hL hi hC hM oC oM b1 b2 hk
      | 11, h9 => cases h9; exact gl_case11 hl hCx hR hL hi hC hM oC oM b1 b2 hk
      | 12, h9 => cases h9; exact gl_case12 hl hCx hR hL hi hC hM oC oM b1 b2 hk
      | k + 13, h9 => cases h9
end GLL
