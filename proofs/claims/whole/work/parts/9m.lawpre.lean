/-! The law's helpers: a call of the class, what it throws told by a number. Written by wip/tools/lawhelp.py. -/
theorem gi_last.of {t nx pc a bc bs n : Nat} {lv : List (Option Value)} {st : List Value} {h : gx_H} {K : gx_S → Prop} {Q : gx_R → Prop} {C : Nat → gx_S → (gx_R → Prop) → Prop} {i : Int32} {v : Int64} {f : Nat → Int64} (hn : h[a]? = some (.inl (t, n, .inr (.inl f)))) (x : vp_in i n ∧ K (nx, lv, st, h.set a (.inl (t, n, .inr (.inl (vp_updL f i.toNatClampNeg v)))), bc, bs)) : gi_last t nx (pc, lv, .long v :: .int i :: .ref a :: st, h, bc, bs) K Q C := by
  simp only [gi_last, hn, Nat.beq_refl]
  exact x
theorem gi_lald.of {t nx pc a bc bs n : Nat} {lv : List (Option Value)} {st : List Value} {h : gx_H} {K : gx_S → Prop} {Q : gx_R → Prop} {C : Nat → gx_S → (gx_R → Prop) → Prop} {i : Int32} {f : Nat → Int64} (hn : h[a]? = some (.inl (t, n, .inr (.inl f)))) (x : vp_in i n ∧ K (nx, lv, .long (f i.toNatClampNeg) :: st, h, bc, bs)) : gi_lald t nx (pc, lv, .int i :: .ref a :: st, h, bc, bs) K Q C := by
  simp only [gi_lald, hn, Nat.beq_refl]
  exact x
theorem gl_up0 (f : Nat → Int64) (v : Int64) : vp_updL f (0 : Int32).toNatClampNeg v 0 = v := rfl
theorem gl_17 (S : Nat → Nat → Int32) (P : Nat → Option Nat) (R : Nat → Int64) (E : gx_H) : 17 ≤ (gc_h S P R E).length := by
  show 17 ≤ E.length + 17
  omega
theorem gl_26 (S : Nat → Nat → Int32) : (gm_h S).length = 26 := rfl
theorem gl_cell0 (S : Nat → Nat → Int32) (P : Nat → Option Nat) (R : Nat → Int64) (E hM : gx_H) (f : Nat → Int64) : ∃ fs, (gl_h (gc_h S P R E) hM f)[0]? = some (.inr (0, fs)) := ⟨_, gl_c0 (gl_17 S P R E) (by decide)⟩
theorem gl_cell17 {hC : gx_H} (h1 : 17 ≤ hC.length) (S : Nat → Nat → Int32) (f : Nat → Int64) : ∃ fs, (gl_h hC (gm_h S) f)[17]? = some (.inr (4, fs)) := ⟨_, gl_m0 h1 rfl (by decide) (by decide)⟩
theorem gl_i0 : gl_ints [] := fun _ h => nomatch h
theorem gl_i1 {z : Int32} : gl_ints [.int z] := fun v h => by
  rcases List.mem_cons.mp h with e | e
  · exact ⟨z, e⟩
  · cases e
theorem gl_i2 {z1 z2 : Int32} : gl_ints [.int z1, .int z2] := fun v h => by
  rcases List.mem_cons.mp h with e | e
  · exact ⟨z1, e⟩
  · exact gl_i1 v e
section GLP
variable {G : (Nat → Nat) → (Nat → Prop) → State → Heap → Prop} {Ts : List Cond} {cc : ByteArray} {my : MethodName} {nL pc bc bs : Nat} {ret : Option FieldType} {x : gx_C} {y : gx_D} {Fin : State → Prop} {lv : List (Option Value)} {st : List Value} {hC hM h : gx_H} {f : Nat → Int64} {v : Int64}
theorem gl_str (hCx : gx_Cx (gm_cl, gm_tyl, G, Ts, cc, my, nL, ret) x y) (hd : decode cc pc = .ok (.lastore, 1)) (h1 : 17 ≤ hC.length) (h2 : hM.length = 26) (k : gx_Gd (gm_cl, gm_tyl, G, Ts, cc, my, nL, ret) x y Fin (pc + 1, lv, st, gl_h hC hM (vp_updL f (0 : Int32).toNatClampNeg v), bc, bs)) : gx_Gd (gm_cl, gm_tyl, G, Ts, cc, my, nL, ret) x y Fin (pc, lv, .long v :: .int 0 :: .ref 43 :: st, gl_h hC hM f, bc, bs) := by
  refine gs_last (t := 3) rfl hd x y Fin _ _ _ _ _ (gx_Gd (gm_cl, gm_tyl, G, Ts, cc, my, nL, ret) x y Fin) (fun _ => False) (fun _ _ _ => False) hCx (gi_last.of (gl_o0 h1 h2) ⟨by unfold vp_in; decide, ?_⟩) (fun _ k => k)
  have e := gl_setO (f := f) (g := vp_updL f (0 : Int32).toNatClampNeg v) h1 h2
  unfold gl_o at e
  rw [e]
  exact k
theorem gl_lod (hCx : gx_Cx (gm_cl, gm_tyl, G, Ts, cc, my, nL, ret) x y) (hd : decode cc pc = .ok (.laload, 1)) (h1 : 17 ≤ hC.length) (h2 : hM.length = 26) (k : gx_Gd (gm_cl, gm_tyl, G, Ts, cc, my, nL, ret) x y Fin (pc + 1, lv, .long (f 0) :: st, gl_h hC hM f, bc, bs)) : gx_Gd (gm_cl, gm_tyl, G, Ts, cc, my, nL, ret) x y Fin (pc, lv, .int 0 :: .ref 43 :: st, gl_h hC hM f, bc, bs) :=
  gs_lald (t := 3) rfl hd x y Fin _ _ _ _ _ (gx_Gd (gm_cl, gm_tyl, G, Ts, cc, my, nL, ret) x y Fin) (fun _ => False) (fun _ _ _ => False) hCx (gi_lald.of (gl_o0 h1 h2) ⟨by unfold vp_in; decide, k⟩) (fun _ k => k)
theorem gl_rti {Q : gx_R → Prop} {n : Int32} (hCx : gx_Cx (gm_cl, gm_tyl, G, Ts, cc, my, nL, some .int) x y) (hd : decode cc pc = .ok (.ireturn, 1)) (hQ : Q (.inl (some (.int n)), h)) : gx_Gd (gm_cl, gm_tyl, G, Ts, cc, my, nL, some .int) x y (gx_Fin (gm_cl, gm_tyl, G, Ts, cc, my, nL, some .int) x y Q) (pc, lv, [.int n], h, bc, bs) :=
  gs_ireti hd x y lv [.int n] h bc bs (fun _ => False) Q (fun _ _ _ => False) hCx hQ
end GLP
def gl_cb (v : Int32) : Int64 := if v = 0 then 0 else 1
theorem gj_kk {k k' : Nat} {v v' : Int32} {a a' : gj_A} (h : (k, v, a) = ((k', v', a') : gj_O)) : k = k' := congrArg Prod.fst h
theorem gj_type_k {x : Int32} {a a2 : gj_A} {k : Nat} {v : Int32} (h : gj_type x a (k, v, a2)) : k ≠ 2 := by
  obtain ⟨T, ch, ⟨nn, c⟩, tx, m⟩ := a
  unfold gj_type at h
  cases hc : gp_cs x with
  | none => rw [hc] at h; rw [gj_kk h]; decide
  | some l => rw [hc] at h; rcases h with ⟨-, h⟩ | ⟨-, h⟩ <;> (rw [gj_kk h]; decide)
theorem gj_text_k {x : Int32} {a a2 : gj_A} {k : Nat} {v : Int32} (h : gj_text x a (k, v, a2)) : k ≠ 2 := by
  obtain ⟨T, ch, ln, ⟨Lx, y⟩, m⟩ := a
  unfold gj_text at h
  cases hc : gp_cs x with
  | none => rw [hc] at h; rw [gj_kk h]; decide
  | some l => rw [hc] at h; rcases h with ⟨-, h⟩ | ⟨-, h⟩ <;> (rw [gj_kk h]; decide)
theorem gj_define_k {a a2 : gj_A} {k : Nat} {v : Int32} (h : gj_define a (k, v, a2)) : k ≠ 2 := by
  obtain ⟨T, ch, ⟨nn, c⟩, tx, m⟩ := a
  cases hc : gq_line c nn with
  | none =>
    simp only [gj_define, hc] at h
    rw [gj_kk h]; decide
  | some rt =>
    simp only [gj_define, hc] at h
    rw [gj_kk h]; decide
theorem gj_drop_k {x : Int32} {a a2 : gj_A} {k : Nat} {v : Int32} (h : gj_drop x a (k, v, a2)) : k ≠ 2 := by
  obtain ⟨T, ch, ln, tx, m⟩ := a
  rcases h with ⟨-, h⟩ | ⟨r, -, -, h⟩ <;> (rw [gj_kk h]; decide)
theorem gj_check_k {x : Int32} {a a2 : gj_A} {k : Nat} {v : Int32} (h : gj_check x a (k, v, a2)) : k ≠ 2 := by
  rcases h with ⟨-, h⟩ | ⟨r, -, -, h⟩ <;> (rw [gj_kk h]; decide)
theorem gj_capture_k {x y : Int32} {a a2 : gj_A} {k : Nat} {v : Int32} (h : gj_capture x y a (k, v, a2)) : k ≠ 2 := by
  obtain ⟨T, ch, ln, tx, cp, f, w⟩ := a
  rcases h with ⟨-, h⟩ | ⟨r, s, t, -, -, -, -, h⟩ <;> (rw [gj_kk h]; decide)
