/-! The law: its words, the contracts of what it calls on its own heap. -/
def gl_G (L : Nat) (xs : Nat → Int32) (sp : Nat → Nat) (A : Nat → Prop) (U : State) (H : Heap) : Prop := gc_G L xs sp A U H ∧ va_Nc "java/lang/IllegalStateException" "java/lang/IndexOutOfBoundsException" U
theorem gl_GG {L : Nat} {xs : Nat → Int32} : ∀ sp A U H, gl_G L xs sp A U H → gc_G L xs sp A U H := fun _ _ _ _ h => h.1
theorem gl_Gok (L : Nat) (xs : Nat → Int32) : gx_Gok (gl_G L xs) :=
  ⟨fun sp A u U H hW h => ⟨(gc_Gok L xs).1 sp A u U H hW h.1, h.2.moved hW.alike⟩, fun sp A U H H1 hq hz h => ⟨(gc_Gok L xs).2.1 sp A U H H1 hq hz h.1, h.2⟩, fun sp A B U H hAB h => ⟨(gc_Gok L xs).2.2 sp A B U H hAB h.1, h.2⟩⟩
theorem gl_GX {L : Nat} {xs : Nat → Int32} : ∀ sp A U H, gl_G L xs sp A U H → va_X (sp 0) L xs U H ∧ sp 0 < H.size ∧ ¬ A (sp 0) := fun sp A U H h => by
  obtain ⟨⟨-, -, -, -, -, -, h12, h13, h14⟩, -⟩ := h
  exact ⟨h13, h14, h12 0 (by decide)⟩
def gl_ints (As : List Value) : Prop := ∀ v ∈ As, ∃ i, v = Value.int i
theorem gl_ints.map {As : List Value} (h : gl_ints As) (sg : Nat → Nat) : As.map (gy_v sg) = As := by
  have e : As.map (gy_v sg) = As.map id := List.map_congr_left (fun v hv => by obtain ⟨i, rfl⟩ := h v hv; rfl)
  rw [e, List.map_id]
theorem gl_ints.cat {As : List Value} (h : gl_ints As) : ∀ v ∈ As, v.category = 1 := fun v hv => by obtain ⟨i, rfl⟩ := h v hv; rfl
section GLMT
variable {l : Launch} {L : Nat} {xs : Nat → Int32} {D : va_G} {dT : Nat → ClassId} {sp : Nat → Nat} {d mC mM kc ks nL' : Nat} {Ts' : List Cond} {cc' : ByteArray} {my' : MethodName} {ret' : Option FieldType} {hC hM : gx_H} {f : Nat → Int64} {As : List Value} {Q Q' : gx_R → Prop}
theorem gl_mtC (hl : l.stackTraces = false) (ez : gc_z (gc_G L xs) mC = (gm_cl, gm_tyl, gc_G L xs, Ts', cc', my', nL', ret')) (hAs : gl_ints As) (h1 : 17 ≤ hC.length) (h2 : hM.length = 26) (oC : gx_okH hC) (oM : gx_okH hM)
    (hX : gx_X gc_P d mC (0, (Value.ref 0 :: As).map some ++ List.replicate (nL' - (Value.ref 0 :: As).length) none, [], hC, kc, ks) Q') (hQ : ∀ r hC2, Q' (r, hC2) → gx_okH hC2 → hC.length ≤ hC2.length → Q (gy_r gl_s r, gl_h hC2 hM f)) :
    gx_Mt l (gm_cl, gm_tyl, gl_G L xs, Ts', cc', my', nL', ret') D dT sp d (0, (Value.ref 0 :: As).map some ++ List.replicate (nL' - (Value.ref 0 :: As).length) none, [], gl_h hC hM f, kc, ks) Q := by
  have hM0 := gx_sound (gc_ok L xs hl) gc_zok hX D dT sp
  rw [ez] at hM0
  have hM1 := gy_frame (Q := Q) (h := gl_h hC hM f) (rh := gl_si) (gc_Gok L xs) hM0 (gl_inC h1 h2) gl_s_i oC (fun v hv => by
    rcases List.mem_cons.mp hv with e | e
    · rw [e]; show 0 < hC.length; omega
    · obtain ⟨i, rfl⟩ := hAs v e; trivial) (fun r h2' hq o2 hle => ⟨gl_h h2' hM f, hQ r h2' hq o2 hle, gl_toC h1 h2 hle o2 oM⟩)
  rw [List.map_cons, hAs.map gl_s] at hM1
  exact gy_G gl_GG hM1
theorem gl_mtM (ez : gm_z (gl_G L xs) mM = (gm_cl, gm_tyl, gl_G L xs, Ts', cc', my', nL', ret')) (hAs : gl_ints As) (h1 : 17 ≤ hC.length) (h2 : hM.length = 26) (oC : gx_okH hC) (oM : gx_okH hM)
    (hX : gx_X gm_P d mM (0, (Value.ref 0 :: As).map some ++ List.replicate (nL' - (Value.ref 0 :: As).length) none, [], hM, kc, ks) Q') (hQ : ∀ r hM2, Q' (r, hM2) → gx_okH hM2 → hM2.length = 26 ∧ Q (gy_r gl_t r, gl_h hC hM2 f)) :
    gx_Mt l (gm_cl, gm_tyl, gl_G L xs, Ts', cc', my', nL', ret') D dT sp d (0, (Value.ref 17 :: As).map some ++ List.replicate (nL' - (Value.ref 17 :: As).length) none, [], gl_h hC hM f, kc, ks) Q := by
  have hM0 := gx_sound (gm_ok (gl_Gok L xs) l) gm_zok hX D dT sp
  rw [ez] at hM0
  have hM1 := gy_frame (Q := Q) (h := gl_h hC hM f) (rh := gl_ti) (gl_Gok L xs) hM0 (gl_inM h1 h2) gl_t_i oM (fun v hv => by
    rcases List.mem_cons.mp hv with e | e
    · rw [e]; show 0 < hM.length; omega
    · obtain ⟨i, rfl⟩ := hAs v e; trivial) (fun r h2' hq o2 hle => ⟨gl_h hC h2' f, (hQ r h2' hq o2).2, gl_toM h1 h2 (hQ r h2' hq o2).1 oC o2⟩)
  rw [List.map_cons, hAs.map gl_t] at hM1
  exact hM1
theorem gl_okD {n : Nat} {ci : Nat} {fs : List Value} (h : fs.all gc_isD = true) : gx_okE n (.inr (ci, fs)) := fun v hv => ((gc_dflt h v hv).1).le (Nat.zero_le _)
/-- GrammarMachine() -/
theorem gl_mtC0 (hl : l.stackTraces = false) (ez : gc_z (gc_G L xs) 0 = (gm_cl, gm_tyl, gc_G L xs, Ts', cc', my', 1, none)) (hk : 16 ≤ kc) (hs : 3522 ≤ ks) (hQ : gx_okH (gc_h gc_S0 (fun _ => none) (fun _ => 0) []) → Q (.inl none, (gc_h gc_S0 (fun _ => none) (fun _ => 0) []).map (gy_e gl_s))) :
    gx_Mt l (gm_cl, gm_tyl, gl_G L xs, Ts', cc', my', 1, none) D dT sp (d + 2) (0, [Value.ref 0].map some ++ List.replicate (1 - 1) none, [], [.inr (0, [.null, .null, .null, .null, .null, .int 0, .int 0, .int 0])], kc, ks) Q := by
  have hM0 := gx_sound (gc_ok L xs hl) gc_zok (gc_init (d := d) (Q := fun r => r = (.inl none, gc_h gc_S0 (fun _ => none) (fun _ => 0) [])) hk hs rfl) D dT sp
  rw [ez] at hM0
  have hM1 := gy_frame (As := [.ref 0]) (Q := Q) (h := [.inr (0, [.null, .null, .null, .null, .null, .int 0, .int 0, .int 0])]) (sg := gl_s) (rh := gl_si) (gc_Gok L xs) hM0 (fun k e he => by
    cases k with
    | zero => cases he; rfl
    | succ k => cases he) gl_s_i (fun k e he => by
    cases k with
    | zero => cases he; exact gl_okD rfl
    | succ k => cases he) (fun v hv => by
    rcases List.mem_cons.mp hv with e | e
    · rw [e]; exact Nat.zero_lt_one
    · cases e) (fun r h2' hq o2 hle => by
    cases hq
    exact ⟨_, hQ o2, gl_new1 rfl o2⟩)
  exact gy_G gl_GG hM1
/-- GrammarMachineModel() -/
theorem gl_mtM0 {a : gx_H} (ez : gm_z (gl_G L xs) 0 = (gm_cl, gm_tyl, gl_G L xs, Ts', cc', my', 1, none)) (ha : a.length = 17) (oa : gx_okH a) (hk : 25 ≤ kc) (hs : 9501 ≤ ks) (hQ : gx_okH (gm_h gm_S0) → Q (.inl none, a ++ (gm_h gm_S0).map (gy_e gl_t))) {fs : List Value} (hf : fs = [.int 0, .null, .int 0, .null, .int 0, .null, .null, .null, .null, .null, .null, .null, .null, .null, .null, .null, .null, .int 0, .int 0, .int 0, .null, .null, .null, .null, .null, .null, .null, .null, .int 0, .null, .int 0, .null, .null, .int 0, .int 0]) :
    gx_Mt l (gm_cl, gm_tyl, gl_G L xs, Ts', cc', my', 1, none) D dT sp (d + 1) (0, [Value.ref 17].map some ++ List.replicate (1 - 1) none, [], a ++ [.inr (4, fs)], kc, ks) Q := by
  subst hf
  have hM0 := gx_sound (gm_ok (gl_Gok L xs) l) gm_zok (gm_init (d := d) (Q := fun r => r = (.inl none, gm_h gm_S0)) hk hs rfl) D dT sp
  rw [ez] at hM0
  exact gy_frame (As := [.ref 0]) (Q := Q) (sg := gl_t) (rh := gl_ti) (gl_Gok L xs) hM0 (fun k e he => by
    cases k with
    | zero =>
      cases he
      show (a ++ _)[17]? = _
      rw [List.getElem?_append_right (by omega), ha]
      rfl
    | succ k => cases he) gl_t_i (fun k e he => by
    cases k with
    | zero => cases he; exact gl_okD rfl
    | succ k => cases he) (fun v hv => by
    rcases List.mem_cons.mp hv with e | e
    · rw [e]; exact Nat.zero_lt_one
    · cases e) (fun r h2' hq o2 hle => by
    cases hq
    exact ⟨_, hQ o2, gl_new2 ha oa rfl o2⟩)
end GLMT
/-- rows of a table at once, up to a stop or what is no row -/
def gl_bs (tb : List (Nat × gx_T)) (stop : List Nat) (Gd : gx_S → Prop) : Nat → gx_S → Prop
  | 0, S => Gd S
  | k + 1, S => match gx_find S.1 tb with
    | some T => T S (fun S' => match gx_isin S'.1 stop with
      | true => Gd S'
      | false => gl_bs tb stop Gd k S') (fun _ => False) (fun _ _ _ => False)
    | none => Gd S
theorem gl_bs.go {z : gx_M} {x : gx_C} {y : gx_D} {Fin : State → Prop} {tb : List (Nat × gx_T)} (hC : gx_Cx z x y) (ht : gx_all (gx_s1 z) tb) (stop : List Nat) : ∀ (k : Nat) {S : gx_S}, gl_bs tb stop (gx_Gd z x y Fin) k S → gx_Gd z x y Fin S
  | 0, S, h => h
  | k + 1, S, h => by
    have h1 : (match gx_find S.1 tb with
      | some T => T S (fun S' => match gx_isin S'.1 stop with
        | true => gx_Gd z x y Fin S'
        | false => gl_bs tb stop (gx_Gd z x y Fin) k S') (fun _ => False) (fun _ _ _ => False)
      | none => gx_Gd z x y Fin S) := h
    cases hT : gx_find S.1 tb with
    | none => rw [hT] at h1; exact h1
    | some T =>
      rw [hT] at h1
      obtain ⟨pc, lv, st, hp, bc, bs⟩ := S
      refine ht.find hT x y Fin lv st hp bc bs _ _ _ hC h1 (fun S' hk => ?_)
      cases hi : gx_isin S'.1 stop with
      | true => rw [hi] at hk; exact hk
      | false => rw [hi] at hk; exact gl_bs.go hC ht stop k hk
