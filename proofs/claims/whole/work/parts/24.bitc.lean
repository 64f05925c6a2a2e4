/-! Long.bitCount. Written by wip/tools/bitc.py. -/
def gc_lu (x : Int64) (y : Int32) : Int64 := (x.toUInt64 >>> (y.toInt64.toUInt64 &&& Int64.toUInt64 63)).toInt64
def gc_b1 (x : Int64) : Int64 := x - (gc_lu x 1 &&& 6148914691236517205)
def gc_b2 (x : Int64) : Int64 := (x &&& 3689348814741910323) + (gc_lu x 2 &&& 3689348814741910323)
def gc_b3 (x : Int64) : Int64 := (x + gc_lu x 4) &&& 1085102592571150095
def gc_b4 (k : Int32) (x : Int64) : Int64 := x + gc_lu x k
def gc_bits (x : Int64) : Int32 := (gc_b4 32 (gc_b4 16 (gc_b4 8 (gc_b3 (gc_b2 (gc_b1 x)))))).toInt32 &&& 127
abbrev gc_yb : MethodName := ⟨"java/lang/Long", "bitCount", "(J)I"⟩
def gi_bitc (nx : Nat) : gx_T := fun S K _ _ => match S with
  | (_, lv, .long x :: st, h, bc, bs) => match Nat.ble (st.map Value.category).sum 8 with
    | true => K (nx, lv, .int (gc_bits x) :: st, h, bc, bs)
    | false => False
  | _ => False
theorem gc_bd0 : decode prog_22_method_50_code 0 = .ok (.lload_n 0, 1) := by decide +kernel
theorem gc_bd1 : decode prog_22_method_50_code 1 = .ok (.lload_n 0, 1) := by decide +kernel
theorem gc_bd2 : decode prog_22_method_50_code 2 = .ok (.iconst 1, 1) := by decide +kernel
theorem gc_bd3 : decode prog_22_method_50_code 3 = .ok (.lushr, 1) := by decide +kernel
theorem gc_bd4 : decode prog_22_method_50_code 4 = .ok (.ldc2_w 314, 3) := by decide +kernel
theorem gc_bd7 : decode prog_22_method_50_code 7 = .ok (.land, 1) := by decide +kernel
theorem gc_bd8 : decode prog_22_method_50_code 8 = .ok (.lsub, 1) := by decide +kernel
theorem gc_bd9 : decode prog_22_method_50_code 9 = .ok (.lstore_n 0, 1) := by decide +kernel
theorem gc_bd10 : decode prog_22_method_50_code 10 = .ok (.lload_n 0, 1) := by decide +kernel
theorem gc_bd11 : decode prog_22_method_50_code 11 = .ok (.ldc2_w 316, 3) := by decide +kernel
theorem gc_bd14 : decode prog_22_method_50_code 14 = .ok (.land, 1) := by decide +kernel
theorem gc_bd15 : decode prog_22_method_50_code 15 = .ok (.lload_n 0, 1) := by decide +kernel
theorem gc_bd16 : decode prog_22_method_50_code 16 = .ok (.iconst 2, 1) := by decide +kernel
theorem gc_bd17 : decode prog_22_method_50_code 17 = .ok (.lushr, 1) := by decide +kernel
theorem gc_bd18 : decode prog_22_method_50_code 18 = .ok (.ldc2_w 316, 3) := by decide +kernel
theorem gc_bd21 : decode prog_22_method_50_code 21 = .ok (.land, 1) := by decide +kernel
theorem gc_bd22 : decode prog_22_method_50_code 22 = .ok (.ladd, 1) := by decide +kernel
theorem gc_bd23 : decode prog_22_method_50_code 23 = .ok (.lstore_n 0, 1) := by decide +kernel
theorem gc_bd24 : decode prog_22_method_50_code 24 = .ok (.lload_n 0, 1) := by decide +kernel
theorem gc_bd25 : decode prog_22_method_50_code 25 = .ok (.lload_n 0, 1) := by decide +kernel
theorem gc_bd26 : decode prog_22_method_50_code 26 = .ok (.iconst 4, 1) := by decide +kernel
theorem gc_bd27 : decode prog_22_method_50_code 27 = .ok (.lushr, 1) := by decide +kernel
theorem gc_bd28 : decode prog_22_method_50_code 28 = .ok (.ladd, 1) := by decide +kernel
theorem gc_bd29 : decode prog_22_method_50_code 29 = .ok (.ldc2_w 318, 3) := by decide +kernel
theorem gc_bd32 : decode prog_22_method_50_code 32 = .ok (.land, 1) := by decide +kernel
theorem gc_bd33 : decode prog_22_method_50_code 33 = .ok (.lstore_n 0, 1) := by decide +kernel
theorem gc_bd34 : decode prog_22_method_50_code 34 = .ok (.lload_n 0, 1) := by decide +kernel
theorem gc_bd35 : decode prog_22_method_50_code 35 = .ok (.lload_n 0, 1) := by decide +kernel
theorem gc_bd36 : decode prog_22_method_50_code 36 = .ok (.bipush 8, 2) := by decide +kernel
theorem gc_bd38 : decode prog_22_method_50_code 38 = .ok (.lushr, 1) := by decide +kernel
theorem gc_bd39 : decode prog_22_method_50_code 39 = .ok (.ladd, 1) := by decide +kernel
theorem gc_bd40 : decode prog_22_method_50_code 40 = .ok (.lstore_n 0, 1) := by decide +kernel
theorem gc_bd41 : decode prog_22_method_50_code 41 = .ok (.lload_n 0, 1) := by decide +kernel
theorem gc_bd42 : decode prog_22_method_50_code 42 = .ok (.lload_n 0, 1) := by decide +kernel
theorem gc_bd43 : decode prog_22_method_50_code 43 = .ok (.bipush 16, 2) := by decide +kernel
theorem gc_bd45 : decode prog_22_method_50_code 45 = .ok (.lushr, 1) := by decide +kernel
theorem gc_bd46 : decode prog_22_method_50_code 46 = .ok (.ladd, 1) := by decide +kernel
theorem gc_bd47 : decode prog_22_method_50_code 47 = .ok (.lstore_n 0, 1) := by decide +kernel
theorem gc_bd48 : decode prog_22_method_50_code 48 = .ok (.lload_n 0, 1) := by decide +kernel
theorem gc_bd49 : decode prog_22_method_50_code 49 = .ok (.lload_n 0, 1) := by decide +kernel
theorem gc_bd50 : decode prog_22_method_50_code 50 = .ok (.bipush 32, 2) := by decide +kernel
theorem gc_bd52 : decode prog_22_method_50_code 52 = .ok (.lushr, 1) := by decide +kernel
theorem gc_bd53 : decode prog_22_method_50_code 53 = .ok (.ladd, 1) := by decide +kernel
theorem gc_bd54 : decode prog_22_method_50_code 54 = .ok (.lstore_n 0, 1) := by decide +kernel
theorem gc_bd55 : decode prog_22_method_50_code 55 = .ok (.lload_n 0, 1) := by decide +kernel
theorem gc_bd56 : decode prog_22_method_50_code 56 = .ok (.l2i, 1) := by decide +kernel
theorem gc_bd57 : decode prog_22_method_50_code 57 = .ok (.bipush 127, 2) := by decide +kernel
theorem gc_bd59 : decode prog_22_method_50_code 59 = .ok (.iand, 1) := by decide +kernel
theorem gc_bd60 : decode prog_22_method_50_code 60 = .ok (.ireturn, 1) := by decide +kernel
theorem gc_bitM {l : Launch} {ws ws' : List Cond} {rm : Room} (hc : rm.cells = 0) (hs : rm.slots = 0) (x : Int64) (hw : ws = Cond.code gc_yb prog_22_method_50_code 2 (some .int) :: ws') (hk314 : Cond.constantLong "java/lang/Long" 314 6148914691236517205 ∈ ws) (hk316 : Cond.constantLong "java/lang/Long" 316 3689348814741910323 ∈ ws) (hk318 : Cond.constantLong "java/lang/Long" 318 1085102592571150095 ∈ ws) :
    Met l gc_yb ws rm (fun a _ => a = #[.long x]) (fun _ st o t => o = .returned (some (.int (gc_bits x))) ∧ t.heap = st.heap) 0 0 (fun _ => False) := by
  refine va_MetF (cc := prog_22_method_50_code) (maxL := 2) (ret := some .int) (by decide +kernel) hw ?_
  intro p e s m args below meth c s₁ B hml hv
  subst hv
  have hts := atoms_spec (ws := ws) B.pre
  have hl0 := lv_entry [Value.long x] (n := 2) (Nat.le_refl 2)
  rw [lg_entry_eq]
  refine lv_lload_n B.exec B.bytes gc_bd0 rfl (lv_at hl0 0 rfl) ?_
  refine lv_lload_n B.exec B.bytes gc_bd1 rfl (lv_at hl0 0 rfl) ?_
  refine lv_iconst B.exec B.bytes gc_bd2 (by decide : Int32.ofInt 1 = 1) ?_
  refine lv_lushr B.exec B.bytes gc_bd3 rfl ?_
  refine lv_ldc2 B.exec B.bytes (findClass_of_methodNamed B.named) (hts _ hk314) gc_bd4 ?_
  refine lv_land B.exec B.bytes gc_bd7 ?_
  refine lv_lsub B.exec B.bytes gc_bd8 ?_
  refine lv_lstore_n B.exec B.bytes (x := (gc_b1 x)) (lv' := [(0, .long (gc_b1 x))]) gc_bd9 rfl hl0 (by decide) rfl (fun ls1 hl1 => ?_)
  refine lv_lload_n B.exec B.bytes gc_bd10 rfl (lv_at hl1 0 rfl) ?_
  refine lv_ldc2 B.exec B.bytes (findClass_of_methodNamed B.named) (hts _ hk316) gc_bd11 ?_
  refine lv_land B.exec B.bytes gc_bd14 ?_
  refine lv_lload_n B.exec B.bytes gc_bd15 rfl (lv_at hl1 0 rfl) ?_
  refine lv_iconst B.exec B.bytes gc_bd16 (by decide : Int32.ofInt 2 = 2) ?_
  refine lv_lushr B.exec B.bytes gc_bd17 rfl ?_
  refine lv_ldc2 B.exec B.bytes (findClass_of_methodNamed B.named) (hts _ hk316) gc_bd18 ?_
  refine lv_land B.exec B.bytes gc_bd21 ?_
  refine lv_ladd B.exec B.bytes gc_bd22 ?_
  refine lv_lstore_n B.exec B.bytes (x := (gc_b2 (gc_b1 x))) (lv' := [(0, .long (gc_b2 (gc_b1 x)))]) gc_bd23 rfl hl1 (by decide) rfl (fun ls2 hl2 => ?_)
  refine lv_lload_n B.exec B.bytes gc_bd24 rfl (lv_at hl2 0 rfl) ?_
  refine lv_lload_n B.exec B.bytes gc_bd25 rfl (lv_at hl2 0 rfl) ?_
  refine lv_iconst B.exec B.bytes gc_bd26 (by decide : Int32.ofInt 4 = 4) ?_
  refine lv_lushr B.exec B.bytes gc_bd27 rfl ?_
  refine lv_ladd B.exec B.bytes gc_bd28 ?_
  refine lv_ldc2 B.exec B.bytes (findClass_of_methodNamed B.named) (hts _ hk318) gc_bd29 ?_
  refine lv_land B.exec B.bytes gc_bd32 ?_
  refine lv_lstore_n B.exec B.bytes (x := (gc_b3 (gc_b2 (gc_b1 x)))) (lv' := [(0, .long (gc_b3 (gc_b2 (gc_b1 x))))]) gc_bd33 rfl hl2 (by decide) rfl (fun ls3 hl3 => ?_)
  refine lv_lload_n B.exec B.bytes gc_bd34 rfl (lv_at hl3 0 rfl) ?_
  refine lv_lload_n B.exec B.bytes gc_bd35 rfl (lv_at hl3 0 rfl) ?_
  refine lv_bipush B.exec B.bytes gc_bd36 (by decide : (Int8.ofInt 8).toInt32 = 8) ?_
  refine lv_lushr B.exec B.bytes gc_bd38 rfl ?_
  refine lv_ladd B.exec B.bytes gc_bd39 ?_
  refine lv_lstore_n B.exec B.bytes (x := (gc_b4 8 (gc_b3 (gc_b2 (gc_b1 x))))) (lv' := [(0, .long (gc_b4 8 (gc_b3 (gc_b2 (gc_b1 x)))))]) gc_bd40 rfl hl3 (by decide) rfl (fun ls4 hl4 => ?_)
  refine lv_lload_n B.exec B.bytes gc_bd41 rfl (lv_at hl4 0 rfl) ?_
  refine lv_lload_n B.exec B.bytes gc_bd42 rfl (lv_at hl4 0 rfl) ?_
  refine lv_bipush B.exec B.bytes gc_bd43 (by decide : (Int8.ofInt 16).toInt32 = 16) ?_
  refine lv_lushr B.exec B.bytes gc_bd45 rfl ?_
  refine lv_ladd B.exec B.bytes gc_bd46 ?_
  refine lv_lstore_n B.exec B.bytes (x := (gc_b4 16 (gc_b4 8 (gc_b3 (gc_b2 (gc_b1 x)))))) (lv' := [(0, .long (gc_b4 16 (gc_b4 8 (gc_b3 (gc_b2 (gc_b1 x))))))]) gc_bd47 rfl hl4 (by decide) rfl (fun ls5 hl5 => ?_)
  refine lv_lload_n B.exec B.bytes gc_bd48 rfl (lv_at hl5 0 rfl) ?_
  refine lv_lload_n B.exec B.bytes gc_bd49 rfl (lv_at hl5 0 rfl) ?_
  refine lv_bipush B.exec B.bytes gc_bd50 (by decide : (Int8.ofInt 32).toInt32 = 32) ?_
  refine lv_lushr B.exec B.bytes gc_bd52 rfl ?_
  refine lv_ladd B.exec B.bytes gc_bd53 ?_
  refine lv_lstore_n B.exec B.bytes (x := (gc_b4 32 (gc_b4 16 (gc_b4 8 (gc_b3 (gc_b2 (gc_b1 x))))))) (lv' := [(0, .long (gc_b4 32 (gc_b4 16 (gc_b4 8 (gc_b3 (gc_b2 (gc_b1 x)))))))]) gc_bd54 rfl hl5 (by decide) rfl (fun ls6 hl6 => ?_)
  refine lv_lload_n B.exec B.bytes gc_bd55 rfl (lv_at hl6 0 rfl) ?_
  refine lv_l2i B.exec B.bytes gc_bd56 rfl ?_
  refine lv_bipush B.exec B.bytes gc_bd57 (by decide : (Int8.ofInt 127).toInt32 = 127) ?_
  refine lv_iand B.exec B.bytes gc_bd59 ?_
  exact W.iret (v := gc_bits x) B.exec B.bytes B.returns (fun t ht _ => ⟨rfl, ht⟩) (fun q hq => by cases hq) gc_bd60 B.notSynchronized
section GXB
variable {cl : List vw_C} {tyl : List FieldType} {Ts : List Cond} {G : (Nat → Nat) → (Nat → Prop) → State → Heap → Prop} {cc : ByteArray} {my : MethodName} {nL : Nat} {ret : Option FieldType} {pc : Nat} {l : Launch} {zs : Nat → gx_M} {idx : Nat}
theorem gs_bitc {Ts' : List Cond} (hG : GoodIn Ts (Cond.code gc_yb prog_22_method_50_code 2 (some .int) :: Ts')) (hk314 : Cond.constantLong "java/lang/Long" 314 6148914691236517205 ∈ Ts') (hk316 : Cond.constantLong "java/lang/Long" 316 3689348814741910323 ∈ Ts') (hk318 : Cond.constantLong "java/lang/Long" 318 1085102592571150095 ∈ Ts') (hini : Cond.initialized "java/lang/Long" ∈ Ts) (hlink : Cond.methodLink my.cls idx gc_yb ∈ Ts) (hstat : Cond.static gc_yb ∈ Ts) (hd : decode cc pc = .ok (.invokestatic idx, 3)) : gx_Sn l zs (cl, tyl, G, Ts, cc, my, nL, ret) pc (gi_bitc (pc + 3)) := by
  rintro ⟨p, l', e, R, s, m, args, below, meth, c⟩ ⟨D, dT, sp, A, n0, ad0⟩ d lv st h bc bs K Q C e1 ⟨⟨hx, hb, hml, hown, hnm0, hret⟩, hts, hK0, hA, hlk, hG0⟩ hex hf hlo hT hK hC ad H locs ls hh hv hs hc1 hc2
  have e1 : l' = l := e1
  subst e1
  have hf : R.frames = d + 20 := hf
  have hlo : R.locals = 64 * d + 2000 := hlo
  rcases st with _ | ⟨v, st⟩
  · exact False.elim hT
  cases v with
  | long x =>
    cases hb2 : Nat.ble (st.map Value.category).sum 8 with
    | false => simp only [gi_bitc, hb2] at hT
    | true =>
      simp only [gi_bitc, hb2] at hT
      have hsum := Nat.le_of_ble_eq_true hb2
      have hM := gc_bitM (l := l') (rm := { frames := 0, cells := 0, slots := 0, locals := 40 }) rfl rfl x rfl (List.mem_cons_of_mem _ hk314) (List.mem_cons_of_mem _ hk316) (List.mem_cons_of_mem _ hk318)
      have hr : va_Run p l' e R s m args below meth c H locs (R.cells - bc) (R.slots - bs) 0 0 (F0 m pc ls (.long x :: st.map (gx_v sp ad))) (st.map (gx_v sp ad)) _ (fun _ => False) :=
        va_runS (As := [.long x]) (rest := st.map (gx_v sp ad)) ⟨hx, hb, hml, hown, hts⟩ hM ⟨callB_of 1 hts hG rfl rfl rfl (hts _ hini) (hts _ hlink) (by decide +kernel) ⟨by show 0 + 1 ≤ R.frames; omega, by show 8 + (2 + 11) + 40 ≤ R.locals; omega⟩, hts _ hstat⟩ ⟨fun a9 U g mk q => q, fun U hU hW => rfl⟩
          rfl rfl hv.1 rfl (by rw [gx_catsum]; show 2 * 0 + _ ≤ 8; omega) hd ⟨by omega, by omega⟩
      intro T hT9 X
      obtain ⟨v, st₀, t, T', L, h0, X', hL, e3, e4, ⟨ho, hhp⟩, go⟩ := hr T hT9 X
      have ev : v = some (.int (gc_bits x)) := Outcome.returned.inj ho
      subst ev
      have eL : L = [] := List.eq_nil_iff_forall_not_mem.mpr (fun q hq => hL q hq)
      subst eL
      rw [List.append_nil] at X'
      have hT2 : T'.heap = H := by rw [e3, hhp, h0]
      obtain ⟨t2, a1, b1⟩ := hK _ hT ad H locs ls hh hv (fun w hm => by
        rcases List.mem_cons.mp hm with e9 | e9
        · rw [e9]; trivial
        · exact hs w (List.mem_cons_of_mem _ e9)) hc1 hc2 T' hT2 X'
      exact ⟨t2, go t2 a1, b1⟩
  | _ => exact False.elim hT
end GXB
