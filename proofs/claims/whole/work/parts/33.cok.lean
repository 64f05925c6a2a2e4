/-! The tables of the class are right. -/
/-- the one receiver of an interface's call -/
theorem gc_selfF {cl : List vw_C} {tyl : List FieldType} {G : (Nat → Nat) → (Nat → Prop) → State → Heap → Prop} {zs : Nat → gx_M} {Ts Ts' Ts'' : List Cond} {LF : String → MethodName → List Cond} {P : String → MethodName → Prop} {ci m1 n1 k N : Nat} {Cn : String} {T : u_T} {cc' : ByteArray} {my' : MethodName} {ret' : Option FieldType} (hc : cl[ci]? = some (Cn, T, N)) (ez : zs m1 = (cl, tyl, G, Ts', cc', my', n1, ret')) (hG : GoodIn Ts Ts') (hw : Ts' = Cond.code my' cc' n1 ret' :: Ts'') (hL : GoodIn Ts (LF Cn my')) (hP : P Cn my') (h1 : n1 ≤ 45) (h2 : k + 1 ≤ n1) :
    ∀ c m' nL', gx_sel ci m1 n1 c = some (m', nL') → ∃ (Cn : String) (T9 : u_T) (N9 : Nat) (Ts' Ts'' : List Cond) (cc' : ByteArray) (my' : MethodName) (ret' : Option FieldType), cl[c]? = some (Cn, T9, N9) ∧ zs m' = (cl, tyl, G, Ts', cc', my', nL', ret') ∧ GoodIn Ts Ts' ∧ Ts' = Cond.code my' cc' nL' ret' :: Ts'' ∧ GoodIn Ts (LF Cn my') ∧ P Cn my' ∧ nL' ≤ 45 ∧ k + 1 ≤ nL' := by
  intro c m' nL' h
  unfold gx_sel at h
  cases hb : Nat.beq c ci with
  | false => rw [hb] at h; cases h
  | true =>
    rw [hb] at h
    cases h
    have e : c = ci := Nat.eq_of_beq_eq_true hb
    subst e
    exact ⟨_, _, _, _, _, _, _, _, hc, ez, hG, hw, hL, hP, h1, h2⟩
def gc_isD : Value → Bool
  | .int _ => true
  | .null => true
  | _ => false
theorem gc_dflt {l : List Value} (h : l.all gc_isD = true) : ∀ u ∈ l, gx_ok 0 u ∧ ∀ sp ad : Nat → Nat, gx_v sp ad u = u := fun u hu => by
  have h1 := List.all_eq_true.mp h u hu
  cases u with
  | int x => exact ⟨trivial, fun _ _ => rfl⟩
  | null => exact ⟨trivial, fun _ _ => rfl⟩
  | _ => cases h1
theorem gc_u_emptyable {L : Nat} {xs : Nat → Int32} {x : Cond} {own : String} {idx : Nat} (hw : Cond.methodLink own idx ⟨"GrammarMachine$Pattern", "emptyable", "(I)Z"⟩ ∈ gm_WS) : ∀ c m' nL', gc_sel_emptyable c = some (m', nL') → ∃ (Cn : String) (T9 : u_T) (N9 : Nat) (Ts' Ts'' : List Cond) (cc' : ByteArray) (my' : MethodName) (ret' : Option FieldType), gm_cl[c]? = some (Cn, T9, N9) ∧ gc_z (gc_G L xs) m' = (gm_cl, gm_tyl, gc_G L xs, Ts', cc', my', nL', ret') ∧ GoodIn (x :: gm_WS) Ts' ∧ Ts' = Cond.code my' cc' nL' ret' :: Ts'' ∧ GoodIn (x :: gm_WS) [.methodLink own idx ⟨"GrammarMachine$Pattern", "emptyable", "(I)Z"⟩, .sameMethod "GrammarMachine$Pattern" "GrammarMachine$Pattern" "emptyable" "(I)Z", .selects Cn ⟨"GrammarMachine$Pattern", "emptyable", "(I)Z"⟩ my', .instanceMethod my', .initialized my'.cls] ∧ nL' ≤ 45 ∧ 1 + 1 ≤ nL' := by
  intro c m' nL' h
  have hm := gx_sels_mem h
  simp only [List.mem_cons, List.not_mem_nil, or_false, Prod.mk.injEq] at hm
  rcases hm with ⟨rfl, rfl, rfl⟩ | ⟨rfl, rfl, rfl⟩ | ⟨rfl, rfl, rfl⟩ | ⟨rfl, rfl, rfl⟩ | ⟨rfl, rfl, rfl⟩ | ⟨rfl, rfl, rfl⟩ | ⟨rfl, rfl, rfl⟩
  · exact ⟨gm_R5, gm_T5, 2, _, _, _, _, _, rfl, rfl, gm_good gc_k62, rfl, gc_good5 hw gc_w599 gc_w659 gc_w652 gc_w13, by decide, by decide⟩
  · exact ⟨gm_R6, gm_T6, 1, _, _, _, _, _, rfl, rfl, gm_good gc_k59, rfl, gc_good5 hw gc_w599 gc_w656 gc_w638 gc_w14, by decide, by decide⟩
  · exact ⟨gm_R7, gm_T7, 1, _, _, _, _, _, rfl, rfl, gm_good gc_k56, rfl, gc_good5 hw gc_w599 gc_w600 gc_w601 gc_w12, by decide, by decide⟩
  · exact ⟨gm_R8, gm_T8, 3, _, _, _, _, _, rfl, rfl, gm_good gc_k60, rfl, gc_good5 hw gc_w599 gc_w657 gc_w641 gc_w15, by decide, by decide⟩
  · exact ⟨gm_R9, gm_T9, 2, _, _, _, _, _, rfl, rfl, gm_good gc_k58, rfl, gc_good5 hw gc_w599 gc_w655 gc_w636 gc_w16, by decide, by decide⟩
  · exact ⟨gm_R10, gm_T10, 1, _, _, _, _, _, rfl, rfl, gm_good gc_k61, rfl, gc_good5 hw gc_w599 gc_w658 gc_w644 gc_w17, by decide, by decide⟩
  · exact ⟨gm_R11, gm_T11, 1, _, _, _, _, _, rfl, rfl, gm_good gc_k57, rfl, gc_good5 hw gc_w599 gc_w654 gc_w604 gc_w24, by decide, by decide⟩
theorem gc_u_starts {L : Nat} {xs : Nat → Int32} {x : Cond} {own : String} {idx : Nat} (hw : Cond.methodLink own idx ⟨"GrammarMachine$Pattern", "starts", "(I)I"⟩ ∈ gm_WS) : ∀ c m' nL', gc_sel_starts c = some (m', nL') → ∃ (Cn : String) (T9 : u_T) (N9 : Nat) (Ts' Ts'' : List Cond) (cc' : ByteArray) (my' : MethodName) (ret' : Option FieldType), gm_cl[c]? = some (Cn, T9, N9) ∧ gc_z (gc_G L xs) m' = (gm_cl, gm_tyl, gc_G L xs, Ts', cc', my', nL', ret') ∧ GoodIn (x :: gm_WS) Ts' ∧ Ts' = Cond.code my' cc' nL' ret' :: Ts'' ∧ GoodIn (x :: gm_WS) [.methodLink own idx ⟨"GrammarMachine$Pattern", "starts", "(I)I"⟩, .sameMethod "GrammarMachine$Pattern" "GrammarMachine$Pattern" "starts" "(I)I", .selects Cn ⟨"GrammarMachine$Pattern", "starts", "(I)I"⟩ my', .instanceMethod my', .initialized my'.cls] ∧ nL' ≤ 45 ∧ 1 + 1 ≤ nL' := by
  intro c m' nL' h
  have hm := gx_sels_mem h
  simp only [List.mem_cons, List.not_mem_nil, or_false, Prod.mk.injEq] at hm
  rcases hm with ⟨rfl, rfl, rfl⟩ | ⟨rfl, rfl, rfl⟩ | ⟨rfl, rfl, rfl⟩ | ⟨rfl, rfl, rfl⟩ | ⟨rfl, rfl, rfl⟩ | ⟨rfl, rfl, rfl⟩ | ⟨rfl, rfl, rfl⟩
  · exact ⟨gm_R5, gm_T5, 2, _, _, _, _, _, rfl, rfl, gm_good gc_k70, rfl, gc_good5 hw gc_w666 gc_w692 gc_w685 gc_w13, by decide, by decide⟩
  · exact ⟨gm_R6, gm_T6, 1, _, _, _, _, _, rfl, rfl, gm_good gc_k67, rfl, gc_good5 hw gc_w666 gc_w689 gc_w677 gc_w14, by decide, by decide⟩
  · exact ⟨gm_R7, gm_T7, 1, _, _, _, _, _, rfl, rfl, gm_good gc_k64, rfl, gc_good5 hw gc_w666 gc_w667 gc_w668 gc_w12, by decide, by decide⟩
  · exact ⟨gm_R8, gm_T8, 3, _, _, _, _, _, rfl, rfl, gm_good gc_k68, rfl, gc_good5 hw gc_w666 gc_w690 gc_w679 gc_w15, by decide, by decide⟩
  · exact ⟨gm_R9, gm_T9, 2, _, _, _, _, _, rfl, rfl, gm_good gc_k66, rfl, gc_good5 hw gc_w666 gc_w688 gc_w674 gc_w16, by decide, by decide⟩
  · exact ⟨gm_R10, gm_T10, 1, _, _, _, _, _, rfl, rfl, gm_good gc_k69, rfl, gc_good5 hw gc_w666 gc_w691 gc_w682 gc_w17, by decide, by decide⟩
  · exact ⟨gm_R11, gm_T11, 1, _, _, _, _, _, rfl, rfl, gm_good gc_k65, rfl, gc_good5 hw gc_w666 gc_w687 gc_w671 gc_w24, by decide, by decide⟩
theorem gc_u_goesRound {L : Nat} {xs : Nat → Int32} {x : Cond} {own : String} {idx : Nat} (hw : Cond.methodLink own idx ⟨"GrammarMachine$Pattern", "goesRound", "(I)Z"⟩ ∈ gm_WS) : ∀ c m' nL', gc_sel_goesRound c = some (m', nL') → ∃ (Cn : String) (T9 : u_T) (N9 : Nat) (Ts' Ts'' : List Cond) (cc' : ByteArray) (my' : MethodName) (ret' : Option FieldType), gm_cl[c]? = some (Cn, T9, N9) ∧ gc_z (gc_G L xs) m' = (gm_cl, gm_tyl, gc_G L xs, Ts', cc', my', nL', ret') ∧ GoodIn (x :: gm_WS) Ts' ∧ Ts' = Cond.code my' cc' nL' ret' :: Ts'' ∧ GoodIn (x :: gm_WS) [.methodLink own idx ⟨"GrammarMachine$Pattern", "goesRound", "(I)Z"⟩, .sameMethod "GrammarMachine$Pattern" "GrammarMachine$Pattern" "goesRound" "(I)Z", .selects Cn ⟨"GrammarMachine$Pattern", "goesRound", "(I)Z"⟩ my', .instanceMethod my', .initialized my'.cls] ∧ nL' ≤ 45 ∧ 1 + 1 ≤ nL' := by
  intro c m' nL' h
  have hm := gx_sels_mem h
  simp only [List.mem_cons, List.not_mem_nil, or_false, Prod.mk.injEq] at hm
  rcases hm with ⟨rfl, rfl, rfl⟩ | ⟨rfl, rfl, rfl⟩ | ⟨rfl, rfl, rfl⟩ | ⟨rfl, rfl, rfl⟩ | ⟨rfl, rfl, rfl⟩ | ⟨rfl, rfl, rfl⟩ | ⟨rfl, rfl, rfl⟩
  · exact ⟨gm_R5, gm_T5, 2, _, _, _, _, _, rfl, rfl, gm_good gc_k78, rfl, gc_good5 hw gc_w699 gc_w725 gc_w718 gc_w13, by decide, by decide⟩
  · exact ⟨gm_R6, gm_T6, 1, _, _, _, _, _, rfl, rfl, gm_good gc_k75, rfl, gc_good5 hw gc_w699 gc_w722 gc_w710 gc_w14, by decide, by decide⟩
  · exact ⟨gm_R7, gm_T7, 1, _, _, _, _, _, rfl, rfl, gm_good gc_k72, rfl, gc_good5 hw gc_w699 gc_w700 gc_w701 gc_w12, by decide, by decide⟩
  · exact ⟨gm_R8, gm_T8, 3, _, _, _, _, _, rfl, rfl, gm_good gc_k76, rfl, gc_good5 hw gc_w699 gc_w723 gc_w712 gc_w15, by decide, by decide⟩
  · exact ⟨gm_R9, gm_T9, 2, _, _, _, _, _, rfl, rfl, gm_good gc_k74, rfl, gc_good5 hw gc_w699 gc_w721 gc_w707 gc_w16, by decide, by decide⟩
  · exact ⟨gm_R10, gm_T10, 1, _, _, _, _, _, rfl, rfl, gm_good gc_k77, rfl, gc_good5 hw gc_w699 gc_w724 gc_w715 gc_w17, by decide, by decide⟩
  · exact ⟨gm_R11, gm_T11, 1, _, _, _, _, _, rfl, rfl, gm_good gc_k73, rfl, gc_good5 hw gc_w699 gc_w720 gc_w704 gc_w24, by decide, by decide⟩
theorem gc_u_endFrom {L : Nat} {xs : Nat → Int32} {x : Cond} {own : String} {idx : Nat} (hw : Cond.methodLink own idx ⟨"GrammarMachine$Pattern", "endFrom", "(ILGrammarMachine$Chart;)I"⟩ ∈ gm_WS) : ∀ c m' nL', gc_sel_endFrom c = some (m', nL') → ∃ (Cn : String) (T9 : u_T) (N9 : Nat) (Ts' Ts'' : List Cond) (cc' : ByteArray) (my' : MethodName) (ret' : Option FieldType), gm_cl[c]? = some (Cn, T9, N9) ∧ gc_z (gc_G L xs) m' = (gm_cl, gm_tyl, gc_G L xs, Ts', cc', my', nL', ret') ∧ GoodIn (x :: gm_WS) Ts' ∧ Ts' = Cond.code my' cc' nL' ret' :: Ts'' ∧ GoodIn (x :: gm_WS) [.methodLink own idx ⟨"GrammarMachine$Pattern", "endFrom", "(ILGrammarMachine$Chart;)I"⟩, .sameMethod "GrammarMachine$Pattern" "GrammarMachine$Pattern" "endFrom" "(ILGrammarMachine$Chart;)I", .selects Cn ⟨"GrammarMachine$Pattern", "endFrom", "(ILGrammarMachine$Chart;)I"⟩ my', .instanceMethod my', .initialized my'.cls] ∧ nL' ≤ 45 ∧ 2 + 1 ≤ nL' := by
  intro c m' nL' h
  have hm := gx_sels_mem h
  simp only [List.mem_cons, List.not_mem_nil, or_false, Prod.mk.injEq] at hm
  rcases hm with ⟨rfl, rfl, rfl⟩ | ⟨rfl, rfl, rfl⟩ | ⟨rfl, rfl, rfl⟩ | ⟨rfl, rfl, rfl⟩ | ⟨rfl, rfl, rfl⟩ | ⟨rfl, rfl, rfl⟩ | ⟨rfl, rfl, rfl⟩
  · exact ⟨gm_R5, gm_T5, 2, _, _, _, _, _, rfl, rfl, gm_good gc_k96, rfl, gc_good5 hw gc_w767 gc_w832 gc_w814 gc_w13, by decide, by decide⟩
  · exact ⟨gm_R6, gm_T6, 1, _, _, _, _, _, rfl, rfl, gm_good gc_k89, rfl, gc_good5 hw gc_w767 gc_w829 gc_w787 gc_w14, by decide, by decide⟩
  · exact ⟨gm_R7, gm_T7, 1, _, _, _, _, _, rfl, rfl, gm_good gc_k84, rfl, gc_good5 hw gc_w767 gc_w768 gc_w769 gc_w12, by decide, by decide⟩
  · exact ⟨gm_R8, gm_T8, 3, _, _, _, _, _, rfl, rfl, gm_good gc_k94, rfl, gc_good5 hw gc_w767 gc_w830 gc_w807 gc_w15, by decide, by decide⟩
  · exact ⟨gm_R9, gm_T9, 2, _, _, _, _, _, rfl, rfl, gm_good gc_k88, rfl, gc_good5 hw gc_w767 gc_w828 gc_w783 gc_w16, by decide, by decide⟩
  · exact ⟨gm_R10, gm_T10, 1, _, _, _, _, _, rfl, rfl, gm_good gc_k95, rfl, gc_good5 hw gc_w767 gc_w831 gc_w811 gc_w17, by decide, by decide⟩
  · exact ⟨gm_R11, gm_T11, 1, _, _, _, _, _, rfl, rfl, gm_good gc_k86, rfl, gc_good5 hw gc_w767 gc_w827 gc_w776 gc_w24, by decide, by decide⟩
theorem gc_cast4 {L : Nat} {xs : Nat → Int32} : ∀ ci ∈ [5, 6, 7, 8, 9, 10, 11], ∃ r : vw_C, gm_cl[ci]? = some r ∧ ∀ sp A U H, gc_G L xs sp A U H → va_Nw (.castable r.1 "GrammarMachine$Pattern") U := by
  intro ci h
  simp only [List.mem_cons, List.not_mem_nil, or_false] at h
  rcases h with rfl | rfl | rfl | rfl | rfl | rfl | rfl
  · exact ⟨_, rfl, gc_n1164⟩
  · exact ⟨_, rfl, gc_n1161⟩
  · exact ⟨_, rfl, gc_n1158⟩
  · exact ⟨_, rfl, gc_n1162⟩
  · exact ⟨_, rfl, gc_n1160⟩
  · exact ⟨_, rfl, gc_n1163⟩
  · exact ⟨_, rfl, gc_n1159⟩
theorem gc_cast5 {L : Nat} {xs : Nat → Int32} : ∀ ci ∈ [5, 6, 7, 8, 9, 10, 11], ∃ r : vw_C, gm_cl[ci]? = some r ∧ ∀ sp A U H, gc_G L xs sp A U H → va_Nw (.castable r.1 "java/lang/Object") U := by
  intro ci h
  simp only [List.mem_cons, List.not_mem_nil, or_false] at h
  rcases h with rfl | rfl | rfl | rfl | rfl | rfl | rfl
  · exact ⟨_, rfl, gc_n1174⟩
  · exact ⟨_, rfl, gc_n1175⟩
  · exact ⟨_, rfl, gc_n1173⟩
  · exact ⟨_, rfl, gc_n1176⟩
  · exact ⟨_, rfl, gc_n1177⟩
  · exact ⟨_, rfl, gc_n1178⟩
  · exact ⟨_, rfl, gc_n1179⟩
set_option maxRecDepth 100000 in
set_option maxHeartbeats 4000000 in
/-- GrammarMachine.<init> -/
theorem gc_o0 (L : Nat) (xs : Nat → Int32) {l : Launch} (hl : l.stackTraces = false) : gx_all (gx_Sn l (gc_z (gc_G L xs)) (gm_cl, gm_tyl, gc_G L xs, Cond.code gc_y0 gc_c0 1 none :: gm_WS, gc_c0, gc_y0, 1, none)) gc_bl0 :=
  ⟨(gq_aload_n ge_0_0).sn,
   gs_obj (gm_f _ gc_w35) (gm_f _ gc_w36) (gm_f _ gc_w37) ge_0_1,
   (gq_aload_n ge_0_4).sn,
   (gq_bipush ge_0_5 (by decide)).sn,
   (gs_newc rfl (gm_f _ gc_w54) ge_0_7).sn,
   (gs_putF (Cn := gm_R0) (T := gm_T0) (N := 8) rfl gc_in0 gm_t0 gm_ty0 gm_nm0 (by decide) (by decide +kernel) (gm_f _ gc_w115) rfl rfl rfl ge_0_9).sn,
   (gq_aload_n ge_0_12).sn,
   (gq_bipush ge_0_13 (by decide)).sn,
   (gs_newc rfl (gm_f _ gc_w54) ge_0_15).sn,
   (gs_putF (Cn := gm_R0) (T := gm_T0) (N := 8) rfl gc_in0 gm_t0 gm_ty0 gm_nm0 (by decide) (by decide +kernel) (gm_f _ gc_w116) rfl rfl rfl ge_0_17).sn,
   (gq_aload_n ge_0_20).sn,
   (gs_new (Cn := gm_R1) (T := gm_T1) rfl gc_in1 gm_t1 gm_ty1 (by decide +kernel) (gc_dflt (by decide)) (gm_f _ gc_w38) (gm_f _ gc_w39) (gm_f _ gc_w2) ge_0_21).sn,
   (gs_dup ge_0_24).sn,
   gs_callIN (zs := gc_z (gc_G L xs)) rfl (gc_Gok L xs) (gm_good gc_k1) rfl (gm_f _ gc_w2) gc_n40 (gm_f _ gc_w41) rfl (by decide +kernel) (by decide) ge_0_25,
   (gs_putF (Cn := gm_R0) (T := gm_T0) (N := 8) rfl gc_in0 gm_t0 gm_ty0 gm_nm0 (by decide) (by decide +kernel) (gm_f _ gc_w117) rfl rfl rfl ge_0_28).sn,
   (gq_aload_n ge_0_31).sn,
   (gs_new (Cn := gm_R2) (T := gm_T2) rfl gc_in2 gm_t2 gm_ty2 (by decide +kernel) (gc_dflt (by decide)) (gm_f _ gc_w55) (gm_f _ gc_w56) (gm_f _ gc_w3) ge_0_32).sn,
   (gs_dup ge_0_35).sn,
   gs_callIN (zs := gc_z (gc_G L xs)) rfl (gc_Gok L xs) (gm_good gc_k2) rfl (gm_f _ gc_w3) gc_n57 (gm_f _ gc_w58) rfl (by decide +kernel) (by decide) ge_0_36,
   (gs_putF (Cn := gm_R0) (T := gm_T0) (N := 8) rfl gc_in0 gm_t0 gm_ty0 gm_nm0 (by decide) (by decide +kernel) (gm_f _ gc_w118) rfl rfl rfl ge_0_39).sn,
   (gq_aload_n ge_0_42).sn,
   (gs_new (Cn := gm_R3) (T := gm_T3) rfl gc_in3 gm_t3 gm_ty3 (by decide +kernel) (gc_dflt (by decide)) (gm_f _ gc_w80) (gm_f _ gc_w81) (gm_f _ gc_w4) ge_0_43).sn,
   (gs_dup ge_0_46).sn,
   gs_callIN (zs := gc_z (gc_G L xs)) rfl (gc_Gok L xs) (gm_good gc_k3) rfl (gm_f _ gc_w4) gc_n82 (gm_f _ gc_w83) rfl (by decide +kernel) (by decide) ge_0_47,
   (gs_putF (Cn := gm_R0) (T := gm_T0) (N := 8) rfl gc_in0 gm_t0 gm_ty0 gm_nm0 (by decide) (by decide +kernel) (gm_f _ gc_w119) rfl rfl rfl ge_0_50).sn,
   (gq_aload_n ge_0_53).sn,
   (gq_iconst ge_0_54 (by decide)).sn,
   (gs_puti (Cn := gm_R0) (T := gm_T0) (N := 8) rfl gc_in0 gm_t0 gm_ty0 gm_nm0 (by decide) (by decide +kernel) (gm_f _ gc_w120) rfl ge_0_55).sn,
   (gq_aload_n ge_0_58).sn,
   (gq_iconst ge_0_59 (by decide)).sn,
   (gs_puti (Cn := gm_R0) (T := gm_T0) (N := 8) rfl gc_in0 gm_t0 gm_ty0 gm_nm0 (by decide) (by decide +kernel) (gm_f _ gc_w121) rfl ge_0_60).sn,
   (gq_aload_n ge_0_63).sn,
   (gq_iconst ge_0_64 (by decide)).sn,
   (gs_puti (Cn := gm_R0) (T := gm_T0) (N := 8) rfl gc_in0 gm_t0 gm_ty0 gm_nm0 (by decide) (by decide +kernel) (gm_f _ gc_w122) rfl ge_0_65).sn,
   (gs_ret ge_0_68).sn, trivial⟩
set_option maxRecDepth 100000 in
set_option maxHeartbeats 4000000 in
/-- GrammarMachine$Reader.<init> -/
theorem gc_o1 (L : Nat) (xs : Nat → Int32) {l : Launch} (hl : l.stackTraces = false) : gx_all (gx_Sn l (gc_z (gc_G L xs)) (gm_cl, gm_tyl, gc_G L xs, Cond.code gc_y1 gc_c1 1 none :: gm_WS, gc_c1, gc_y1, 1, none)) gc_bl1 :=
  ⟨(gq_aload_n ge_1_0).sn,
   gs_obj (gm_f _ gc_w43) (gm_f _ gc_w36) (gm_f _ gc_w37) ge_1_1,
   (gq_aload_n ge_1_4).sn,
   (gq_bipush ge_1_5 (by decide)).sn,
   (gs_newc rfl (gm_f _ gc_w54) ge_1_7).sn,
   (gs_putF (Cn := gm_R1) (T := gm_T1) (N := 3) rfl gc_in1 gm_t1 gm_ty1 gm_nm1 (by decide) (by decide +kernel) (gm_f _ gc_w44) rfl rfl rfl ge_1_9).sn,
   (gq_aload_n ge_1_12).sn,
   (gq_iconst ge_1_13 (by decide)).sn,
   (gs_puti (Cn := gm_R1) (T := gm_T1) (N := 3) rfl gc_in1 gm_t1 gm_ty1 gm_nm1 (by decide) (by decide +kernel) (gm_f _ gc_w45) rfl ge_1_14).sn,
   (gq_aload_n ge_1_17).sn,
   (gq_iconst ge_1_18 (by decide)).sn,
   (gs_puti (Cn := gm_R1) (T := gm_T1) (N := 3) rfl gc_in1 gm_t1 gm_ty1 gm_nm1 (by decide) (by decide +kernel) (gm_f _ gc_w46) rfl ge_1_19).sn,
   (gs_ret ge_1_22).sn, trivial⟩
set_option maxRecDepth 100000 in
set_option maxHeartbeats 4000000 in
/-- GrammarMachine$Grammar.<init> -/
theorem gc_o2 (L : Nat) (xs : Nat → Int32) {l : Launch} (hl : l.stackTraces = false) : gx_all (gx_Sn l (gc_z (gc_G L xs)) (gm_cl, gm_tyl, gc_G L xs, Cond.code gc_y2 gc_c2 1 none :: gm_WS, gc_c2, gc_y2, 1, none)) gc_bl2 :=
  ⟨(gq_aload_n ge_2_0).sn,
   gs_obj (gm_f _ gc_w60) (gm_f _ gc_w36) (gm_f _ gc_w37) ge_2_1,
   (gq_aload_n ge_2_4).sn,
   (gq_iconst ge_2_5 (by decide)).sn,
   (gs_newr (E := "GrammarMachine$Pattern") rfl (gm_f _ gc_w61) gc_ao4 ge_2_6).sn,
   (gs_putF (Cn := gm_R2) (T := gm_T2) (N := 4) rfl gc_in2 gm_t2 gm_ty2 gm_nm2 (by decide) (by decide +kernel) (gm_f _ gc_w63) rfl rfl rfl ge_2_9).sn,
   (gq_aload_n ge_2_12).sn,
   (gq_bipush ge_2_13 (by decide)).sn,
   (gs_newc rfl (gm_f _ gc_w54) ge_2_15).sn,
   (gs_putF (Cn := gm_R2) (T := gm_T2) (N := 4) rfl gc_in2 gm_t2 gm_ty2 gm_nm2 (by decide) (by decide +kernel) (gm_f _ gc_w65) rfl rfl rfl ge_2_17).sn,
   (gq_aload_n ge_2_20).sn,
   (gq_iconst ge_2_21 (by decide)).sn,
   (gs_newi rfl (gm_f _ gc_w79) ge_2_22).sn,
   (gs_putF (Cn := gm_R2) (T := gm_T2) (N := 4) rfl gc_in2 gm_t2 gm_ty2 gm_nm2 (by decide) (by decide +kernel) (gm_f _ gc_w66) rfl rfl rfl ge_2_24).sn,
   (gq_aload_n ge_2_27).sn,
   (gq_iconst ge_2_28 (by decide)).sn,
   (gs_puti (Cn := gm_R2) (T := gm_T2) (N := 4) rfl gc_in2 gm_t2 gm_ty2 gm_nm2 (by decide) (by decide +kernel) (gm_f _ gc_w68) rfl ge_2_29).sn,
   (gs_ret ge_2_32).sn, trivial⟩
set_option maxRecDepth 100000 in
set_option maxHeartbeats 4000000 in
/-- GrammarMachine$Chart.<init> -/
theorem gc_o3 (L : Nat) (xs : Nat → Int32) {l : Launch} (hl : l.stackTraces = false) : gx_all (gx_Sn l (gc_z (gc_G L xs)) (gm_cl, gm_tyl, gc_G L xs, Cond.code gc_y3 gc_c3 1 none :: gm_WS, gc_c3, gc_y3, 1, none)) gc_bl3 :=
  ⟨(gq_aload_n ge_3_0).sn,
   gs_obj (gm_f _ gc_w85) (gm_f _ gc_w36) (gm_f _ gc_w37) ge_3_1,
   (gq_aload_n ge_3_4).sn,
   (gq_bipush ge_3_5 (by decide)).sn,
   (gs_newc rfl (gm_f _ gc_w54) ge_3_7).sn,
   (gs_putF (Cn := gm_R3) (T := gm_T3) (N := 9) rfl gc_in3 gm_t3 gm_ty3 gm_nm3 (by decide) (by decide +kernel) (gm_f _ gc_w86) rfl rfl rfl ge_3_9).sn,
   (gq_aload_n ge_3_12).sn,
   (gq_iconst ge_3_13 (by decide)).sn,
   (gs_puti (Cn := gm_R3) (T := gm_T3) (N := 9) rfl gc_in3 gm_t3 gm_ty3 gm_nm3 (by decide) (by decide +kernel) (gm_f _ gc_w87) rfl ge_3_14).sn,
   (gq_aload_n ge_3_17).sn,
   (gq_iconst ge_3_18 (by decide)).sn,
   (gs_puti (Cn := gm_R3) (T := gm_T3) (N := 9) rfl gc_in3 gm_t3 gm_ty3 gm_nm3 (by decide) (by decide +kernel) (gm_f _ gc_w88) rfl ge_3_19).sn,
   (gq_aload_n ge_3_22).sn,
   (gq_bipush ge_3_23 (by decide)).sn,
   (gs_newi rfl (gm_f _ gc_w79) ge_3_25).sn,
   (gs_putF (Cn := gm_R3) (T := gm_T3) (N := 9) rfl gc_in3 gm_t3 gm_ty3 gm_nm3 (by decide) (by decide +kernel) (gm_f _ gc_w89) rfl rfl rfl ge_3_27).sn,
   (gq_aload_n ge_3_30).sn,
   (gq_bipush ge_3_31 (by decide)).sn,
   (gs_newi rfl (gm_f _ gc_w79) ge_3_33).sn,
   (gs_putF (Cn := gm_R3) (T := gm_T3) (N := 9) rfl gc_in3 gm_t3 gm_ty3 gm_nm3 (by decide) (by decide +kernel) (gm_f _ gc_w90) rfl rfl rfl ge_3_35).sn,
   (gq_aload_n ge_3_38).sn,
   (gq_bipush ge_3_39 (by decide)).sn,
   (gs_newl rfl (gm_f _ gc_w114) ge_3_41).sn,
   (gs_putF (Cn := gm_R3) (T := gm_T3) (N := 9) rfl gc_in3 gm_t3 gm_ty3 gm_nm3 (by decide) (by decide +kernel) (gm_f _ gc_w91) rfl rfl rfl ge_3_43).sn,
   (gq_aload_n ge_3_46).sn,
   (gq_bipush ge_3_47 (by decide)).sn,
   (gs_newi rfl (gm_f _ gc_w79) ge_3_49).sn,
   (gs_putF (Cn := gm_R3) (T := gm_T3) (N := 9) rfl gc_in3 gm_t3 gm_ty3 gm_nm3 (by decide) (by decide +kernel) (gm_f _ gc_w92) rfl rfl rfl ge_3_51).sn,
   (gq_aload_n ge_3_54).sn,
   (gq_sipush ge_3_55 (by decide)).sn,
   (gs_newi rfl (gm_f _ gc_w79) ge_3_58).sn,
   (gs_putF (Cn := gm_R3) (T := gm_T3) (N := 9) rfl gc_in3 gm_t3 gm_ty3 gm_nm3 (by decide) (by decide +kernel) (gm_f _ gc_w93) rfl rfl rfl ge_3_60).sn,
   (gq_aload_n ge_3_63).sn,
   (gq_sipush ge_3_64 (by decide)).sn,
   (gs_newi rfl (gm_f _ gc_w79) ge_3_67).sn,
   (gs_putF (Cn := gm_R3) (T := gm_T3) (N := 9) rfl gc_in3 gm_t3 gm_ty3 gm_nm3 (by decide) (by decide +kernel) (gm_f _ gc_w94) rfl rfl rfl ge_3_69).sn,
   (gs_ret ge_3_72).sn, trivial⟩
set_option maxRecDepth 100000 in
set_option maxHeartbeats 4000000 in
/-- GrammarMachine.shown -/
theorem gc_o4 (L : Nat) (xs : Nat → Int32) {l : Launch} (hl : l.stackTraces = false) : gx_all (gx_Sn l (gc_z (gc_G L xs)) (gm_cl, gm_tyl, gc_G L xs, Cond.code gc_y4 gc_c4 3 (some .char) :: gm_WS, gc_c4, gc_y4, 3, (some .char))) gc_bl4 :=
  ⟨(gq_iload_n ge_4_0).sn,
   gs_callS (zs := gc_z (gc_G L xs)) rfl (gc_Gok L xs) (gm_good gc_k5) rfl (gm_f _ gc_w1) (gm_f _ gc_w144) (gm_f _ gc_w145) (by decide +kernel) (by decide) ge_4_1,
   (gq_if_eq ge_4_4 (by decide)).sn,
   (gq_aload_n ge_4_7).sn,
   (gs_get (Cn := gm_R0) (T := gm_T0) (N := 8) rfl gc_in0 (by decide) (gm_f _ gc_w118) ge_4_8).sn,
   (gq_iload_n ge_4_11).sn,
   (gq_iload_n ge_4_12).sn,
   gs_callV (zs := gc_z (gc_G L xs)) (Cn := gm_R2) (T := gm_T2) (N := 4) rfl (gc_Gok L xs) (gm_good gc_k6) rfl rfl (gm_f _ gc_w3) (gm_f _ gc_w147) (gm_f _ gc_w148) (gm_f _ gc_w149) (by decide +kernel) (by decide) ge_4_13,
   (gq_goto ge_4_16 (by decide)).sn,
   (gq_iconst ge_4_19 (by decide)).sn,
   (gs_iret ge_4_20).sn, trivial⟩
set_option maxRecDepth 100000 in
set_option maxHeartbeats 4000000 in
/-- GrammarMachine.isRule -/
theorem gc_o5 (L : Nat) (xs : Nat → Int32) {l : Launch} (hl : l.stackTraces = false) : gx_all (gx_Sn l (gc_z (gc_G L xs)) (gm_cl, gm_tyl, gc_G L xs, Cond.code gc_y5 gc_c5 1 (some .boolean) :: gm_WS, gc_c5, gc_y5, 1, (some .boolean))) gc_bl5 :=
  ⟨(gq_iload_n ge_5_0).sn,
   (gq_if_lt ge_5_1 (by decide)).sn,
   (gq_iload_n ge_5_4).sn,
   (gq_iconst ge_5_5 (by decide)).sn,
   (gq_icmp_ge ge_5_6 (by decide)).sn,
   (gq_iconst ge_5_9 (by decide)).sn,
   (gq_goto ge_5_10 (by decide)).sn,
   (gq_iconst ge_5_13 (by decide)).sn,
   (gs_iret ge_5_14).sn, trivial⟩
set_option maxRecDepth 100000 in
set_option maxHeartbeats 4000000 in
/-- GrammarMachine$Grammar.lineCharacter -/
theorem gc_o6 (L : Nat) (xs : Nat → Int32) {l : Launch} (hl : l.stackTraces = false) : gx_all (gx_Sn l (gc_z (gc_G L xs)) (gm_cl, gm_tyl, gc_G L xs, Cond.code gc_y6 gc_c6 3 (some .char) :: gm_WS, gc_c6, gc_y6, 3, (some .char))) gc_bl6 :=
  ⟨(gq_iload_n ge_6_0).sn,
   (gq_if_lt ge_6_1 (by decide)).sn,
   (gq_iload_n ge_6_4).sn,
   (gq_bipush ge_6_5 (by decide)).sn,
   (gq_icmp_ge ge_6_7 (by decide)).sn,
   (gq_aload_n ge_6_10).sn,
   (gs_get (Cn := gm_R2) (T := gm_T2) (N := 4) rfl gc_in2 (by decide) (gm_f _ gc_w65) ge_6_11).sn,
   (gq_iload_n ge_6_14).sn,
   (gq_bipush ge_6_15 (by decide)).sn,
   (gq_imul ge_6_17).sn,
   (gq_iload_n ge_6_18).sn,
   (gq_iadd ge_6_19).sn,
   (gs_cald rfl ge_6_20).sn,
   (gq_goto ge_6_21 (by decide)).sn,
   (gq_iconst ge_6_24 (by decide)).sn,
   (gs_iret ge_6_25).sn, trivial⟩
set_option maxRecDepth 100000 in
set_option maxHeartbeats 4000000 in
/-- GrammarMachine.clear -/
theorem gc_o7 (L : Nat) (xs : Nat → Int32) {l : Launch} (hl : l.stackTraces = false) : gx_all (gx_Sn l (gc_z (gc_G L xs)) (gm_cl, gm_tyl, gc_G L xs, Cond.code gc_y7 gc_c7 2 (some .int) :: gm_WS, gc_c7, gc_y7, 2, (some .int))) gc_bl7 :=
  ⟨(gq_aload_n ge_7_0).sn,
   (gs_get (Cn := gm_R0) (T := gm_T0) (N := 8) rfl gc_in0 (by decide) (gm_f _ gc_w121) ge_7_1).sn,
   (gq_istore_n ge_7_4).sn,
   (gq_aload_n ge_7_5).sn,
   (gq_iconst ge_7_6 (by decide)).sn,
   (gs_puti (Cn := gm_R0) (T := gm_T0) (N := 8) rfl gc_in0 gm_t0 gm_ty0 gm_nm0 (by decide) (by decide +kernel) (gm_f _ gc_w121) rfl ge_7_7).sn,
   (gq_iload_n ge_7_10).sn,
   (gs_ireti ge_7_11).sn, trivial⟩
set_option maxRecDepth 100000 in
set_option maxHeartbeats 4000000 in
/-- GrammarMachine.captures -/
theorem gc_o8 (L : Nat) (xs : Nat → Int32) {l : Launch} (hl : l.stackTraces = false) : gx_all (gx_Sn l (gc_z (gc_G L xs)) (gm_cl, gm_tyl, gc_G L xs, Cond.code gc_y8 gc_c8 1 (some .int) :: gm_WS, gc_c8, gc_y8, 1, (some .int))) gc_bl8 :=
  ⟨(gq_aload_n ge_8_0).sn,
   (gs_get (Cn := gm_R0) (T := gm_T0) (N := 8) rfl gc_in0 (by decide) (gm_f _ gc_w122) ge_8_1).sn,
   (gq_iconst ge_8_4 (by decide)).sn,
   (gq_icmp_ne ge_8_5 (by decide)).sn,
   (gq_iconst ge_8_8 (by decide)).sn,
   (gq_goto ge_8_9 (by decide)).sn,
   (gq_aload_n ge_8_12).sn,
   (gs_get (Cn := gm_R0) (T := gm_T0) (N := 8) rfl gc_in0 (by decide) (gm_f _ gc_w119) ge_8_13).sn,
   (gq_aload_n ge_8_16).sn,
   (gs_get (Cn := gm_R0) (T := gm_T0) (N := 8) rfl gc_in0 (by decide) (gm_f _ gc_w122) ge_8_17).sn,
   gs_callV (zs := gc_z (gc_G L xs)) (Cn := gm_R3) (T := gm_T3) (N := 9) rfl (gc_Gok L xs) (gm_good gc_k9) rfl rfl (gm_f _ gc_w4) (gm_f _ gc_w159) (gm_f _ gc_w160) (gm_f _ gc_w161) (by decide +kernel) (by decide) ge_8_20,
   (gs_ireti ge_8_23).sn, trivial⟩
set_option maxRecDepth 100000 in
set_option maxHeartbeats 4000000 in
/-- GrammarMachine$Chart.keptIn -/
theorem gc_o9 (L : Nat) (xs : Nat → Int32) {l : Launch} (hl : l.stackTraces = false) : gx_all (gx_Sn l (gc_z (gc_G L xs)) (gm_cl, gm_tyl, gc_G L xs, Cond.code gc_y9 gc_c9 2 (some .int) :: gm_WS, gc_c9, gc_y9, 2, (some .int))) gc_bl9 :=
  ⟨(gq_aload_n ge_9_0).sn,
   (gs_get (Cn := gm_R3) (T := gm_T3) (N := 9) rfl gc_in3 (by decide) (gm_f _ gc_w92) ge_9_1).sn,
   (gq_iload_n ge_9_4).sn,
   (gs_iald rfl ge_9_5).sn,
   (gs_ireti ge_9_6).sn, trivial⟩
set_option maxRecDepth 100000 in
set_option maxHeartbeats 4000000 in
/-- GrammarMachine.farthest -/
theorem gc_o10 (L : Nat) (xs : Nat → Int32) {l : Launch} (hl : l.stackTraces = false) : gx_all (gx_Sn l (gc_z (gc_G L xs)) (gm_cl, gm_tyl, gc_G L xs, Cond.code gc_y10 gc_c10 1 (some .int) :: gm_WS, gc_c10, gc_y10, 1, (some .int))) gc_bl10 :=
  ⟨(gq_aload_n ge_10_0).sn,
   (gs_get (Cn := gm_R0) (T := gm_T0) (N := 8) rfl gc_in0 (by decide) (gm_f _ gc_w122) ge_10_1).sn,
   (gq_iconst ge_10_4 (by decide)).sn,
   (gq_icmp_ne ge_10_5 (by decide)).sn,
   (gq_iconst ge_10_8 (by decide)).sn,
   (gq_goto ge_10_9 (by decide)).sn,
   (gq_aload_n ge_10_12).sn,
   (gs_get (Cn := gm_R0) (T := gm_T0) (N := 8) rfl gc_in0 (by decide) (gm_f _ gc_w119) ge_10_13).sn,
   (gq_aload_n ge_10_16).sn,
   (gs_get (Cn := gm_R0) (T := gm_T0) (N := 8) rfl gc_in0 (by decide) (gm_f _ gc_w122) ge_10_17).sn,
   gs_callV (zs := gc_z (gc_G L xs)) (Cn := gm_R3) (T := gm_T3) (N := 9) rfl (gc_Gok L xs) (gm_good gc_k11) rfl rfl (gm_f _ gc_w4) (gm_f _ gc_w167) (gm_f _ gc_w168) (gm_f _ gc_w169) (by decide +kernel) (by decide) ge_10_20,
   (gs_ireti ge_10_23).sn, trivial⟩
set_option maxRecDepth 100000 in
set_option maxHeartbeats 4000000 in
/-- GrammarMachine$Chart.farthestOf -/
theorem gc_o11 (L : Nat) (xs : Nat → Int32) {l : Launch} (hl : l.stackTraces = false) : gx_all (gx_Sn l (gc_z (gc_G L xs)) (gm_cl, gm_tyl, gc_G L xs, Cond.code gc_y11 gc_c11 2 (some .int) :: gm_WS, gc_c11, gc_y11, 2, (some .int))) gc_bl11 :=
  ⟨(gq_aload_n ge_11_0).sn,
   (gs_get (Cn := gm_R3) (T := gm_T3) (N := 9) rfl gc_in3 (by decide) (gm_f _ gc_w90) ge_11_1).sn,
   (gq_iload_n ge_11_4).sn,
   (gs_iald rfl ge_11_5).sn,
   (gs_ireti ge_11_6).sn, trivial⟩
set_option maxRecDepth 100000 in
set_option maxHeartbeats 4000000 in
/-- GrammarMachine.tried -/
theorem gc_o12 (L : Nat) (xs : Nat → Int32) {l : Launch} (hl : l.stackTraces = false) : gx_all (gx_Sn l (gc_z (gc_G L xs)) (gm_cl, gm_tyl, gc_G L xs, Cond.code gc_y12 gc_c12 1 (some .int) :: gm_WS, gc_c12, gc_y12, 1, (some .int))) gc_bl12 :=
  ⟨(gq_aload_n ge_12_0).sn,
   (gs_get (Cn := gm_R0) (T := gm_T0) (N := 8) rfl gc_in0 (by decide) (gm_f _ gc_w122) ge_12_1).sn,
   (gq_iconst ge_12_4 (by decide)).sn,
   (gq_icmp_ne ge_12_5 (by decide)).sn,
   (gq_iconst ge_12_8 (by decide)).sn,
   (gq_goto ge_12_9 (by decide)).sn,
   (gq_aload_n ge_12_12).sn,
   (gs_get (Cn := gm_R0) (T := gm_T0) (N := 8) rfl gc_in0 (by decide) (gm_f _ gc_w119) ge_12_13).sn,
   (gq_aload_n ge_12_16).sn,
   (gs_get (Cn := gm_R0) (T := gm_T0) (N := 8) rfl gc_in0 (by decide) (gm_f _ gc_w122) ge_12_17).sn,
   gs_callV (zs := gc_z (gc_G L xs)) (Cn := gm_R3) (T := gm_T3) (N := 9) rfl (gc_Gok L xs) (gm_good gc_k13) rfl rfl (gm_f _ gc_w4) (gm_f _ gc_w175) (gm_f _ gc_w176) (gm_f _ gc_w177) (by decide +kernel) (by decide) ge_12_20,
   (gs_ireti ge_12_23).sn, trivial⟩
set_option maxRecDepth 100000 in
set_option maxHeartbeats 4000000 in
/-- GrammarMachine$Chart.pairsOf -/
theorem gc_o13 (L : Nat) (xs : Nat → Int32) {l : Launch} (hl : l.stackTraces = false) : gx_all (gx_Sn l (gc_z (gc_G L xs)) (gm_cl, gm_tyl, gc_G L xs, Cond.code gc_y13 gc_c13 2 (some .int) :: gm_WS, gc_c13, gc_y13, 2, (some .int))) gc_bl13 :=
  ⟨(gq_aload_n ge_13_0).sn,
   (gs_get (Cn := gm_R3) (T := gm_T3) (N := 9) rfl gc_in3 (by decide) (gm_f _ gc_w91) ge_13_1).sn,
   (gq_iload_n ge_13_4).sn,
   (gs_lald rfl ge_13_5).sn,
   gs_bitc (gm_good gc_w181) gc_w182 gc_w183 gc_w184 (gm_f _ gc_w29) (gm_f _ gc_w179) (gm_f _ gc_w180) ge_13_6,
   (gs_ireti ge_13_9).sn, trivial⟩
set_option maxRecDepth 100000 in
set_option maxHeartbeats 4000000 in
/-- GrammarMachine.type -/
theorem gc_o14 (L : Nat) (xs : Nat → Int32) {l : Launch} (hl : l.stackTraces = false) : gx_all (gx_Sn l (gc_z (gc_G L xs)) (gm_cl, gm_tyl, gc_G L xs, Cond.code gc_y14 gc_c14 3 (some .boolean) :: gm_WS, gc_c14, gc_y14, 3, (some .boolean))) gc_bl14 :=
  ⟨(gq_aload_n ge_14_0).sn,
   (gs_get (Cn := gm_R0) (T := gm_T0) (N := 8) rfl gc_in0 (by decide) (gm_f _ gc_w115) ge_14_1).sn,
   (gq_aload_n ge_14_4).sn,
   (gs_get (Cn := gm_R0) (T := gm_T0) (N := 8) rfl gc_in0 (by decide) (gm_f _ gc_w120) ge_14_5).sn,
   (gq_iload_n ge_14_8).sn,
   gs_callS (zs := gc_z (gc_G L xs)) rfl (gc_Gok L xs) (gm_good gc_k15) rfl (gm_f _ gc_w1) (gm_f _ gc_w193) (gm_f _ gc_w194) (by decide +kernel) (by decide) ge_14_9,
   (gq_istore_n ge_14_12).sn,
   (gq_iload_n ge_14_13).sn,
   (gq_iconst ge_14_14 (by decide)).sn,
   (gq_icmp_ne ge_14_15 (by decide)).sn,
   (gq_iconst ge_14_18 (by decide)).sn,
   (gs_iret ge_14_19).sn,
   (gq_aload_n ge_14_20).sn,
   (gq_iload_n ge_14_21).sn,
   (gs_puti (Cn := gm_R0) (T := gm_T0) (N := 8) rfl gc_in0 gm_t0 gm_ty0 gm_nm0 (by decide) (by decide +kernel) (gm_f _ gc_w120) rfl ge_14_22).sn,
   (gq_iconst ge_14_25 (by decide)).sn,
   (gs_iret ge_14_26).sn, trivial⟩
set_option maxRecDepth 100000 in
set_option maxHeartbeats 4000000 in
/-- GrammarMachine.lengthWith -/
theorem gc_o15 (L : Nat) (xs : Nat → Int32) {l : Launch} (hl : l.stackTraces = false) : gx_all (gx_Sn l (gc_z (gc_G L xs)) (gm_cl, gm_tyl, gc_G L xs, Cond.code gc_y15 gc_c15 5 (some .int) :: gm_WS, gc_c15, gc_y15, 5, (some .int))) gc_bl15 :=
  ⟨(gq_iload_n ge_15_0).sn,
   gs_callS (zs := gc_z (gc_G L xs)) rfl (gc_Gok L xs) (gm_good gc_k16) rfl (gm_f _ gc_w1) (gm_f _ gc_w196) (gm_f _ gc_w197) (by decide +kernel) (by decide) ge_15_1,
   (gq_istore_n ge_15_4).sn,
   (gq_iload_n ge_15_5).sn,
   (gq_iload_n ge_15_6).sn,
   (gq_iadd ge_15_7).sn,
   (gq_aload_n ge_15_8).sn,
   (gs_alenT (by decide) ge_15_9).sn,
   (gq_icmp_le ge_15_10 (by decide)).sn,
   (gq_iconst ge_15_13 (by decide)).sn,
   (gs_ireti ge_15_14).sn,
   (gq_iconst ge_15_15 (by decide)).sn,
   (gq_istore ge_15_16).sn,
   (gq_iload ge_15_18).sn,
   (gq_iload_n ge_15_20).sn,
   (gq_icmp_ge ge_15_21 (by decide)).sn,
   (gq_aload_n ge_15_24).sn,
   (gq_iload_n ge_15_25).sn,
   (gq_iload ge_15_26).sn,
   (gq_iadd ge_15_28).sn,
   (gq_iload_n ge_15_29).sn,
   (gq_iload ge_15_30).sn,
   gs_callS (zs := gc_z (gc_G L xs)) rfl (gc_Gok L xs) (gm_good gc_k17) rfl (gm_f _ gc_w1) (gm_f _ gc_w199) (gm_f _ gc_w200) (by decide +kernel) (by decide) ge_15_32,
   (gs_cast rfl ge_15_35).sn,
   (gs_inc ge_15_36).sn,
   (gq_goto ge_15_39 (by decide)).sn,
   (gq_iload_n ge_15_42).sn,
   (gq_iload_n ge_15_43).sn,
   (gq_iadd ge_15_44).sn,
   (gs_ireti ge_15_45).sn, trivial⟩
set_option maxRecDepth 100000 in
set_option maxHeartbeats 4000000 in
/-- GrammarMachine.charactersIn -/
theorem gc_o16 (L : Nat) (xs : Nat → Int32) {l : Launch} (hl : l.stackTraces = false) : gx_all (gx_Sn l (gc_z (gc_G L xs)) (gm_cl, gm_tyl, gc_G L xs, Cond.code gc_y16 gc_c16 3 (some .int) :: gm_WS, gc_c16, gc_y16, 3, (some .int))) gc_bl16 :=
  ⟨(gq_iconst ge_16_0 (by decide)).sn,
   (gq_istore_n ge_16_1).sn,
   (gq_iload_n ge_16_2).sn,
   (gq_iconst ge_16_3 (by decide)).sn,
   (gq_icmp_ge ge_16_4 (by decide)).sn,
   (gq_iload_n ge_16_7).sn,
   (gq_iload_n ge_16_8).sn,
   gs_callS (zs := gc_z (gc_G L xs)) rfl (gc_Gok L xs) (gm_good gc_k17) rfl (gm_f _ gc_w1) (gm_f _ gc_w199) (gm_f _ gc_w200) (by decide +kernel) (by decide) ge_16_9,
   (gq_if_eq ge_16_12 (by decide)).sn,
   (gq_iload_n ge_16_15).sn,
   (gq_iload_n ge_16_16).sn,
   gs_callS (zs := gc_z (gc_G L xs)) rfl (gc_Gok L xs) (gm_good gc_k17) rfl (gm_f _ gc_w1) (gm_f _ gc_w199) (gm_f _ gc_w200) (by decide +kernel) (by decide) ge_16_17,
   (gq_istore_n ge_16_20).sn,
   (gq_iload_n ge_16_21).sn,
   (gq_bipush ge_16_22 (by decide)).sn,
   (gq_icmp_lt ge_16_24 (by decide)).sn,
   (gq_iload_n ge_16_27).sn,
   (gq_bipush ge_16_28 (by decide)).sn,
   (gq_icmp_le ge_16_30 (by decide)).sn,
   gs_thr (names := ["java/lang/RuntimeException", "java/lang/Exception"]) hl (by decide +kernel) (by decide +kernel) (gm_f _ gc_w202) (gm_f _ gc_w9) (gc_at gc_r_IllegalArgumentException gc_q_IllegalArgumentException gc_w243) (by decide +kernel) gc_gu (by decide) ge_16_33 ge_16_36 ge_16_37 ge_16_40,
   (gs_dup ge_16_36).sn,
   (gs_inc ge_16_41).sn,
   (gq_goto ge_16_44 (by decide)).sn,
   (gq_iload_n ge_16_47).sn,
   (gs_ireti ge_16_48).sn, trivial⟩
set_option maxRecDepth 100000 in
set_option maxHeartbeats 4000000 in
/-- GrammarMachine.byteOf -/
theorem gc_o17 (L : Nat) (xs : Nat → Int32) {l : Launch} (hl : l.stackTraces = false) : gx_all (gx_Sn l (gc_z (gc_G L xs)) (gm_cl, gm_tyl, gc_G L xs, Cond.code gc_y17 gc_c17 2 (some .char) :: gm_WS, gc_c17, gc_y17, 2, (some .char))) gc_bl17 :=
  ⟨(gq_iload_n ge_17_0).sn,
   (gq_bipush ge_17_1 (by decide)).sn,
   (gq_iload_n ge_17_3).sn,
   (gq_imul ge_17_4).sn,
   (gq_iushr ge_17_5).sn,
   (gq_sipush ge_17_6 (by decide)).sn,
   (gq_iand ge_17_9).sn,
   (gq_i2c ge_17_10).sn,
   (gs_iret ge_17_11).sn, trivial⟩
set_option maxRecDepth 100000 in
set_option maxHeartbeats 4000000 in
/-- GrammarMachine.define -/
theorem gc_o18 (L : Nat) (xs : Nat → Int32) {l : Launch} (hl : l.stackTraces = false) : gx_all (gx_Sn l (gc_z (gc_G L xs)) (gm_cl, gm_tyl, gc_G L xs, Cond.code gc_y18 gc_c18 4 (some .int) :: gm_WS, gc_c18, gc_y18, 4, (some .int))) gc_bl18 :=
  ⟨(gq_aload_n ge_18_0).sn,
   (gs_get (Cn := gm_R0) (T := gm_T0) (N := 8) rfl gc_in0 (by decide) (gm_f _ gc_w120) ge_18_1).sn,
   (gq_istore_n ge_18_4).sn,
   (gq_aload_n ge_18_5).sn,
   (gq_iconst ge_18_6 (by decide)).sn,
   (gs_puti (Cn := gm_R0) (T := gm_T0) (N := 8) rfl gc_in0 gm_t0 gm_ty0 gm_nm0 (by decide) (by decide +kernel) (gm_f _ gc_w120) rfl ge_18_7).sn,
   (gq_aload_n ge_18_10).sn,
   (gs_get (Cn := gm_R0) (T := gm_T0) (N := 8) rfl gc_in0 (by decide) (gm_f _ gc_w117) ge_18_11).sn,
   (gq_aload_n ge_18_14).sn,
   (gs_get (Cn := gm_R0) (T := gm_T0) (N := 8) rfl gc_in0 (by decide) (gm_f _ gc_w115) ge_18_15).sn,
   (gq_iload_n ge_18_18).sn,
   gs_callV (zs := gc_z (gc_G L xs)) (Cn := gm_R1) (T := gm_T1) (N := 3) rfl (gc_Gok L xs) (gm_good gc_k19) rfl rfl (gm_f _ gc_w2) (gm_f _ gc_w272) (gm_f _ gc_w273) (gm_f _ gc_w274) (by decide +kernel) (by decide) ge_18_19,
   (gq_astore_n ge_18_22).sn,
   (gq_aload_n ge_18_23).sn,
   (gs_get (Cn := gm_R0) (T := gm_T0) (N := 8) rfl gc_in0 (by decide) (gm_f _ gc_w115) ge_18_24).sn,
   (gq_iconst ge_18_27 (by decide)).sn,
   (gs_cald rfl ge_18_28).sn,
   (gq_bipush ge_18_29 (by decide)).sn,
   (gq_isub ge_18_31).sn,
   (gq_istore_n ge_18_32).sn,
   (gq_aload_n ge_18_33).sn,
   (gs_get (Cn := gm_R0) (T := gm_T0) (N := 8) rfl gc_in0 (by decide) (gm_f _ gc_w118) ge_18_34).sn,
   (gq_iload_n ge_18_37).sn,
   (gq_aload_n ge_18_38).sn,
   (gq_aload_n ge_18_39).sn,
   (gs_get (Cn := gm_R0) (T := gm_T0) (N := 8) rfl gc_in0 (by decide) (gm_f _ gc_w115) ge_18_40).sn,
   (gq_iload_n ge_18_43).sn,
   gs_callV (zs := gc_z (gc_G L xs)) (Cn := gm_R2) (T := gm_T2) (N := 4) rfl (gc_Gok L xs) (gm_good gc_k44) rfl rfl (gm_f _ gc_w3) (gm_f _ gc_w524) (gm_f _ gc_w525) (gm_f _ gc_w526) (by decide +kernel) (by decide) ge_18_44,
   (gq_iload_n ge_18_47).sn,
   (gs_ireti ge_18_48).sn, trivial⟩
set_option maxRecDepth 100000 in
set_option maxHeartbeats 4000000 in
/-- GrammarMachine$Reader.readLine -/
theorem gc_o19 (L : Nat) (xs : Nat → Int32) {l : Launch} (hl : l.stackTraces = false) : gx_all (gx_Sn l (gc_z (gc_G L xs)) (gm_cl, gm_tyl, gc_G L xs, Cond.code gc_y19 gc_c19 4 (some (.object "GrammarMachine$Pattern")) :: gm_WS, gc_c19, gc_y19, 4, (some (.object "GrammarMachine$Pattern")))) gc_bl19 :=
  ⟨(gq_aload_n ge_19_0).sn,
   (gq_iconst ge_19_1 (by decide)).sn,
   (gq_aload_n ge_19_2).sn,
   (gs_get (Cn := gm_R1) (T := gm_T1) (N := 3) rfl gc_in1 (by decide) (gm_f _ gc_w44) ge_19_3).sn,
   (gq_iconst ge_19_6 (by decide)).sn,
   (gq_iload_n ge_19_7).sn,
   gs_copy rfl rfl (gm_f _ gc_w276) (gm_f _ gc_w278) (gm_f _ gc_w277) (gm_f _ gc_w10) ge_19_8,
   (gq_aload_n ge_19_11).sn,
   (gq_iload_n ge_19_12).sn,
   (gs_puti (Cn := gm_R1) (T := gm_T1) (N := 3) rfl gc_in1 gm_t1 gm_ty1 gm_nm1 (by decide) (by decide +kernel) (gm_f _ gc_w45) rfl ge_19_13).sn,
   (gq_aload_n ge_19_16).sn,
   (gq_iconst ge_19_17 (by decide)).sn,
   (gs_puti (Cn := gm_R1) (T := gm_T1) (N := 3) rfl gc_in1 gm_t1 gm_ty1 gm_nm1 (by decide) (by decide +kernel) (gm_f _ gc_w46) rfl ge_19_18).sn,
   (gq_aload_n ge_19_21).sn,
   gs_callV (zs := gc_z (gc_G L xs)) (Cn := gm_R1) (T := gm_T1) (N := 3) rfl (gc_Gok L xs) (gm_good gc_k20) rfl rfl (gm_f _ gc_w2) (gm_f _ gc_w279) (gm_f _ gc_w281) (gm_f _ gc_s1) (by decide +kernel) (by decide) ge_19_22,
   gs_callS (zs := gc_z (gc_G L xs)) rfl (gc_Gok L xs) (gm_good gc_k21) rfl (gm_f _ gc_w2) (gm_f _ gc_w283) (gm_f _ gc_w284) (by decide +kernel) (by decide) ge_19_25,
   (gq_if_ne ge_19_28 (by decide)).sn,
   gs_thr (names := ["java/lang/RuntimeException", "java/lang/Exception"]) hl (by decide +kernel) (by decide +kernel) (gm_f _ gc_w286) (gm_f _ gc_w9) (gc_at gc_r_IllegalArgumentException gc_q_IllegalArgumentException gc_w287) (by decide +kernel) gc_gu (by decide) ge_19_31 ge_19_34 ge_19_35 ge_19_38,
   (gs_dup ge_19_34).sn,
   (gq_aload_n ge_19_39).sn,
   (gs_dup ge_19_40).sn,
   (gs_get (Cn := gm_R1) (T := gm_T1) (N := 3) rfl gc_in1 (by decide) (gm_f _ gc_w46) ge_19_41).sn,
   (gq_iconst ge_19_44 (by decide)).sn,
   (gq_iadd ge_19_45).sn,
   (gs_puti (Cn := gm_R1) (T := gm_T1) (N := 3) rfl gc_in1 gm_t1 gm_ty1 gm_nm1 (by decide) (by decide +kernel) (gm_f _ gc_w46) rfl ge_19_46).sn,
   (gq_aload_n ge_19_49).sn,
   (gq_bipush ge_19_50 (by decide)).sn,
   gs_callV (zs := gc_z (gc_G L xs)) (Cn := gm_R1) (T := gm_T1) (N := 3) rfl (gc_Gok L xs) (gm_good gc_k22) rfl rfl (gm_f _ gc_w2) (gm_f _ gc_w288) (gm_f _ gc_w290) (gm_f _ gc_s2) (by decide +kernel) (by decide) ge_19_52,
   (gq_aload_n ge_19_55).sn,
   (gq_iconst ge_19_56 (by decide)).sn,
   gs_callV (zs := gc_z (gc_G L xs)) (Cn := gm_R1) (T := gm_T1) (N := 3) rfl (gc_Gok L xs) (gm_good gc_k24) rfl rfl (gm_f _ gc_w2) (gm_f _ gc_w296) (gm_f _ gc_w298) (gm_f _ gc_s4) (by decide +kernel) (by decide) ge_19_57,
   (gq_astore_n ge_19_60).sn,
   (gq_aload_n ge_19_61).sn,
   (gs_get (Cn := gm_R1) (T := gm_T1) (N := 3) rfl gc_in1 (by decide) (gm_f _ gc_w46) ge_19_62).sn,
   (gq_aload_n ge_19_65).sn,
   (gs_get (Cn := gm_R1) (T := gm_T1) (N := 3) rfl gc_in1 (by decide) (gm_f _ gc_w45) ge_19_66).sn,
   (gq_icmp_ge ge_19_69 (by decide)).sn,
   gs_thr (names := ["java/lang/RuntimeException", "java/lang/Exception"]) hl (by decide +kernel) (by decide +kernel) (gm_f _ gc_w286) (gm_f _ gc_w9) (gc_at gc_r_IllegalArgumentException gc_q_IllegalArgumentException gc_w287) (by decide +kernel) gc_gu (by decide) ge_19_72 ge_19_75 ge_19_76 ge_19_79,
   (gs_dup ge_19_75).sn,
   (gq_aload_n ge_19_80).sn,
   (gs_aret (Or.inl ⟨_, rfl⟩) ge_19_81).sn, trivial⟩
set_option maxRecDepth 100000 in
set_option maxHeartbeats 4000000 in
/-- GrammarMachine$Reader.next -/
theorem gc_o20 (L : Nat) (xs : Nat → Int32) {l : Launch} (hl : l.stackTraces = false) : gx_all (gx_Sn l (gc_z (gc_G L xs)) (gm_cl, gm_tyl, gc_G L xs, Cond.code gc_y20 gc_c20 1 (some .char) :: gm_WS, gc_c20, gc_y20, 1, (some .char))) gc_bl20 :=
  ⟨(gq_aload_n ge_20_0).sn,
   (gs_get (Cn := gm_R1) (T := gm_T1) (N := 3) rfl gc_in1 (by decide) (gm_f _ gc_w46) ge_20_1).sn,
   (gq_aload_n ge_20_4).sn,
   (gs_get (Cn := gm_R1) (T := gm_T1) (N := 3) rfl gc_in1 (by decide) (gm_f _ gc_w45) ge_20_5).sn,
   (gq_icmp_ge ge_20_8 (by decide)).sn,
   (gq_aload_n ge_20_11).sn,
   (gs_get (Cn := gm_R1) (T := gm_T1) (N := 3) rfl gc_in1 (by decide) (gm_f _ gc_w44) ge_20_12).sn,
   (gq_aload_n ge_20_15).sn,
   (gs_get (Cn := gm_R1) (T := gm_T1) (N := 3) rfl gc_in1 (by decide) (gm_f _ gc_w46) ge_20_16).sn,
   (gs_cald rfl ge_20_19).sn,
   (gq_goto ge_20_20 (by decide)).sn,
   (gq_iconst ge_20_23 (by decide)).sn,
   (gs_iret ge_20_24).sn, trivial⟩
set_option maxRecDepth 100000 in
set_option maxHeartbeats 4000000 in
/-- GrammarMachine$Reader.isName -/
theorem gc_o21 (L : Nat) (xs : Nat → Int32) {l : Launch} (hl : l.stackTraces = false) : gx_all (gx_Sn l (gc_z (gc_G L xs)) (gm_cl, gm_tyl, gc_G L xs, Cond.code gc_y21 gc_c21 1 (some .boolean) :: gm_WS, gc_c21, gc_y21, 1, (some .boolean))) gc_bl21 :=
  ⟨(gq_iload_n ge_21_0).sn,
   (gq_bipush ge_21_1 (by decide)).sn,
   (gq_icmp_lt ge_21_3 (by decide)).sn,
   (gq_iload_n ge_21_6).sn,
   (gq_bipush ge_21_7 (by decide)).sn,
   (gq_icmp_ge ge_21_9 (by decide)).sn,
   (gq_iconst ge_21_12 (by decide)).sn,
   (gq_goto ge_21_13 (by decide)).sn,
   (gq_iconst ge_21_16 (by decide)).sn,
   (gs_iret ge_21_17).sn, trivial⟩
set_option maxRecDepth 100000 in
set_option maxHeartbeats 4000000 in
/-- GrammarMachine$Reader.pass -/
theorem gc_o22 (L : Nat) (xs : Nat → Int32) {l : Launch} (hl : l.stackTraces = false) : gx_all (gx_Sn l (gc_z (gc_G L xs)) (gm_cl, gm_tyl, gc_G L xs, Cond.code gc_y22 gc_c22 2 none :: gm_WS, gc_c22, gc_y22, 2, none)) gc_bl22 :=
  ⟨(gq_aload_n ge_22_0).sn,
   (gq_iload_n ge_22_1).sn,
   gs_callV (zs := gc_z (gc_G L xs)) (Cn := gm_R1) (T := gm_T1) (N := 3) rfl (gc_Gok L xs) (gm_good gc_k23) rfl rfl (gm_f _ gc_w2) (gm_f _ gc_w292) (gm_f _ gc_w294) (gm_f _ gc_s3) (by decide +kernel) (by decide) ge_22_2,
   (gq_if_ne ge_22_5 (by decide)).sn,
   gs_thr (names := ["java/lang/RuntimeException", "java/lang/Exception"]) hl (by decide +kernel) (by decide +kernel) (gm_f _ gc_w286) (gm_f _ gc_w9) (gc_at gc_r_IllegalArgumentException gc_q_IllegalArgumentException gc_w287) (by decide +kernel) gc_gu (by decide) ge_22_8 ge_22_11 ge_22_12 ge_22_15,
   (gs_dup ge_22_11).sn,
   (gs_ret ge_22_16).sn, trivial⟩
set_option maxRecDepth 100000 in
set_option maxHeartbeats 4000000 in
/-- GrammarMachine$Reader.passes -/
theorem gc_o23 (L : Nat) (xs : Nat → Int32) {l : Launch} (hl : l.stackTraces = false) : gx_all (gx_Sn l (gc_z (gc_G L xs)) (gm_cl, gm_tyl, gc_G L xs, Cond.code gc_y23 gc_c23 2 (some .boolean) :: gm_WS, gc_c23, gc_y23, 2, (some .boolean))) gc_bl23 :=
  ⟨(gq_aload_n ge_23_0).sn,
   gs_callV (zs := gc_z (gc_G L xs)) (Cn := gm_R1) (T := gm_T1) (N := 3) rfl (gc_Gok L xs) (gm_good gc_k20) rfl rfl (gm_f _ gc_w2) (gm_f _ gc_w279) (gm_f _ gc_w281) (gm_f _ gc_s1) (by decide +kernel) (by decide) ge_23_1,
   (gq_iload_n ge_23_4).sn,
   (gq_icmp_eq ge_23_5 (by decide)).sn,
   (gq_iconst ge_23_8 (by decide)).sn,
   (gs_iret ge_23_9).sn,
   (gq_aload_n ge_23_10).sn,
   (gs_dup ge_23_11).sn,
   (gs_get (Cn := gm_R1) (T := gm_T1) (N := 3) rfl gc_in1 (by decide) (gm_f _ gc_w46) ge_23_12).sn,
   (gq_iconst ge_23_15 (by decide)).sn,
   (gq_iadd ge_23_16).sn,
   (gs_puti (Cn := gm_R1) (T := gm_T1) (N := 3) rfl gc_in1 gm_t1 gm_ty1 gm_nm1 (by decide) (by decide +kernel) (gm_f _ gc_w46) rfl ge_23_17).sn,
   (gq_iconst ge_23_20 (by decide)).sn,
   (gs_iret ge_23_21).sn, trivial⟩
set_option maxRecDepth 100000 in
set_option maxHeartbeats 4000000 in
/-- GrammarMachine$Reader.readChoice -/
theorem gc_o24 (L : Nat) (xs : Nat → Int32) {l : Launch} (hl : l.stackTraces = false) : gx_all (gx_Sn l (gc_z (gc_G L xs)) (gm_cl, gm_tyl, gc_G L xs, Cond.code gc_y24 gc_c24 5 (some (.object "GrammarMachine$Pattern")) :: gm_WS, gc_c24, gc_y24, 5, (some (.object "GrammarMachine$Pattern")))) gc_bl24 :=
  ⟨(gq_aload_n ge_24_0).sn,
   (gq_iload_n ge_24_1).sn,
   gs_callV (zs := gc_z (gc_G L xs)) (Cn := gm_R1) (T := gm_T1) (N := 3) rfl (gc_Gok L xs) (gm_good gc_k25) rfl rfl (gm_f _ gc_w2) (gm_f _ gc_w300) (gm_f _ gc_w302) (gm_f _ gc_s5) (by decide +kernel) (by decide) ge_24_2,
   (gq_astore_n ge_24_5).sn,
   (gq_aload_n ge_24_6).sn,
   gs_callV (zs := gc_z (gc_G L xs)) (Cn := gm_R1) (T := gm_T1) (N := 3) rfl (gc_Gok L xs) (gm_good gc_k20) rfl rfl (gm_f _ gc_w2) (gm_f _ gc_w279) (gm_f _ gc_w281) (gm_f _ gc_s1) (by decide +kernel) (by decide) ge_24_7,
   (gq_bipush ge_24_10 (by decide)).sn,
   (gq_icmp_eq ge_24_12 (by decide)).sn,
   (gq_aload_n ge_24_15).sn,
   (gs_aret (Or.inl ⟨_, rfl⟩) ge_24_16).sn,
   (gs_new (Cn := gm_R11) (T := gm_T11) rfl gc_in11 gm_t11 gm_ty11 (by decide +kernel) (gc_dflt (by decide)) (gm_f _ gc_w506) (gm_f _ gc_w507) (gm_f _ gc_w24) ge_24_17).sn,
   (gs_dup ge_24_20).sn,
   gs_callIN (zs := gc_z (gc_G L xs)) rfl (gc_Gok L xs) (gm_good gc_k42) rfl (gm_f _ gc_w24) gc_n508 (gm_f _ gc_w509) rfl (by decide +kernel) (by decide) ge_24_21,
   (gq_astore_n ge_24_24).sn,
   (gq_aload_n ge_24_25).sn,
   (gq_aload_n ge_24_26).sn,
   gs_callV (zs := gc_z (gc_G L xs)) (Cn := gm_R11) (T := gm_T11) (N := 1) rfl (gc_Gok L xs) (gm_good gc_k43) rfl rfl (gm_f _ gc_w24) (gm_f _ gc_w518) (gm_f _ gc_w519) (gm_f _ gc_w520) (by decide +kernel) (by decide) ge_24_27,
   (gq_iconst ge_24_30 (by decide)).sn,
   (gq_istore ge_24_31).sn,
   (gq_iload ge_24_33).sn,
   (gq_bipush ge_24_35 (by decide)).sn,
   (gq_icmp_ge ge_24_37 (by decide)).sn,
   (gq_aload_n ge_24_40).sn,
   (gq_bipush ge_24_41 (by decide)).sn,
   gs_callV (zs := gc_z (gc_G L xs)) (Cn := gm_R1) (T := gm_T1) (N := 3) rfl (gc_Gok L xs) (gm_good gc_k23) rfl rfl (gm_f _ gc_w2) (gm_f _ gc_w292) (gm_f _ gc_w294) (gm_f _ gc_s3) (by decide +kernel) (by decide) ge_24_43,
   (gq_if_eq ge_24_46 (by decide)).sn,
   (gq_aload_n ge_24_49).sn,
   (gq_aload_n ge_24_50).sn,
   (gq_iload_n ge_24_51).sn,
   gs_callV (zs := gc_z (gc_G L xs)) (Cn := gm_R1) (T := gm_T1) (N := 3) rfl (gc_Gok L xs) (gm_good gc_k25) rfl rfl (gm_f _ gc_w2) (gm_f _ gc_w300) (gm_f _ gc_w302) (gm_f _ gc_s5) (by decide +kernel) (by decide) ge_24_52,
   gs_callV (zs := gc_z (gc_G L xs)) (Cn := gm_R11) (T := gm_T11) (N := 1) rfl (gc_Gok L xs) (gm_good gc_k43) rfl rfl (gm_f _ gc_w24) (gm_f _ gc_w518) (gm_f _ gc_w519) (gm_f _ gc_w520) (by decide +kernel) (by decide) ge_24_55,
   (gs_inc ge_24_58).sn,
   (gq_goto ge_24_61 (by decide)).sn,
   (gq_aload_n ge_24_64).sn,
   (gs_aret (Or.inl ⟨_, rfl⟩) ge_24_65).sn, trivial⟩
set_option maxRecDepth 100000 in
set_option maxHeartbeats 4000000 in
/-- GrammarMachine$Reader.readSequence -/
theorem gc_o25 (L : Nat) (xs : Nat → Int32) {l : Launch} (hl : l.stackTraces = false) : gx_all (gx_Sn l (gc_z (gc_G L xs)) (gm_cl, gm_tyl, gc_G L xs, Cond.code gc_y25 gc_c25 5 (some (.object "GrammarMachine$Pattern")) :: gm_WS, gc_c25, gc_y25, 5, (some (.object "GrammarMachine$Pattern")))) gc_bl25 :=
  ⟨(gq_aload_n ge_25_0).sn,
   (gq_iload_n ge_25_1).sn,
   gs_callV (zs := gc_z (gc_G L xs)) (Cn := gm_R1) (T := gm_T1) (N := 3) rfl (gc_Gok L xs) (gm_good gc_k26) rfl rfl (gm_f _ gc_w2) (gm_f _ gc_w304) (gm_f _ gc_w306) (gm_f _ gc_s6) (by decide +kernel) (by decide) ge_25_2,
   (gq_astore_n ge_25_5).sn,
   (gq_aload_n ge_25_6).sn,
   gs_callV (zs := gc_z (gc_G L xs)) (Cn := gm_R1) (T := gm_T1) (N := 3) rfl (gc_Gok L xs) (gm_good gc_k20) rfl rfl (gm_f _ gc_w2) (gm_f _ gc_w279) (gm_f _ gc_w281) (gm_f _ gc_s1) (by decide +kernel) (by decide) ge_25_7,
   gs_callS (zs := gc_z (gc_G L xs)) rfl (gc_Gok L xs) (gm_good gc_k39) rfl (gm_f _ gc_w2) (gm_f _ gc_w396) (gm_f _ gc_w397) (by decide +kernel) (by decide) ge_25_10,
   (gq_if_eq ge_25_13 (by decide)).sn,
   (gq_aload_n ge_25_16).sn,
   (gs_aret (Or.inl ⟨_, rfl⟩) ge_25_17).sn,
   (gs_new (Cn := gm_R10) (T := gm_T10) rfl gc_in10 gm_t10 gm_ty10 (by decide +kernel) (gc_dflt (by decide)) (gm_f _ gc_w399) (gm_f _ gc_w400) (gm_f _ gc_w17) ge_25_18).sn,
   (gs_dup ge_25_21).sn,
   gs_callIN (zs := gc_z (gc_G L xs)) rfl (gc_Gok L xs) (gm_good gc_k40) rfl (gm_f _ gc_w17) gc_n401 (gm_f _ gc_w402) rfl (by decide +kernel) (by decide) ge_25_22,
   (gq_astore_n ge_25_25).sn,
   (gq_aload_n ge_25_26).sn,
   (gq_aload_n ge_25_27).sn,
   gs_callV (zs := gc_z (gc_G L xs)) (Cn := gm_R10) (T := gm_T10) (N := 1) rfl (gc_Gok L xs) (gm_good gc_k41) rfl rfl (gm_f _ gc_w17) (gm_f _ gc_w435) (gm_f _ gc_w436) (gm_f _ gc_w437) (by decide +kernel) (by decide) ge_25_28,
   (gq_iconst ge_25_31 (by decide)).sn,
   (gq_istore ge_25_32).sn,
   (gq_iload ge_25_34).sn,
   (gq_bipush ge_25_36 (by decide)).sn,
   (gq_icmp_ge ge_25_38 (by decide)).sn,
   (gq_aload_n ge_25_41).sn,
   gs_callV (zs := gc_z (gc_G L xs)) (Cn := gm_R1) (T := gm_T1) (N := 3) rfl (gc_Gok L xs) (gm_good gc_k20) rfl rfl (gm_f _ gc_w2) (gm_f _ gc_w279) (gm_f _ gc_w281) (gm_f _ gc_s1) (by decide +kernel) (by decide) ge_25_42,
   gs_callS (zs := gc_z (gc_G L xs)) rfl (gc_Gok L xs) (gm_good gc_k39) rfl (gm_f _ gc_w2) (gm_f _ gc_w396) (gm_f _ gc_w397) (by decide +kernel) (by decide) ge_25_45,
   (gq_if_ne ge_25_48 (by decide)).sn,
   (gq_aload_n ge_25_51).sn,
   (gq_aload_n ge_25_52).sn,
   (gq_iload_n ge_25_53).sn,
   gs_callV (zs := gc_z (gc_G L xs)) (Cn := gm_R1) (T := gm_T1) (N := 3) rfl (gc_Gok L xs) (gm_good gc_k26) rfl rfl (gm_f _ gc_w2) (gm_f _ gc_w304) (gm_f _ gc_w306) (gm_f _ gc_s6) (by decide +kernel) (by decide) ge_25_54,
   gs_callV (zs := gc_z (gc_G L xs)) (Cn := gm_R10) (T := gm_T10) (N := 1) rfl (gc_Gok L xs) (gm_good gc_k41) rfl rfl (gm_f _ gc_w17) (gm_f _ gc_w435) (gm_f _ gc_w436) (gm_f _ gc_w437) (by decide +kernel) (by decide) ge_25_57,
   (gs_inc ge_25_60).sn,
   (gq_goto ge_25_63 (by decide)).sn,
   (gq_aload_n ge_25_66).sn,
   (gs_aret (Or.inl ⟨_, rfl⟩) ge_25_67).sn, trivial⟩
set_option maxRecDepth 100000 in
set_option maxHeartbeats 4000000 in
/-- GrammarMachine$Reader.readItem -/
theorem gc_o26 (L : Nat) (xs : Nat → Int32) {l : Launch} (hl : l.stackTraces = false) : gx_all (gx_Sn l (gc_z (gc_G L xs)) (gm_cl, gm_tyl, gc_G L xs, Cond.code gc_y26 gc_c26 5 (some (.object "GrammarMachine$Pattern")) :: gm_WS, gc_c26, gc_y26, 5, (some (.object "GrammarMachine$Pattern")))) gc_bl26 :=
  ⟨(gq_iconst ge_26_0 (by decide)).sn,
   (gq_istore_n ge_26_1).sn,
   (gq_iconst ge_26_2 (by decide)).sn,
   (gq_istore_n ge_26_3).sn,
   (gq_aload_n ge_26_4).sn,
   (gs_get (Cn := gm_R1) (T := gm_T1) (N := 3) rfl gc_in1 (by decide) (gm_f _ gc_w46) ge_26_5).sn,
   (gq_aload_n ge_26_8).sn,
   (gs_get (Cn := gm_R1) (T := gm_T1) (N := 3) rfl gc_in1 (by decide) (gm_f _ gc_w45) ge_26_9).sn,
   (gq_icmp_ge ge_26_12 (by decide)).sn,
   (gq_aload_n ge_26_15).sn,
   (gs_get (Cn := gm_R1) (T := gm_T1) (N := 3) rfl gc_in1 (by decide) (gm_f _ gc_w44) ge_26_16).sn,
   (gq_aload_n ge_26_19).sn,
   (gs_get (Cn := gm_R1) (T := gm_T1) (N := 3) rfl gc_in1 (by decide) (gm_f _ gc_w46) ge_26_20).sn,
   (gs_cald rfl ge_26_23).sn,
   (gq_bipush ge_26_24 (by decide)).sn,
   (gq_icmp_eq ge_26_26 (by decide)).sn,
   (gq_aload_n ge_26_29).sn,
   (gs_get (Cn := gm_R1) (T := gm_T1) (N := 3) rfl gc_in1 (by decide) (gm_f _ gc_w44) ge_26_30).sn,
   (gq_aload_n ge_26_33).sn,
   (gs_get (Cn := gm_R1) (T := gm_T1) (N := 3) rfl gc_in1 (by decide) (gm_f _ gc_w46) ge_26_34).sn,
   (gs_cald rfl ge_26_37).sn,
   (gq_bipush ge_26_38 (by decide)).sn,
   (gq_icmp_ne ge_26_40 (by decide)).sn,
   (gq_iconst ge_26_43 (by decide)).sn,
   (gq_istore_n ge_26_44).sn,
   (gq_iload_n ge_26_45).sn,
   (gq_aload_n ge_26_46).sn,
   (gs_get (Cn := gm_R1) (T := gm_T1) (N := 3) rfl gc_in1 (by decide) (gm_f _ gc_w44) ge_26_47).sn,
   (gq_aload_n ge_26_50).sn,
   (gs_get (Cn := gm_R1) (T := gm_T1) (N := 3) rfl gc_in1 (by decide) (gm_f _ gc_w46) ge_26_51).sn,
   (gs_cald rfl ge_26_54).sn,
   (gq_bipush ge_26_55 (by decide)).sn,
   (gq_icmp_ne ge_26_57 (by decide)).sn,
   (gq_iconst ge_26_60 (by decide)).sn,
   (gq_goto ge_26_61 (by decide)).sn,
   (gq_iconst ge_26_64 (by decide)).sn,
   (gq_icmp_ne ge_26_65 (by decide)).sn,
   (gq_iconst ge_26_68 (by decide)).sn,
   (gq_goto ge_26_69 (by decide)).sn,
   (gq_iconst ge_26_72 (by decide)).sn,
   (gq_istore_n ge_26_73).sn,
   (gq_aload_n ge_26_74).sn,
   (gs_dup ge_26_75).sn,
   (gs_get (Cn := gm_R1) (T := gm_T1) (N := 3) rfl gc_in1 (by decide) (gm_f _ gc_w46) ge_26_76).sn,
   (gq_iconst ge_26_79 (by decide)).sn,
   (gq_iadd ge_26_80).sn,
   (gs_puti (Cn := gm_R1) (T := gm_T1) (N := 3) rfl gc_in1 gm_t1 gm_ty1 gm_nm1 (by decide) (by decide +kernel) (gm_f _ gc_w46) rfl ge_26_81).sn,
   (gq_goto ge_26_84 (by decide)).sn,
   (gq_aload_n ge_26_87).sn,
   (gq_iload_n ge_26_88).sn,
   gs_callV (zs := gc_z (gc_G L xs)) (Cn := gm_R1) (T := gm_T1) (N := 3) rfl (gc_Gok L xs) (gm_good gc_k27) rfl rfl (gm_f _ gc_w2) (gm_f _ gc_w308) (gm_f _ gc_w310) (gm_f _ gc_s7) (by decide +kernel) (by decide) ge_26_89,
   (gq_astore ge_26_92).sn,
   (gq_iload_n ge_26_94).sn,
   (gq_if_eq ge_26_95 (by decide)).sn,
   (gs_new (Cn := gm_R9) (T := gm_T9) rfl gc_in9 gm_t9 gm_ty9 (by decide +kernel) (gc_dflt (by decide)) (gm_f _ gc_w383) (gm_f _ gc_w384) (gm_f _ gc_w16) ge_26_98).sn,
   (gs_dup ge_26_101).sn,
   (gq_aload ge_26_102).sn,
   (gq_iload_n ge_26_104).sn,
   gs_callI (zs := gc_z (gc_G L xs)) rfl (gc_Gok L xs) (gm_good gc_k38) rfl (gm_f _ gc_w16) (gm_f _ gc_w385) (gm_f _ gc_w386) rfl (by decide +kernel) (by decide) ge_26_105,
   (gq_goto ge_26_108 (by decide)).sn,
   (gq_aload ge_26_111).sn,
   (gs_aret (Or.inl ⟨_, rfl⟩) ge_26_113).sn, trivial⟩
set_option maxRecDepth 100000 in
set_option maxHeartbeats 4000000 in
/-- GrammarMachine$Reader.readPiece -/
theorem gc_o27 (L : Nat) (xs : Nat → Int32) {l : Launch} (hl : l.stackTraces = false) : gx_all (gx_Sn l (gc_z (gc_G L xs)) (gm_cl, gm_tyl, gc_G L xs, Cond.code gc_y27 gc_c27 3 (some (.object "GrammarMachine$Pattern")) :: gm_WS, gc_c27, gc_y27, 3, (some (.object "GrammarMachine$Pattern")))) gc_bl27 :=
  ⟨(gq_aload_n ge_27_0).sn,
   (gq_iload_n ge_27_1).sn,
   gs_callV (zs := gc_z (gc_G L xs)) (Cn := gm_R1) (T := gm_T1) (N := 3) rfl (gc_Gok L xs) (gm_good gc_k28) rfl rfl (gm_f _ gc_w2) (gm_f _ gc_w312) (gm_f _ gc_w314) (gm_f _ gc_s8) (by decide +kernel) (by decide) ge_27_2,
   (gq_astore_n ge_27_5).sn,
   (gq_aload_n ge_27_6).sn,
   (gq_bipush ge_27_7 (by decide)).sn,
   gs_callV (zs := gc_z (gc_G L xs)) (Cn := gm_R1) (T := gm_T1) (N := 3) rfl (gc_Gok L xs) (gm_good gc_k23) rfl rfl (gm_f _ gc_w2) (gm_f _ gc_w292) (gm_f _ gc_w294) (gm_f _ gc_s3) (by decide +kernel) (by decide) ge_27_9,
   (gq_if_eq ge_27_12 (by decide)).sn,
   (gs_new (Cn := gm_R8) (T := gm_T8) rfl gc_in8 gm_t8 gm_ty8 (by decide +kernel) (gc_dflt (by decide)) (gm_f _ gc_w367) (gm_f _ gc_w368) (gm_f _ gc_w15) ge_27_15).sn,
   (gs_dup ge_27_18).sn,
   (gq_aload_n ge_27_19).sn,
   (gq_iconst ge_27_20 (by decide)).sn,
   (gq_bipush ge_27_21 (by decide)).sn,
   gs_callI (zs := gc_z (gc_G L xs)) rfl (gc_Gok L xs) (gm_good gc_k37) rfl (gm_f _ gc_w15) (gm_f _ gc_w369) (gm_f _ gc_w370) rfl (by decide +kernel) (by decide) ge_27_23,
   (gs_aret (Or.inl ⟨_, rfl⟩) ge_27_26).sn,
   (gq_aload_n ge_27_27).sn,
   (gq_bipush ge_27_28 (by decide)).sn,
   gs_callV (zs := gc_z (gc_G L xs)) (Cn := gm_R1) (T := gm_T1) (N := 3) rfl (gc_Gok L xs) (gm_good gc_k23) rfl rfl (gm_f _ gc_w2) (gm_f _ gc_w292) (gm_f _ gc_w294) (gm_f _ gc_s3) (by decide +kernel) (by decide) ge_27_30,
   (gq_if_eq ge_27_33 (by decide)).sn,
   (gs_new (Cn := gm_R8) (T := gm_T8) rfl gc_in8 gm_t8 gm_ty8 (by decide +kernel) (gc_dflt (by decide)) (gm_f _ gc_w367) (gm_f _ gc_w368) (gm_f _ gc_w15) ge_27_36).sn,
   (gs_dup ge_27_39).sn,
   (gq_aload_n ge_27_40).sn,
   (gq_iconst ge_27_41 (by decide)).sn,
   (gq_bipush ge_27_42 (by decide)).sn,
   gs_callI (zs := gc_z (gc_G L xs)) rfl (gc_Gok L xs) (gm_good gc_k37) rfl (gm_f _ gc_w15) (gm_f _ gc_w369) (gm_f _ gc_w370) rfl (by decide +kernel) (by decide) ge_27_44,
   (gs_aret (Or.inl ⟨_, rfl⟩) ge_27_47).sn,
   (gq_aload_n ge_27_48).sn,
   (gq_bipush ge_27_49 (by decide)).sn,
   gs_callV (zs := gc_z (gc_G L xs)) (Cn := gm_R1) (T := gm_T1) (N := 3) rfl (gc_Gok L xs) (gm_good gc_k23) rfl rfl (gm_f _ gc_w2) (gm_f _ gc_w292) (gm_f _ gc_w294) (gm_f _ gc_s3) (by decide +kernel) (by decide) ge_27_51,
   (gq_if_eq ge_27_54 (by decide)).sn,
   (gs_new (Cn := gm_R8) (T := gm_T8) rfl gc_in8 gm_t8 gm_ty8 (by decide +kernel) (gc_dflt (by decide)) (gm_f _ gc_w367) (gm_f _ gc_w368) (gm_f _ gc_w15) ge_27_57).sn,
   (gs_dup ge_27_60).sn,
   (gq_aload_n ge_27_61).sn,
   (gq_iconst ge_27_62 (by decide)).sn,
   (gq_iconst ge_27_63 (by decide)).sn,
   gs_callI (zs := gc_z (gc_G L xs)) rfl (gc_Gok L xs) (gm_good gc_k37) rfl (gm_f _ gc_w15) (gm_f _ gc_w369) (gm_f _ gc_w370) rfl (by decide +kernel) (by decide) ge_27_64,
   (gs_aret (Or.inl ⟨_, rfl⟩) ge_27_67).sn,
   (gq_aload_n ge_27_68).sn,
   (gs_aret (Or.inl ⟨_, rfl⟩) ge_27_69).sn, trivial⟩
set_option maxRecDepth 100000 in
set_option maxHeartbeats 4000000 in
/-- GrammarMachine$Reader.readAtom -/
theorem gc_o28 (L : Nat) (xs : Nat → Int32) {l : Launch} (hl : l.stackTraces = false) : gx_all (gx_Sn l (gc_z (gc_G L xs)) (gm_cl, gm_tyl, gc_G L xs, Cond.code gc_y28 gc_c28 3 (some (.object "GrammarMachine$Pattern")) :: gm_WS, gc_c28, gc_y28, 3, (some (.object "GrammarMachine$Pattern")))) gc_bl28 :=
  ⟨(gq_aload_n ge_28_0).sn,
   gs_callV (zs := gc_z (gc_G L xs)) (Cn := gm_R1) (T := gm_T1) (N := 3) rfl (gc_Gok L xs) (gm_good gc_k20) rfl rfl (gm_f _ gc_w2) (gm_f _ gc_w279) (gm_f _ gc_w281) (gm_f _ gc_s1) (by decide +kernel) (by decide) ge_28_1,
   (gq_istore_n ge_28_4).sn,
   (gq_iload_n ge_28_5).sn,
   (gq_bipush ge_28_6 (by decide)).sn,
   (gq_icmp_eq ge_28_8 (by decide)).sn,
   (gq_iload_n ge_28_11).sn,
   (gq_bipush ge_28_12 (by decide)).sn,
   (gq_icmp_ne ge_28_14 (by decide)).sn,
   (gq_aload_n ge_28_17).sn,
   (gq_iload_n ge_28_18).sn,
   gs_callV (zs := gc_z (gc_G L xs)) (Cn := gm_R1) (T := gm_T1) (N := 3) rfl (gc_Gok L xs) (gm_good gc_k29) rfl rfl (gm_f _ gc_w2) (gm_f _ gc_w316) (gm_f _ gc_w318) (gm_f _ gc_s9) (by decide +kernel) (by decide) ge_28_19,
   (gs_aret (Or.inl ⟨_, rfl⟩) ge_28_22).sn,
   (gq_iload_n ge_28_23).sn,
   (gq_bipush ge_28_24 (by decide)).sn,
   (gq_icmp_ne ge_28_26 (by decide)).sn,
   (gq_aload_n ge_28_29).sn,
   gs_callV (zs := gc_z (gc_G L xs)) (Cn := gm_R1) (T := gm_T1) (N := 3) rfl (gc_Gok L xs) (gm_good gc_k32) rfl rfl (gm_f _ gc_w2) (gm_f _ gc_w333) (gm_f _ gc_w335) (gm_f _ gc_s10) (by decide +kernel) (by decide) ge_28_30,
   (gs_aret (Or.inl ⟨_, rfl⟩) ge_28_33).sn,
   (gq_iload_n ge_28_34).sn,
   gs_callS (zs := gc_z (gc_G L xs)) rfl (gc_Gok L xs) (gm_good gc_k34) rfl (gm_f _ gc_w2) (gm_f _ gc_w341) (gm_f _ gc_w342) (by decide +kernel) (by decide) ge_28_35,
   (gq_if_ne ge_28_38 (by decide)).sn,
   (gq_iload_n ge_28_41).sn,
   gs_callS (zs := gc_z (gc_G L xs)) rfl (gc_Gok L xs) (gm_good gc_k21) rfl (gm_f _ gc_w2) (gm_f _ gc_w283) (gm_f _ gc_w284) (by decide +kernel) (by decide) ge_28_42,
   (gq_if_ne ge_28_45 (by decide)).sn,
   (gq_iload_n ge_28_48).sn,
   (gq_bipush ge_28_49 (by decide)).sn,
   (gq_icmp_eq ge_28_51 (by decide)).sn,
   gs_thr (names := ["java/lang/RuntimeException", "java/lang/Exception"]) hl (by decide +kernel) (by decide +kernel) (gm_f _ gc_w286) (gm_f _ gc_w9) (gc_at gc_r_IllegalArgumentException gc_q_IllegalArgumentException gc_w287) (by decide +kernel) gc_gu (by decide) ge_28_54 ge_28_57 ge_28_58 ge_28_61,
   (gs_dup ge_28_57).sn,
   (gq_aload_n ge_28_62).sn,
   (gs_dup ge_28_63).sn,
   (gs_get (Cn := gm_R1) (T := gm_T1) (N := 3) rfl gc_in1 (by decide) (gm_f _ gc_w46) ge_28_64).sn,
   (gq_iconst ge_28_67 (by decide)).sn,
   (gq_iadd ge_28_68).sn,
   (gs_puti (Cn := gm_R1) (T := gm_T1) (N := 3) rfl gc_in1 gm_t1 gm_ty1 gm_nm1 (by decide) (by decide +kernel) (gm_f _ gc_w46) rfl ge_28_69).sn,
   (gq_iload_n ge_28_72).sn,
   (gq_bipush ge_28_73 (by decide)).sn,
   (gq_icmp_ne ge_28_75 (by decide)).sn,
   (gs_new (Cn := gm_R5) (T := gm_T5) rfl gc_in5 gm_t5 gm_ty5 (by decide +kernel) (gc_dflt (by decide)) (gm_f _ gc_w344) (gm_f _ gc_w345) (gm_f _ gc_w13) ge_28_78).sn,
   (gs_dup ge_28_81).sn,
   (gq_iconst ge_28_82 (by decide)).sn,
   (gq_sipush ge_28_83 (by decide)).sn,
   gs_callI (zs := gc_z (gc_G L xs)) rfl (gc_Gok L xs) (gm_good gc_k35) rfl (gm_f _ gc_w13) (gm_f _ gc_w346) (gm_f _ gc_w347) rfl (by decide +kernel) (by decide) ge_28_86,
   (gs_aret (Or.inl ⟨_, rfl⟩) ge_28_89).sn,
   (gq_iload_n ge_28_90).sn,
   gs_callS (zs := gc_z (gc_G L xs)) rfl (gc_Gok L xs) (gm_good gc_k21) rfl (gm_f _ gc_w2) (gm_f _ gc_w283) (gm_f _ gc_w284) (by decide +kernel) (by decide) ge_28_91,
   (gq_if_eq ge_28_94 (by decide)).sn,
   (gs_new (Cn := gm_R6) (T := gm_T6) rfl gc_in6 gm_t6 gm_ty6 (by decide +kernel) (gc_dflt (by decide)) (gm_f _ gc_w357) (gm_f _ gc_w358) (gm_f _ gc_w14) ge_28_97).sn,
   (gs_dup ge_28_100).sn,
   (gq_iload_n ge_28_101).sn,
   (gq_bipush ge_28_102 (by decide)).sn,
   (gq_isub ge_28_104).sn,
   gs_callI (zs := gc_z (gc_G L xs)) rfl (gc_Gok L xs) (gm_good gc_k36) rfl (gm_f _ gc_w14) (gm_f _ gc_w359) (gm_f _ gc_w360) rfl (by decide +kernel) (by decide) ge_28_105,
   (gq_goto ge_28_108 (by decide)).sn,
   (gs_new (Cn := gm_R5) (T := gm_T5) rfl gc_in5 gm_t5 gm_ty5 (by decide +kernel) (gc_dflt (by decide)) (gm_f _ gc_w344) (gm_f _ gc_w345) (gm_f _ gc_w13) ge_28_111).sn,
   (gs_dup ge_28_114).sn,
   (gq_iload_n ge_28_115).sn,
   (gq_iload_n ge_28_116).sn,
   gs_callI (zs := gc_z (gc_G L xs)) rfl (gc_Gok L xs) (gm_good gc_k35) rfl (gm_f _ gc_w13) (gm_f _ gc_w346) (gm_f _ gc_w347) rfl (by decide +kernel) (by decide) ge_28_117,
   (gs_aret (Or.inl ⟨_, rfl⟩) ge_28_120).sn, trivial⟩
set_option maxRecDepth 100000 in
set_option maxHeartbeats 4000000 in
/-- GrammarMachine$Reader.readBracket -/
theorem gc_o29 (L : Nat) (xs : Nat → Int32) {l : Launch} (hl : l.stackTraces = false) : gx_all (gx_Sn l (gc_z (gc_G L xs)) (gm_cl, gm_tyl, gc_G L xs, Cond.code gc_y29 gc_c29 3 (some (.object "GrammarMachine$Pattern")) :: gm_WS, gc_c29, gc_y29, 3, (some (.object "GrammarMachine$Pattern")))) gc_bl29 :=
  ⟨(gq_iload_n ge_29_0).sn,
   (gq_bipush ge_29_1 (by decide)).sn,
   (gq_icmp_lt ge_29_3 (by decide)).sn,
   gs_thr (names := ["java/lang/RuntimeException", "java/lang/Exception"]) hl (by decide +kernel) (by decide +kernel) (gm_f _ gc_w286) (gm_f _ gc_w9) (gc_at gc_r_IllegalArgumentException gc_q_IllegalArgumentException gc_w287) (by decide +kernel) gc_gu (by decide) ge_29_6 ge_29_9 ge_29_10 ge_29_13,
   (gs_dup ge_29_9).sn,
   (gq_aload_n ge_29_14).sn,
   (gq_bipush ge_29_15 (by decide)).sn,
   gs_callV (zs := gc_z (gc_G L xs)) (Cn := gm_R1) (T := gm_T1) (N := 3) rfl (gc_Gok L xs) (gm_good gc_k23) rfl rfl (gm_f _ gc_w2) (gm_f _ gc_w292) (gm_f _ gc_w294) (gm_f _ gc_s3) (by decide +kernel) (by decide) ge_29_17,
   (gq_if_eq ge_29_20 (by decide)).sn,
   (gq_aload_n ge_29_23).sn,
   (gq_iload_n ge_29_24).sn,
   (gq_iconst ge_29_25 (by decide)).sn,
   (gq_iadd ge_29_26).sn,
   gs_callV (zs := gc_z (gc_G L xs)) (Cn := gm_R1) (T := gm_T1) (N := 3) rfl (gc_Gok L xs) (gm_good gc_k24) rfl rfl (gm_f _ gc_w2) (gm_f _ gc_w296) (gm_f _ gc_w298) (gm_f _ gc_s4) (by decide +kernel) (by decide) ge_29_27,
   (gq_astore_n ge_29_30).sn,
   (gq_aload_n ge_29_31).sn,
   (gq_bipush ge_29_32 (by decide)).sn,
   gs_callV (zs := gc_z (gc_G L xs)) (Cn := gm_R1) (T := gm_T1) (N := 3) rfl (gc_Gok L xs) (gm_good gc_k22) rfl rfl (gm_f _ gc_w2) (gm_f _ gc_w288) (gm_f _ gc_w290) (gm_f _ gc_s2) (by decide +kernel) (by decide) ge_29_34,
   (gq_aload_n ge_29_37).sn,
   (gs_aret (Or.inl ⟨_, rfl⟩) ge_29_38).sn,
   (gq_aload_n ge_29_39).sn,
   (gq_bipush ge_29_40 (by decide)).sn,
   gs_callV (zs := gc_z (gc_G L xs)) (Cn := gm_R1) (T := gm_T1) (N := 3) rfl (gc_Gok L xs) (gm_good gc_k22) rfl rfl (gm_f _ gc_w2) (gm_f _ gc_w288) (gm_f _ gc_w290) (gm_f _ gc_s2) (by decide +kernel) (by decide) ge_29_42,
   (gq_aload_n ge_29_45).sn,
   (gq_bipush ge_29_46 (by decide)).sn,
   gs_callV (zs := gc_z (gc_G L xs)) (Cn := gm_R1) (T := gm_T1) (N := 3) rfl (gc_Gok L xs) (gm_good gc_k23) rfl rfl (gm_f _ gc_w2) (gm_f _ gc_w292) (gm_f _ gc_w294) (gm_f _ gc_s3) (by decide +kernel) (by decide) ge_29_48,
   (gq_if_eq ge_29_51 (by decide)).sn,
   (gs_new (Cn := gm_R7) (T := gm_T7) rfl gc_in7 gm_t7 gm_ty7 (by decide +kernel) (gc_dflt (by decide)) (gm_f _ gc_w320) (gm_f _ gc_w321) (gm_f _ gc_w12) ge_29_54).sn,
   (gs_dup ge_29_57).sn,
   (gq_null ge_29_58).sn,
   gs_callI (zs := gc_z (gc_G L xs)) rfl (gc_Gok L xs) (gm_good gc_k30) rfl (gm_f _ gc_w12) (gm_f _ gc_w322) (gm_f _ gc_w323) rfl (by decide +kernel) (by decide) ge_29_59,
   (gs_aret (Or.inl ⟨_, rfl⟩) ge_29_62).sn,
   (gq_aload_n ge_29_63).sn,
   (gq_iload_n ge_29_64).sn,
   (gq_iconst ge_29_65 (by decide)).sn,
   (gq_iadd ge_29_66).sn,
   gs_callV (zs := gc_z (gc_G L xs)) (Cn := gm_R1) (T := gm_T1) (N := 3) rfl (gc_Gok L xs) (gm_good gc_k24) rfl rfl (gm_f _ gc_w2) (gm_f _ gc_w296) (gm_f _ gc_w298) (gm_f _ gc_s4) (by decide +kernel) (by decide) ge_29_67,
   (gq_astore_n ge_29_70).sn,
   (gq_aload_n ge_29_71).sn,
   (gq_bipush ge_29_72 (by decide)).sn,
   gs_callV (zs := gc_z (gc_G L xs)) (Cn := gm_R1) (T := gm_T1) (N := 3) rfl (gc_Gok L xs) (gm_good gc_k22) rfl rfl (gm_f _ gc_w2) (gm_f _ gc_w288) (gm_f _ gc_w290) (gm_f _ gc_s2) (by decide +kernel) (by decide) ge_29_74,
   (gs_new (Cn := gm_R7) (T := gm_T7) rfl gc_in7 gm_t7 gm_ty7 (by decide +kernel) (gc_dflt (by decide)) (gm_f _ gc_w320) (gm_f _ gc_w321) (gm_f _ gc_w12) ge_29_77).sn,
   (gs_dup ge_29_80).sn,
   (gq_aload_n ge_29_81).sn,
   gs_callI (zs := gc_z (gc_G L xs)) rfl (gc_Gok L xs) (gm_good gc_k30) rfl (gm_f _ gc_w12) (gm_f _ gc_w322) (gm_f _ gc_w323) rfl (by decide +kernel) (by decide) ge_29_82,
   (gs_aret (Or.inl ⟨_, rfl⟩) ge_29_85).sn, trivial⟩
set_option maxRecDepth 100000 in
set_option maxHeartbeats 4000000 in
/-- GrammarMachine$Capture.<init> -/
theorem gc_o30 (L : Nat) (xs : Nat → Int32) {l : Launch} (hl : l.stackTraces = false) : gx_all (gx_Sn l (gc_z (gc_G L xs)) (gm_cl, gm_tyl, gc_G L xs, Cond.code gc_y30 gc_c30 2 none :: gm_WS, gc_c30, gc_y30, 2, none)) gc_bl30 :=
  ⟨(gq_aload_n ge_30_0).sn,
   gs_callIN (zs := gc_z (gc_G L xs)) rfl (gc_Gok L xs) (gm_good gc_k31) rfl (gm_f _ gc_w11) gc_n325 (gm_f _ gc_w326) rfl (by decide +kernel) (by decide) ge_30_1,
   (gq_aload_n ge_30_4).sn,
   (gq_aload_n ge_30_5).sn,
   (gs_putF (Cn := gm_R7) (T := gm_T7) (N := 1) rfl gc_in7 gm_t7 gm_ty7 gm_nm7 (by decide) (by decide +kernel) (gm_f _ gc_w329) rfl rfl rfl ge_30_6).sn,
   (gs_ret ge_30_9).sn, trivial⟩
set_option maxRecDepth 100000 in
set_option maxHeartbeats 4000000 in
/-- GrammarMachine$Pattern.<init> -/
theorem gc_o31 (L : Nat) (xs : Nat → Int32) {l : Launch} (hl : l.stackTraces = false) : gx_all (gx_Sn l (gc_z (gc_G L xs)) (gm_cl, gm_tyl, gc_G L xs, Cond.code gc_y31 gc_c31 1 none :: gm_WS, gc_c31, gc_y31, 1, none)) gc_bl31 :=
  ⟨(gq_aload_n ge_31_0).sn,
   gs_obj (gm_f _ gc_w328) (gm_f _ gc_w36) (gm_f _ gc_w37) ge_31_1,
   (gs_ret ge_31_4).sn, trivial⟩
set_option maxRecDepth 100000 in
set_option maxHeartbeats 4000000 in
/-- GrammarMachine$Reader.readRange -/
theorem gc_o32 (L : Nat) (xs : Nat → Int32) {l : Launch} (hl : l.stackTraces = false) : gx_all (gx_Sn l (gc_z (gc_G L xs)) (gm_cl, gm_tyl, gc_G L xs, Cond.code gc_y32 gc_c32 3 (some (.object "GrammarMachine$Pattern")) :: gm_WS, gc_c32, gc_y32, 3, (some (.object "GrammarMachine$Pattern")))) gc_bl32 :=
  ⟨(gq_aload_n ge_32_0).sn,
   (gq_bipush ge_32_1 (by decide)).sn,
   gs_callV (zs := gc_z (gc_G L xs)) (Cn := gm_R1) (T := gm_T1) (N := 3) rfl (gc_Gok L xs) (gm_good gc_k22) rfl rfl (gm_f _ gc_w2) (gm_f _ gc_w288) (gm_f _ gc_w290) (gm_f _ gc_s2) (by decide +kernel) (by decide) ge_32_3,
   (gq_aload_n ge_32_6).sn,
   gs_callV (zs := gc_z (gc_G L xs)) (Cn := gm_R1) (T := gm_T1) (N := 3) rfl (gc_Gok L xs) (gm_good gc_k33) rfl rfl (gm_f _ gc_w2) (gm_f _ gc_w337) (gm_f _ gc_w339) (gm_f _ gc_s11) (by decide +kernel) (by decide) ge_32_7,
   (gq_istore_n ge_32_10).sn,
   (gq_aload_n ge_32_11).sn,
   (gq_bipush ge_32_12 (by decide)).sn,
   gs_callV (zs := gc_z (gc_G L xs)) (Cn := gm_R1) (T := gm_T1) (N := 3) rfl (gc_Gok L xs) (gm_good gc_k22) rfl rfl (gm_f _ gc_w2) (gm_f _ gc_w288) (gm_f _ gc_w290) (gm_f _ gc_s2) (by decide +kernel) (by decide) ge_32_14,
   (gq_aload_n ge_32_17).sn,
   gs_callV (zs := gc_z (gc_G L xs)) (Cn := gm_R1) (T := gm_T1) (N := 3) rfl (gc_Gok L xs) (gm_good gc_k33) rfl rfl (gm_f _ gc_w2) (gm_f _ gc_w337) (gm_f _ gc_w339) (gm_f _ gc_s11) (by decide +kernel) (by decide) ge_32_18,
   (gq_istore_n ge_32_21).sn,
   (gq_aload_n ge_32_22).sn,
   (gq_bipush ge_32_23 (by decide)).sn,
   gs_callV (zs := gc_z (gc_G L xs)) (Cn := gm_R1) (T := gm_T1) (N := 3) rfl (gc_Gok L xs) (gm_good gc_k22) rfl rfl (gm_f _ gc_w2) (gm_f _ gc_w288) (gm_f _ gc_w290) (gm_f _ gc_s2) (by decide +kernel) (by decide) ge_32_25,
   (gs_new (Cn := gm_R5) (T := gm_T5) rfl gc_in5 gm_t5 gm_ty5 (by decide +kernel) (gc_dflt (by decide)) (gm_f _ gc_w344) (gm_f _ gc_w345) (gm_f _ gc_w13) ge_32_28).sn,
   (gs_dup ge_32_31).sn,
   (gq_iload_n ge_32_32).sn,
   (gq_iload_n ge_32_33).sn,
   gs_callI (zs := gc_z (gc_G L xs)) rfl (gc_Gok L xs) (gm_good gc_k35) rfl (gm_f _ gc_w13) (gm_f _ gc_w346) (gm_f _ gc_w347) rfl (by decide +kernel) (by decide) ge_32_34,
   (gs_aret (Or.inl ⟨_, rfl⟩) ge_32_37).sn, trivial⟩
set_option maxRecDepth 100000 in
set_option maxHeartbeats 4000000 in
/-- GrammarMachine$Reader.readPlain -/
theorem gc_o33 (L : Nat) (xs : Nat → Int32) {l : Launch} (hl : l.stackTraces = false) : gx_all (gx_Sn l (gc_z (gc_G L xs)) (gm_cl, gm_tyl, gc_G L xs, Cond.code gc_y33 gc_c33 2 (some .char) :: gm_WS, gc_c33, gc_y33, 2, (some .char))) gc_bl33 :=
  ⟨(gq_aload_n ge_33_0).sn,
   gs_callV (zs := gc_z (gc_G L xs)) (Cn := gm_R1) (T := gm_T1) (N := 3) rfl (gc_Gok L xs) (gm_good gc_k20) rfl rfl (gm_f _ gc_w2) (gm_f _ gc_w279) (gm_f _ gc_w281) (gm_f _ gc_s1) (by decide +kernel) (by decide) ge_33_1,
   (gq_istore_n ge_33_4).sn,
   (gq_iload_n ge_33_5).sn,
   gs_callS (zs := gc_z (gc_G L xs)) rfl (gc_Gok L xs) (gm_good gc_k34) rfl (gm_f _ gc_w2) (gm_f _ gc_w341) (gm_f _ gc_w342) (by decide +kernel) (by decide) ge_33_6,
   (gq_if_ne ge_33_9 (by decide)).sn,
   gs_thr (names := ["java/lang/RuntimeException", "java/lang/Exception"]) hl (by decide +kernel) (by decide +kernel) (gm_f _ gc_w286) (gm_f _ gc_w9) (gc_at gc_r_IllegalArgumentException gc_q_IllegalArgumentException gc_w287) (by decide +kernel) gc_gu (by decide) ge_33_12 ge_33_15 ge_33_16 ge_33_19,
   (gs_dup ge_33_15).sn,
   (gq_aload_n ge_33_20).sn,
   (gs_dup ge_33_21).sn,
   (gs_get (Cn := gm_R1) (T := gm_T1) (N := 3) rfl gc_in1 (by decide) (gm_f _ gc_w46) ge_33_22).sn,
   (gq_iconst ge_33_25 (by decide)).sn,
   (gq_iadd ge_33_26).sn,
   (gs_puti (Cn := gm_R1) (T := gm_T1) (N := 3) rfl gc_in1 gm_t1 gm_ty1 gm_nm1 (by decide) (by decide +kernel) (gm_f _ gc_w46) rfl ge_33_27).sn,
   (gq_iload_n ge_33_30).sn,
   (gs_iret ge_33_31).sn, trivial⟩
set_option maxRecDepth 100000 in
set_option maxHeartbeats 4000000 in
/-- GrammarMachine$Reader.isPlain -/
theorem gc_o34 (L : Nat) (xs : Nat → Int32) {l : Launch} (hl : l.stackTraces = false) : gx_all (gx_Sn l (gc_z (gc_G L xs)) (gm_cl, gm_tyl, gc_G L xs, Cond.code gc_y34 gc_c34 1 (some .boolean) :: gm_WS, gc_c34, gc_y34, 1, (some .boolean))) gc_bl34 :=
  ⟨(gq_iload_n ge_34_0).sn,
   (gq_bipush ge_34_1 (by decide)).sn,
   (gq_icmp_lt ge_34_3 (by decide)).sn,
   (gq_iload_n ge_34_6).sn,
   (gq_bipush ge_34_7 (by decide)).sn,
   (gq_icmp_le ge_34_9 (by decide)).sn,
   (gq_iload_n ge_34_12).sn,
   (gq_bipush ge_34_13 (by decide)).sn,
   (gq_icmp_lt ge_34_15 (by decide)).sn,
   (gq_iload_n ge_34_18).sn,
   (gq_bipush ge_34_19 (by decide)).sn,
   (gq_icmp_gt ge_34_21 (by decide)).sn,
   (gq_iconst ge_34_24 (by decide)).sn,
   (gq_goto ge_34_25 (by decide)).sn,
   (gq_iconst ge_34_28 (by decide)).sn,
   (gs_iret ge_34_29).sn, trivial⟩
set_option maxRecDepth 100000 in
set_option maxHeartbeats 4000000 in
/-- GrammarMachine$Single.<init> -/
theorem gc_o35 (L : Nat) (xs : Nat → Int32) {l : Launch} (hl : l.stackTraces = false) : gx_all (gx_Sn l (gc_z (gc_G L xs)) (gm_cl, gm_tyl, gc_G L xs, Cond.code gc_y35 gc_c35 3 none :: gm_WS, gc_c35, gc_y35, 3, none)) gc_bl35 :=
  ⟨(gq_aload_n ge_35_0).sn,
   gs_callIN (zs := gc_z (gc_G L xs)) rfl (gc_Gok L xs) (gm_good gc_k31) rfl (gm_f _ gc_w11) gc_n349 (gm_f _ gc_w326) rfl (by decide +kernel) (by decide) ge_35_1,
   (gq_aload_n ge_35_4).sn,
   (gq_iload_n ge_35_5).sn,
   (gs_putF (Cn := gm_R5) (T := gm_T5) (N := 2) rfl gc_in5 gm_t5 gm_ty5 gm_nm5 (by decide) (by decide +kernel) (gm_f _ gc_w350) rfl rfl rfl ge_35_6).sn,
   (gq_aload_n ge_35_9).sn,
   (gq_iload_n ge_35_10).sn,
   (gs_putF (Cn := gm_R5) (T := gm_T5) (N := 2) rfl gc_in5 gm_t5 gm_ty5 gm_nm5 (by decide) (by decide +kernel) (gm_f _ gc_w351) rfl rfl rfl ge_35_11).sn,
   (gs_ret ge_35_14).sn, trivial⟩
set_option maxRecDepth 100000 in
set_option maxHeartbeats 4000000 in
/-- GrammarMachine$Name.<init> -/
theorem gc_o36 (L : Nat) (xs : Nat → Int32) {l : Launch} (hl : l.stackTraces = false) : gx_all (gx_Sn l (gc_z (gc_G L xs)) (gm_cl, gm_tyl, gc_G L xs, Cond.code gc_y36 gc_c36 2 none :: gm_WS, gc_c36, gc_y36, 2, none)) gc_bl36 :=
  ⟨(gq_aload_n ge_36_0).sn,
   gs_callIN (zs := gc_z (gc_G L xs)) rfl (gc_Gok L xs) (gm_good gc_k31) rfl (gm_f _ gc_w11) gc_n362 (gm_f _ gc_w326) rfl (by decide +kernel) (by decide) ge_36_1,
   (gq_aload_n ge_36_4).sn,
   (gq_iload_n ge_36_5).sn,
   (gs_putF (Cn := gm_R6) (T := gm_T6) (N := 1) rfl gc_in6 gm_t6 gm_ty6 gm_nm6 (by decide) (by decide +kernel) (gm_f _ gc_w363) rfl rfl rfl ge_36_6).sn,
   (gs_ret ge_36_9).sn, trivial⟩
set_option maxRecDepth 100000 in
set_option maxHeartbeats 4000000 in
/-- GrammarMachine$Repeat.<init> -/
theorem gc_o37 (L : Nat) (xs : Nat → Int32) {l : Launch} (hl : l.stackTraces = false) : gx_all (gx_Sn l (gc_z (gc_G L xs)) (gm_cl, gm_tyl, gc_G L xs, Cond.code gc_y37 gc_c37 4 none :: gm_WS, gc_c37, gc_y37, 4, none)) gc_bl37 :=
  ⟨(gq_aload_n ge_37_0).sn,
   gs_callIN (zs := gc_z (gc_G L xs)) rfl (gc_Gok L xs) (gm_good gc_k31) rfl (gm_f _ gc_w11) gc_n372 (gm_f _ gc_w326) rfl (by decide +kernel) (by decide) ge_37_1,
   (gq_aload_n ge_37_4).sn,
   (gq_aload_n ge_37_5).sn,
   (gs_putF (Cn := gm_R8) (T := gm_T8) (N := 3) rfl gc_in8 gm_t8 gm_ty8 gm_nm8 (by decide) (by decide +kernel) (gm_f _ gc_w373) rfl rfl rfl ge_37_6).sn,
   (gq_aload_n ge_37_9).sn,
   (gq_iload_n ge_37_10).sn,
   (gs_putF (Cn := gm_R8) (T := gm_T8) (N := 3) rfl gc_in8 gm_t8 gm_ty8 gm_nm8 (by decide) (by decide +kernel) (gm_f _ gc_w374) rfl rfl rfl ge_37_11).sn,
   (gq_aload_n ge_37_14).sn,
   (gq_iload_n ge_37_15).sn,
   (gs_putF (Cn := gm_R8) (T := gm_T8) (N := 3) rfl gc_in8 gm_t8 gm_ty8 gm_nm8 (by decide) (by decide +kernel) (gm_f _ gc_w375) rfl rfl rfl ge_37_16).sn,
   (gs_ret ge_37_19).sn, trivial⟩
set_option maxRecDepth 100000 in
set_option maxHeartbeats 4000000 in
/-- GrammarMachine$Look.<init> -/
theorem gc_o38 (L : Nat) (xs : Nat → Int32) {l : Launch} (hl : l.stackTraces = false) : gx_all (gx_Sn l (gc_z (gc_G L xs)) (gm_cl, gm_tyl, gc_G L xs, Cond.code gc_y38 gc_c38 3 none :: gm_WS, gc_c38, gc_y38, 3, none)) gc_bl38 :=
  ⟨(gq_aload_n ge_38_0).sn,
   gs_callIN (zs := gc_z (gc_G L xs)) rfl (gc_Gok L xs) (gm_good gc_k31) rfl (gm_f _ gc_w11) gc_n388 (gm_f _ gc_w326) rfl (by decide +kernel) (by decide) ge_38_1,
   (gq_aload_n ge_38_4).sn,
   (gq_aload_n ge_38_5).sn,
   (gs_putF (Cn := gm_R9) (T := gm_T9) (N := 2) rfl gc_in9 gm_t9 gm_ty9 gm_nm9 (by decide) (by decide +kernel) (gm_f _ gc_w389) rfl rfl rfl ge_38_6).sn,
   (gq_aload_n ge_38_9).sn,
   (gq_iload_n ge_38_10).sn,
   (gs_putF (Cn := gm_R9) (T := gm_T9) (N := 2) rfl gc_in9 gm_t9 gm_ty9 gm_nm9 (by decide) (by decide +kernel) (gm_f _ gc_w390) rfl rfl rfl ge_38_11).sn,
   (gs_ret ge_38_14).sn, trivial⟩
set_option maxRecDepth 100000 in
set_option maxHeartbeats 4000000 in
/-- GrammarMachine$Reader.endsSequence -/
theorem gc_o39 (L : Nat) (xs : Nat → Int32) {l : Launch} (hl : l.stackTraces = false) : gx_all (gx_Sn l (gc_z (gc_G L xs)) (gm_cl, gm_tyl, gc_G L xs, Cond.code gc_y39 gc_c39 1 (some .boolean) :: gm_WS, gc_c39, gc_y39, 1, (some .boolean))) gc_bl39 :=
  ⟨(gq_iload_n ge_39_0).sn,
   (gq_if_eq ge_39_1 (by decide)).sn,
   (gq_iload_n ge_39_4).sn,
   (gq_bipush ge_39_5 (by decide)).sn,
   (gq_icmp_eq ge_39_7 (by decide)).sn,
   (gq_iload_n ge_39_10).sn,
   (gq_bipush ge_39_11 (by decide)).sn,
   (gq_icmp_eq ge_39_13 (by decide)).sn,
   (gq_iload_n ge_39_16).sn,
   (gq_bipush ge_39_17 (by decide)).sn,
   (gq_icmp_ne ge_39_19 (by decide)).sn,
   (gq_iconst ge_39_22 (by decide)).sn,
   (gq_goto ge_39_23 (by decide)).sn,
   (gq_iconst ge_39_26 (by decide)).sn,
   (gs_iret ge_39_27).sn, trivial⟩
set_option maxRecDepth 100000 in
set_option maxHeartbeats 4000000 in
/-- GrammarMachine$Sequence.<init> -/
theorem gc_o40 (L : Nat) (xs : Nat → Int32) {l : Launch} (hl : l.stackTraces = false) : gx_all (gx_Sn l (gc_z (gc_G L xs)) (gm_cl, gm_tyl, gc_G L xs, Cond.code gc_y40 gc_c40 1 none :: gm_WS, gc_c40, gc_y40, 1, none)) gc_bl40 :=
  ⟨(gq_aload_n ge_40_0).sn,
   gs_callIN (zs := gc_z (gc_G L xs)) rfl (gc_Gok L xs) (gm_good gc_k31) rfl (gm_f _ gc_w11) gc_n404 (gm_f _ gc_w326) rfl (by decide +kernel) (by decide) ge_40_1,
   (gq_aload_n ge_40_4).sn,
   (gs_new (Cn := gm_R12) (T := gm_T12) rfl gc_in12 gm_t12 gm_ty12 (by decide +kernel) (gc_dflt (by decide)) (gm_f _ gc_w405) (gm_f _ gc_w406) (gm_f _ gc_w20) ge_40_5).sn,
   (gs_dup ge_40_8).sn,
   gs_callI (zs := gc_z (gc_G L xs)) rfl (gc_Gok L xs) (gm_good gc_k104) rfl (gm_f _ gc_w20) (gm_f _ gc_w407) (gm_f _ gc_w408) rfl (by decide +kernel) (by decide) ge_40_9,
   (gs_putF (Cn := gm_R10) (T := gm_T10) (N := 1) rfl gc_in10 gm_t10 gm_ty10 gm_nm10 (by decide) (by decide +kernel) (gm_f _ gc_w431) rfl rfl rfl ge_40_12).sn,
   (gs_ret ge_40_15).sn, trivial⟩
set_option maxRecDepth 100000 in
set_option maxHeartbeats 4000000 in
/-- GrammarMachine$Sequence.add -/
theorem gc_o41 (L : Nat) (xs : Nat → Int32) {l : Launch} (hl : l.stackTraces = false) : gx_all (gx_Sn l (gc_z (gc_G L xs)) (gm_cl, gm_tyl, gc_G L xs, Cond.code gc_y41 gc_c41 2 none :: gm_WS, gc_c41, gc_y41, 2, none)) gc_bl41 :=
  ⟨(gq_aload_n ge_41_0).sn,
   (gs_get (Cn := gm_R10) (T := gm_T10) (N := 1) rfl gc_in10 (by decide) (gm_f _ gc_w431) ge_41_1).sn,
   (gq_aload_n ge_41_4).sn,
   gs_callF (x := ⟨"java/util/List", "add", "(Ljava/lang/Object;)Z"⟩) (zs := gc_z (gc_G L xs)) (gc_Gok L xs) (gc_selfF (k := 1) (LF := fun Cn my9 => [.methodLink "GrammarMachine$Sequence" 18 ⟨"java/util/List", "add", "(Ljava/lang/Object;)Z"⟩, .selects Cn ⟨"java/util/List", "add", "(Ljava/lang/Object;)Z"⟩ my9, .instanceMethod my9, .initialized my9.cls]) (P := fun Cn my9 => ∀ sp A U H, gc_G L xs sp A U H → va_Fw Cn ⟨"java/util/List", "add", "(Ljava/lang/Object;)Z"⟩ my9 U) (show gm_cl[12]? = some (gm_R12, gm_T12, 3) from rfl) rfl (gm_good gc_k105) rfl (gc_good4 gc_w440 gc_w444 gc_w446 gc_w20) gc_fw_add (by decide) (by decide)) (by decide +kernel) ge_41_5,
   (gs_pop ge_41_10).sn,
   (gs_ret ge_41_11).sn, trivial⟩
set_option maxRecDepth 100000 in
set_option maxHeartbeats 4000000 in
/-- GrammarMachine$Choice.<init> -/
theorem gc_o42 (L : Nat) (xs : Nat → Int32) {l : Launch} (hl : l.stackTraces = false) : gx_all (gx_Sn l (gc_z (gc_G L xs)) (gm_cl, gm_tyl, gc_G L xs, Cond.code gc_y42 gc_c42 1 none :: gm_WS, gc_c42, gc_y42, 1, none)) gc_bl42 :=
  ⟨(gq_aload_n ge_42_0).sn,
   gs_callIN (zs := gc_z (gc_G L xs)) rfl (gc_Gok L xs) (gm_good gc_k31) rfl (gm_f _ gc_w11) gc_n511 (gm_f _ gc_w326) rfl (by decide +kernel) (by decide) ge_42_1,
   (gq_aload_n ge_42_4).sn,
   (gs_new (Cn := gm_R12) (T := gm_T12) rfl gc_in12 gm_t12 gm_ty12 (by decide +kernel) (gc_dflt (by decide)) (gm_f _ gc_w512) (gm_f _ gc_w406) (gm_f _ gc_w20) ge_42_5).sn,
   (gs_dup ge_42_8).sn,
   gs_callI (zs := gc_z (gc_G L xs)) rfl (gc_Gok L xs) (gm_good gc_k104) rfl (gm_f _ gc_w20) (gm_f _ gc_w513) (gm_f _ gc_w408) rfl (by decide +kernel) (by decide) ge_42_9,
   (gs_putF (Cn := gm_R11) (T := gm_T11) (N := 1) rfl gc_in11 gm_t11 gm_ty11 gm_nm11 (by decide) (by decide +kernel) (gm_f _ gc_w514) rfl rfl rfl ge_42_12).sn,
   (gs_ret ge_42_15).sn, trivial⟩
set_option maxRecDepth 100000 in
set_option maxHeartbeats 4000000 in
/-- GrammarMachine$Choice.add -/
theorem gc_o43 (L : Nat) (xs : Nat → Int32) {l : Launch} (hl : l.stackTraces = false) : gx_all (gx_Sn l (gc_z (gc_G L xs)) (gm_cl, gm_tyl, gc_G L xs, Cond.code gc_y43 gc_c43 2 none :: gm_WS, gc_c43, gc_y43, 2, none)) gc_bl43 :=
  ⟨(gq_aload_n ge_43_0).sn,
   (gs_get (Cn := gm_R11) (T := gm_T11) (N := 1) rfl gc_in11 (by decide) (gm_f _ gc_w514) ge_43_1).sn,
   (gq_aload_n ge_43_4).sn,
   gs_callF (x := ⟨"java/util/List", "add", "(Ljava/lang/Object;)Z"⟩) (zs := gc_z (gc_G L xs)) (gc_Gok L xs) (gc_selfF (k := 1) (LF := fun Cn my9 => [.methodLink "GrammarMachine$Choice" 18 ⟨"java/util/List", "add", "(Ljava/lang/Object;)Z"⟩, .selects Cn ⟨"java/util/List", "add", "(Ljava/lang/Object;)Z"⟩ my9, .instanceMethod my9, .initialized my9.cls]) (P := fun Cn my9 => ∀ sp A U H, gc_G L xs sp A U H → va_Fw Cn ⟨"java/util/List", "add", "(Ljava/lang/Object;)Z"⟩ my9 U) (show gm_cl[12]? = some (gm_R12, gm_T12, 3) from rfl) rfl (gm_good gc_k105) rfl (gc_good4 gc_w523 gc_w444 gc_w446 gc_w20) gc_fw_add (by decide) (by decide)) (by decide +kernel) ge_43_5,
   (gs_pop ge_43_10).sn,
   (gs_ret ge_43_11).sn, trivial⟩
set_option maxRecDepth 100000 in
set_option maxHeartbeats 4000000 in
/-- GrammarMachine$Grammar.put -/
theorem gc_o44 (L : Nat) (xs : Nat → Int32) {l : Launch} (hl : l.stackTraces = false) : gx_all (gx_Sn l (gc_z (gc_G L xs)) (gm_cl, gm_tyl, gc_G L xs, Cond.code gc_y44 gc_c44 5 none :: gm_WS, gc_c44, gc_y44, 5, none)) gc_bl44 :=
  ⟨(gq_aload_n ge_44_0).sn,
   (gq_iload_n ge_44_1).sn,
   gs_callV (zs := gc_z (gc_G L xs)) (Cn := gm_R2) (T := gm_T2) (N := 4) rfl (gc_Gok L xs) (gm_good gc_k45) rfl rfl (gm_f _ gc_w3) (gm_f _ gc_w528) (gm_f _ gc_w529) (gm_f _ gc_w530) (by decide +kernel) (by decide) ge_44_2,
   (gs_pop ge_44_5).sn,
   (gq_aload_n ge_44_6).sn,
   (gs_get (Cn := gm_R2) (T := gm_T2) (N := 4) rfl gc_in2 (by decide) (gm_f _ gc_w63) ge_44_7).sn,
   (gq_iload_n ge_44_10).sn,
   (gq_aload_n ge_44_11).sn,
   (gs_rast (E := "GrammarMachine$Pattern") rfl gc_cast4 ge_44_12).sn,
   (gq_aload_n ge_44_13).sn,
   (gq_iconst ge_44_14 (by decide)).sn,
   (gq_aload_n ge_44_15).sn,
   (gs_get (Cn := gm_R2) (T := gm_T2) (N := 4) rfl gc_in2 (by decide) (gm_f _ gc_w65) ge_44_16).sn,
   (gq_iload_n ge_44_19).sn,
   (gq_bipush ge_44_20 (by decide)).sn,
   (gq_imul ge_44_22).sn,
   (gq_iload ge_44_23).sn,
   gs_copy rfl rfl (gm_f _ gc_w532) (gm_f _ gc_w278) (gm_f _ gc_w277) (gm_f _ gc_w10) ge_44_25,
   (gs_ret ge_44_28).sn, trivial⟩
set_option maxRecDepth 100000 in
set_option maxHeartbeats 4000000 in
/-- GrammarMachine$Grammar.remove -/
theorem gc_o45 (L : Nat) (xs : Nat → Int32) {l : Launch} (hl : l.stackTraces = false) : gx_all (gx_Sn l (gc_z (gc_G L xs)) (gm_cl, gm_tyl, gc_G L xs, Cond.code gc_y45 gc_c45 4 (some .boolean) :: gm_WS, gc_c45, gc_y45, 4, (some .boolean))) gc_bl45 :=
  ⟨(gq_aload_n ge_45_0).sn,
   (gs_get (Cn := gm_R2) (T := gm_T2) (N := 4) rfl gc_in2 (by decide) (gm_f _ gc_w63) ge_45_1).sn,
   (gq_iload_n ge_45_4).sn,
   (gs_rald (E := "GrammarMachine$Pattern") rfl ge_45_5).sn,
   (gs_ifnull ge_45_6 (by decide)).sn,
   (gq_iconst ge_45_9 (by decide)).sn,
   (gq_goto ge_45_10 (by decide)).sn,
   (gq_iconst ge_45_13 (by decide)).sn,
   (gq_istore_n ge_45_14).sn,
   (gq_aload_n ge_45_15).sn,
   (gs_get (Cn := gm_R2) (T := gm_T2) (N := 4) rfl gc_in2 (by decide) (gm_f _ gc_w63) ge_45_16).sn,
   (gq_iload_n ge_45_19).sn,
   (gq_null ge_45_20).sn,
   (gs_rast (E := "GrammarMachine$Pattern") rfl gc_cast4 ge_45_21).sn,
   (gq_iconst ge_45_22 (by decide)).sn,
   (gq_istore_n ge_45_23).sn,
   (gq_iload_n ge_45_24).sn,
   (gq_bipush ge_45_25 (by decide)).sn,
   (gq_icmp_ge ge_45_27 (by decide)).sn,
   (gq_aload_n ge_45_30).sn,
   (gs_get (Cn := gm_R2) (T := gm_T2) (N := 4) rfl gc_in2 (by decide) (gm_f _ gc_w65) ge_45_31).sn,
   (gq_iload_n ge_45_34).sn,
   (gq_bipush ge_45_35 (by decide)).sn,
   (gq_imul ge_45_37).sn,
   (gq_iload_n ge_45_38).sn,
   (gq_iadd ge_45_39).sn,
   (gq_iconst ge_45_40 (by decide)).sn,
   (gs_cast rfl ge_45_41).sn,
   (gs_inc ge_45_42).sn,
   (gq_goto ge_45_45 (by decide)).sn,
   (gq_iload_n ge_45_48).sn,
   (gs_iret ge_45_49).sn, trivial⟩
set_option maxRecDepth 100000 in
set_option maxHeartbeats 4000000 in
/-- GrammarMachine.drop -/
theorem gc_o46 (L : Nat) (xs : Nat → Int32) {l : Launch} (hl : l.stackTraces = false) : gx_all (gx_Sn l (gc_z (gc_G L xs)) (gm_cl, gm_tyl, gc_G L xs, Cond.code gc_y46 gc_c46 2 (some .boolean) :: gm_WS, gc_c46, gc_y46, 2, (some .boolean))) gc_bl46 :=
  ⟨(gq_iload_n ge_46_0).sn,
   gs_callS (zs := gc_z (gc_G L xs)) rfl (gc_Gok L xs) (gm_good gc_k47) rfl (gm_f _ gc_w1) (gm_f _ gc_w541) (gm_f _ gc_w542) (by decide +kernel) (by decide) ge_46_1,
   (gq_aload_n ge_46_4).sn,
   (gs_get (Cn := gm_R0) (T := gm_T0) (N := 8) rfl gc_in0 (by decide) (gm_f _ gc_w118) ge_46_5).sn,
   (gq_iload_n ge_46_8).sn,
   gs_callV (zs := gc_z (gc_G L xs)) (Cn := gm_R2) (T := gm_T2) (N := 4) rfl (gc_Gok L xs) (gm_good gc_k45) rfl rfl (gm_f _ gc_w3) (gm_f _ gc_w559) (gm_f _ gc_w529) (gm_f _ gc_w530) (by decide +kernel) (by decide) ge_46_9,
   (gs_iret ge_46_12).sn, trivial⟩
set_option maxRecDepth 100000 in
set_option maxHeartbeats 4000000 in
/-- GrammarMachine.refuseUnlessRule -/
theorem gc_o47 (L : Nat) (xs : Nat → Int32) {l : Launch} (hl : l.stackTraces = false) : gx_all (gx_Sn l (gc_z (gc_G L xs)) (gm_cl, gm_tyl, gc_G L xs, Cond.code gc_y47 gc_c47 1 none :: gm_WS, gc_c47, gc_y47, 1, none)) gc_bl47 :=
  ⟨(gq_iload_n ge_47_0).sn,
   gs_callS (zs := gc_z (gc_G L xs)) rfl (gc_Gok L xs) (gm_good gc_k5) rfl (gm_f _ gc_w1) (gm_f _ gc_w144) (gm_f _ gc_w145) (by decide +kernel) (by decide) ge_47_1,
   (gq_if_ne ge_47_4 (by decide)).sn,
   gs_thr (names := ["java/lang/RuntimeException", "java/lang/Exception"]) hl (by decide +kernel) (by decide +kernel) (gm_f _ gc_w544) (gm_f _ gc_w25) (gc_at gc_r_IndexOutOfBoundsException gc_q_IndexOutOfBoundsException gc_w553) (by decide +kernel) gc_gu (by decide) ge_47_7 ge_47_10 ge_47_11 ge_47_14,
   (gs_dup ge_47_10).sn,
   (gs_ret ge_47_15).sn, trivial⟩
set_option maxRecDepth 100000 in
set_option maxHeartbeats 4000000 in
/-- GrammarMachine.text -/
theorem gc_o48 (L : Nat) (xs : Nat → Int32) {l : Launch} (hl : l.stackTraces = false) : gx_all (gx_Sn l (gc_z (gc_G L xs)) (gm_cl, gm_tyl, gc_G L xs, Cond.code gc_y48 gc_c48 3 (some .boolean) :: gm_WS, gc_c48, gc_y48, 3, (some .boolean))) gc_bl48 :=
  ⟨(gq_aload_n ge_48_0).sn,
   (gs_get (Cn := gm_R0) (T := gm_T0) (N := 8) rfl gc_in0 (by decide) (gm_f _ gc_w116) ge_48_1).sn,
   (gq_aload_n ge_48_4).sn,
   (gs_get (Cn := gm_R0) (T := gm_T0) (N := 8) rfl gc_in0 (by decide) (gm_f _ gc_w121) ge_48_5).sn,
   (gq_iload_n ge_48_8).sn,
   gs_callS (zs := gc_z (gc_G L xs)) rfl (gc_Gok L xs) (gm_good gc_k15) rfl (gm_f _ gc_w1) (gm_f _ gc_w193) (gm_f _ gc_w194) (by decide +kernel) (by decide) ge_48_9,
   (gq_istore_n ge_48_12).sn,
   (gq_iload_n ge_48_13).sn,
   (gq_iconst ge_48_14 (by decide)).sn,
   (gq_icmp_ne ge_48_15 (by decide)).sn,
   (gq_iconst ge_48_18 (by decide)).sn,
   (gs_iret ge_48_19).sn,
   (gq_aload_n ge_48_20).sn,
   (gq_iload_n ge_48_21).sn,
   (gs_puti (Cn := gm_R0) (T := gm_T0) (N := 8) rfl gc_in0 gm_t0 gm_ty0 gm_nm0 (by decide) (by decide +kernel) (gm_f _ gc_w121) rfl ge_48_22).sn,
   (gq_iconst ge_48_25 (by decide)).sn,
   (gs_iret ge_48_26).sn, trivial⟩
set_option maxRecDepth 100000 in
set_option maxHeartbeats 4000000 in
/-- GrammarMachine.check -/
theorem gc_o49 (L : Nat) (xs : Nat → Int32) {l : Launch} (hl : l.stackTraces = false) : gx_all (gx_Sn l (gc_z (gc_G L xs)) (gm_cl, gm_tyl, gc_G L xs, Cond.code gc_y49 gc_c49 2 (some .int) :: gm_WS, gc_c49, gc_y49, 2, (some .int))) gc_bl49 :=
  ⟨(gq_iload_n ge_49_0).sn,
   gs_callS (zs := gc_z (gc_G L xs)) rfl (gc_Gok L xs) (gm_good gc_k47) rfl (gm_f _ gc_w1) (gm_f _ gc_w541) (gm_f _ gc_w542) (by decide +kernel) (by decide) ge_49_1,
   (gq_aload_n ge_49_4).sn,
   (gs_get (Cn := gm_R0) (T := gm_T0) (N := 8) rfl gc_in0 (by decide) (gm_f _ gc_w118) ge_49_5).sn,
   (gq_iload_n ge_49_8).sn,
   gs_callV (zs := gc_z (gc_G L xs)) (Cn := gm_R2) (T := gm_T2) (N := 4) rfl (gc_Gok L xs) (gm_good gc_k50) rfl rfl (gm_f _ gc_w3) (gm_f _ gc_w574) (gm_f _ gc_w575) (gm_f _ gc_w576) (by decide +kernel) (by decide) ge_49_9,
   (gs_ireti ge_49_12).sn, trivial⟩
set_option maxRecDepth 100000 in
set_option maxHeartbeats 4000000 in
/-- GrammarMachine$Grammar.fault -/
theorem gc_o50 (L : Nat) (xs : Nat → Int32) {l : Launch} (hl : l.stackTraces = false) : gx_all (gx_Sn l (gc_z (gc_G L xs)) (gm_cl, gm_tyl, gc_G L xs, Cond.code gc_y50 gc_c50 4 (some .int) :: gm_WS, gc_c50, gc_y50, 4, (some .int))) gc_bl50 :=
  ⟨(gq_aload_n ge_50_0).sn,
   (gq_iload_n ge_50_1).sn,
   gs_callV (zs := gc_z (gc_G L xs)) (Cn := gm_R2) (T := gm_T2) (N := 4) rfl (gc_Gok L xs) (gm_good gc_k51) rfl rfl (gm_f _ gc_w3) (gm_f _ gc_w578) (gm_f _ gc_w580) (gm_f _ gc_s15) (by decide +kernel) (by decide) ge_50_2,
   (gq_istore_n ge_50_5).sn,
   (gq_aload_n ge_50_6).sn,
   (gq_iload_n ge_50_7).sn,
   gs_callV (zs := gc_z (gc_G L xs)) (Cn := gm_R2) (T := gm_T2) (N := 4) rfl (gc_Gok L xs) (gm_good gc_k54) rfl rfl (gm_f _ gc_w3) (gm_f _ gc_w589) (gm_f _ gc_w591) (gm_f _ gc_s17) (by decide +kernel) (by decide) ge_50_8,
   (gq_if_ne ge_50_11 (by decide)).sn,
   (gq_iconst ge_50_14 (by decide)).sn,
   (gs_ireti ge_50_15).sn,
   (gq_aload_n ge_50_16).sn,
   gs_callV (zs := gc_z (gc_G L xs)) (Cn := gm_R2) (T := gm_T2) (N := 4) rfl (gc_Gok L xs) (gm_good gc_k55) rfl rfl (gm_f _ gc_w3) (gm_f _ gc_w593) (gm_f _ gc_w595) (gm_f _ gc_s18) (by decide +kernel) (by decide) ge_50_17,
   (gq_istore_n ge_50_20).sn,
   (gq_aload_n ge_50_21).sn,
   (gq_iload_n ge_50_22).sn,
   (gq_iload_n ge_50_23).sn,
   gs_callV (zs := gc_z (gc_G L xs)) (Cn := gm_R2) (T := gm_T2) (N := 4) rfl (gc_Gok L xs) (gm_good gc_k63) rfl rfl (gm_f _ gc_w3) (gm_f _ gc_w660) (gm_f _ gc_w662) (gm_f _ gc_s19) (by decide +kernel) (by decide) ge_50_24,
   (gq_if_ne ge_50_27 (by decide)).sn,
   (gq_iconst ge_50_30 (by decide)).sn,
   (gs_ireti ge_50_31).sn,
   (gq_aload_n ge_50_32).sn,
   (gq_iload_n ge_50_33).sn,
   (gq_iload_n ge_50_34).sn,
   gs_callV (zs := gc_z (gc_G L xs)) (Cn := gm_R2) (T := gm_T2) (N := 4) rfl (gc_Gok L xs) (gm_good gc_k71) rfl rfl (gm_f _ gc_w3) (gm_f _ gc_w693) (gm_f _ gc_w695) (gm_f _ gc_s20) (by decide +kernel) (by decide) ge_50_35,
   (gq_if_eq ge_50_38 (by decide)).sn,
   (gq_iconst ge_50_41 (by decide)).sn,
   (gq_goto ge_50_42 (by decide)).sn,
   (gq_iconst ge_50_45 (by decide)).sn,
   (gs_ireti ge_50_46).sn, trivial⟩
set_option maxRecDepth 100000 in
set_option maxHeartbeats 4000000 in
/-- GrammarMachine$Grammar.neededBy -/
theorem gc_o51 (L : Nat) (xs : Nat → Int32) {l : Launch} (hl : l.stackTraces = false) : gx_all (gx_Sn l (gc_z (gc_G L xs)) (gm_cl, gm_tyl, gc_G L xs, Cond.code gc_y51 gc_c51 5 (some .int) :: gm_WS, gc_c51, gc_y51, 5, (some .int))) gc_bl51 :=
  ⟨(gq_iconst ge_51_0 (by decide)).sn,
   (gq_iload_n ge_51_1).sn,
   (gq_ishl ge_51_2).sn,
   (gq_istore_n ge_51_3).sn,
   (gq_iconst ge_51_4 (by decide)).sn,
   (gq_istore_n ge_51_5).sn,
   (gq_iload_n ge_51_6).sn,
   (gq_iconst ge_51_7 (by decide)).sn,
   (gq_icmp_ge ge_51_8 (by decide)).sn,
   (gq_iconst ge_51_11 (by decide)).sn,
   (gq_istore ge_51_12).sn,
   (gq_iload ge_51_14).sn,
   (gq_iconst ge_51_16 (by decide)).sn,
   (gq_icmp_ge ge_51_17 (by decide)).sn,
   (gq_iload_n ge_51_20).sn,
   (gq_iload ge_51_21).sn,
   gs_callS (zs := gc_z (gc_G L xs)) rfl (gc_Gok L xs) (gm_good gc_k52) rfl (gm_f _ gc_w3) (gm_f _ gc_w582) (gm_f _ gc_w583) (by decide +kernel) (by decide) ge_51_23,
   (gq_if_eq ge_51_26 (by decide)).sn,
   (gq_iload_n ge_51_29).sn,
   (gq_aload_n ge_51_30).sn,
   (gq_iload ge_51_31).sn,
   gs_callV (zs := gc_z (gc_G L xs)) (Cn := gm_R2) (T := gm_T2) (N := 4) rfl (gc_Gok L xs) (gm_good gc_k53) rfl rfl (gm_f _ gc_w3) (gm_f _ gc_w585) (gm_f _ gc_w587) (gm_f _ gc_s16) (by decide +kernel) (by decide) ge_51_33,
   (gq_ior ge_51_36).sn,
   (gq_istore_n ge_51_37).sn,
   (gs_inc ge_51_38).sn,
   (gq_goto ge_51_41 (by decide)).sn,
   (gs_inc ge_51_44).sn,
   (gq_goto ge_51_47 (by decide)).sn,
   (gq_iload_n ge_51_50).sn,
   (gs_ireti ge_51_51).sn, trivial⟩
set_option maxRecDepth 100000 in
set_option maxHeartbeats 4000000 in
/-- GrammarMachine$Grammar.has -/
theorem gc_o52 (L : Nat) (xs : Nat → Int32) {l : Launch} (hl : l.stackTraces = false) : gx_all (gx_Sn l (gc_z (gc_G L xs)) (gm_cl, gm_tyl, gc_G L xs, Cond.code gc_y52 gc_c52 2 (some .boolean) :: gm_WS, gc_c52, gc_y52, 2, (some .boolean))) gc_bl52 :=
  ⟨(gq_iload_n ge_52_0).sn,
   (gq_iload_n ge_52_1).sn,
   (gq_ishr ge_52_2).sn,
   (gq_iconst ge_52_3 (by decide)).sn,
   (gq_iand ge_52_4).sn,
   (gq_if_eq ge_52_5 (by decide)).sn,
   (gq_iconst ge_52_8 (by decide)).sn,
   (gq_goto ge_52_9 (by decide)).sn,
   (gq_iconst ge_52_12 (by decide)).sn,
   (gs_iret ge_52_13).sn, trivial⟩
set_option maxRecDepth 100000 in
set_option maxHeartbeats 4000000 in
/-- GrammarMachine$Grammar.namesIn -/
theorem gc_o53 (L : Nat) (xs : Nat → Int32) {l : Launch} (hl : l.stackTraces = false) : gx_all (gx_Sn l (gc_z (gc_G L xs)) (gm_cl, gm_tyl, gc_G L xs, Cond.code gc_y53 gc_c53 5 (some .int) :: gm_WS, gc_c53, gc_y53, 5, (some .int))) gc_bl53 :=
  ⟨(gq_iconst ge_53_0 (by decide)).sn,
   (gq_istore_n ge_53_1).sn,
   (gq_iconst ge_53_2 (by decide)).sn,
   (gq_istore_n ge_53_3).sn,
   (gq_iload_n ge_53_4).sn,
   (gq_bipush ge_53_5 (by decide)).sn,
   (gq_icmp_ge ge_53_7 (by decide)).sn,
   (gq_aload_n ge_53_10).sn,
   (gs_get (Cn := gm_R2) (T := gm_T2) (N := 4) rfl gc_in2 (by decide) (gm_f _ gc_w65) ge_53_11).sn,
   (gq_iload_n ge_53_14).sn,
   (gq_bipush ge_53_15 (by decide)).sn,
   (gq_imul ge_53_17).sn,
   (gq_iload_n ge_53_18).sn,
   (gq_iadd ge_53_19).sn,
   (gs_cald rfl ge_53_20).sn,
   (gq_istore ge_53_21).sn,
   (gq_iload ge_53_23).sn,
   (gq_bipush ge_53_25 (by decide)).sn,
   (gq_icmp_lt ge_53_27 (by decide)).sn,
   (gq_iload ge_53_30).sn,
   (gq_bipush ge_53_32 (by decide)).sn,
   (gq_icmp_ge ge_53_34 (by decide)).sn,
   (gq_iload_n ge_53_37).sn,
   (gq_iconst ge_53_38 (by decide)).sn,
   (gq_iload ge_53_39).sn,
   (gq_bipush ge_53_41 (by decide)).sn,
   (gq_isub ge_53_43).sn,
   (gq_ishl ge_53_44).sn,
   (gq_ior ge_53_45).sn,
   (gq_istore_n ge_53_46).sn,
   (gs_inc ge_53_47).sn,
   (gq_goto ge_53_50 (by decide)).sn,
   (gq_iload_n ge_53_53).sn,
   (gs_ireti ge_53_54).sn, trivial⟩
set_option maxRecDepth 100000 in
set_option maxHeartbeats 4000000 in
/-- GrammarMachine$Grammar.allDefined -/
theorem gc_o54 (L : Nat) (xs : Nat → Int32) {l : Launch} (hl : l.stackTraces = false) : gx_all (gx_Sn l (gc_z (gc_G L xs)) (gm_cl, gm_tyl, gc_G L xs, Cond.code gc_y54 gc_c54 3 (some .boolean) :: gm_WS, gc_c54, gc_y54, 3, (some .boolean))) gc_bl54 :=
  ⟨(gq_iconst ge_54_0 (by decide)).sn,
   (gq_istore_n ge_54_1).sn,
   (gq_iload_n ge_54_2).sn,
   (gq_iconst ge_54_3 (by decide)).sn,
   (gq_icmp_ge ge_54_4 (by decide)).sn,
   (gq_iload_n ge_54_7).sn,
   (gq_iload_n ge_54_8).sn,
   gs_callS (zs := gc_z (gc_G L xs)) rfl (gc_Gok L xs) (gm_good gc_k52) rfl (gm_f _ gc_w3) (gm_f _ gc_w582) (gm_f _ gc_w583) (by decide +kernel) (by decide) ge_54_9,
   (gq_if_eq ge_54_12 (by decide)).sn,
   (gq_aload_n ge_54_15).sn,
   (gs_get (Cn := gm_R2) (T := gm_T2) (N := 4) rfl gc_in2 (by decide) (gm_f _ gc_w63) ge_54_16).sn,
   (gq_iload_n ge_54_19).sn,
   (gs_rald (E := "GrammarMachine$Pattern") rfl ge_54_20).sn,
   (gs_ifnonnull ge_54_21 (by decide)).sn,
   (gq_iconst ge_54_24 (by decide)).sn,
   (gs_iret ge_54_25).sn,
   (gs_inc ge_54_26).sn,
   (gq_goto ge_54_29 (by decide)).sn,
   (gq_iconst ge_54_32 (by decide)).sn,
   (gs_iret ge_54_33).sn, trivial⟩
set_option maxRecDepth 100000 in
set_option maxHeartbeats 4000000 in
/-- GrammarMachine$Grammar.emptyableRules -/
theorem gc_o55 (L : Nat) (xs : Nat → Int32) {l : Launch} (hl : l.stackTraces = false) : gx_all (gx_Sn l (gc_z (gc_G L xs)) (gm_cl, gm_tyl, gc_G L xs, Cond.code gc_y55 gc_c55 5 (some .int) :: gm_WS, gc_c55, gc_y55, 5, (some .int))) gc_bl55 :=
  ⟨(gq_iconst ge_55_0 (by decide)).sn,
   (gq_istore_n ge_55_1).sn,
   (gq_iconst ge_55_2 (by decide)).sn,
   (gq_istore_n ge_55_3).sn,
   (gq_iload_n ge_55_4).sn,
   (gq_iconst ge_55_5 (by decide)).sn,
   (gq_icmp_ge ge_55_6 (by decide)).sn,
   (gq_iconst ge_55_9 (by decide)).sn,
   (gq_istore_n ge_55_10).sn,
   (gq_iload_n ge_55_11).sn,
   (gq_iconst ge_55_12 (by decide)).sn,
   (gq_icmp_ge ge_55_13 (by decide)).sn,
   (gq_aload_n ge_55_16).sn,
   (gs_get (Cn := gm_R2) (T := gm_T2) (N := 4) rfl gc_in2 (by decide) (gm_f _ gc_w63) ge_55_17).sn,
   (gq_iload_n ge_55_20).sn,
   (gs_rald (E := "GrammarMachine$Pattern") rfl ge_55_21).sn,
   (gq_astore ge_55_22).sn,
   (gq_aload ge_55_24).sn,
   (gs_ifnull ge_55_26 (by decide)).sn,
   (gq_aload ge_55_29).sn,
   (gq_iload_n ge_55_31).sn,
   gs_callU (x := ⟨"GrammarMachine$Pattern", "emptyable", "(I)Z"⟩) (owner := "GrammarMachine$Pattern") (zs := gc_z (gc_G L xs)) (gc_Gok L xs) gc_n598 (gc_u_emptyable gc_w597) (by decide +kernel) ge_55_32,
   (gq_if_eq ge_55_35 (by decide)).sn,
   (gq_iload_n ge_55_38).sn,
   (gq_iconst ge_55_39 (by decide)).sn,
   (gq_iload_n ge_55_40).sn,
   (gq_ishl ge_55_41).sn,
   (gq_ior ge_55_42).sn,
   (gq_istore_n ge_55_43).sn,
   (gs_inc ge_55_44).sn,
   (gq_goto ge_55_47 (by decide)).sn,
   (gs_inc ge_55_50).sn,
   (gq_goto ge_55_53 (by decide)).sn,
   (gq_iload_n ge_55_56).sn,
   (gs_ireti ge_55_57).sn, trivial⟩
set_option maxRecDepth 100000 in
set_option maxHeartbeats 4000000 in
/-- GrammarMachine$Capture.emptyable -/
theorem gc_o56 (L : Nat) (xs : Nat → Int32) {l : Launch} (hl : l.stackTraces = false) : gx_all (gx_Sn l (gc_z (gc_G L xs)) (gm_cl, gm_tyl, gc_G L xs, Cond.code gc_y56 gc_c56 2 (some .boolean) :: gm_WS, gc_c56, gc_y56, 2, (some .boolean))) gc_bl56 :=
  ⟨(gq_aload_n ge_56_0).sn,
   (gs_get (Cn := gm_R7) (T := gm_T7) (N := 1) rfl gc_in7 (by decide) (gm_f _ gc_w329) ge_56_1).sn,
   (gs_ifnull ge_56_4 (by decide)).sn,
   (gq_aload_n ge_56_7).sn,
   (gs_get (Cn := gm_R7) (T := gm_T7) (N := 1) rfl gc_in7 (by decide) (gm_f _ gc_w329) ge_56_8).sn,
   (gq_iload_n ge_56_11).sn,
   gs_callU (x := ⟨"GrammarMachine$Pattern", "emptyable", "(I)Z"⟩) (owner := "GrammarMachine$Pattern") (zs := gc_z (gc_G L xs)) (gc_Gok L xs) gc_n598 (gc_u_emptyable gc_w603) (by decide +kernel) ge_56_12,
   (gq_if_eq ge_56_15 (by decide)).sn,
   (gq_iconst ge_56_18 (by decide)).sn,
   (gq_goto ge_56_19 (by decide)).sn,
   (gq_iconst ge_56_22 (by decide)).sn,
   (gs_iret ge_56_23).sn, trivial⟩
set_option maxRecDepth 100000 in
set_option maxHeartbeats 4000000 in
/-- GrammarMachine$Choice.emptyable -/
theorem gc_o57 (L : Nat) (xs : Nat → Int32) {l : Launch} (hl : l.stackTraces = false) : gx_all (gx_Sn l (gc_z (gc_G L xs)) (gm_cl, gm_tyl, gc_G L xs, Cond.code gc_y57 gc_c57 3 (some .boolean) :: gm_WS, gc_c57, gc_y57, 3, (some .boolean))) gc_bl57 :=
  ⟨(gq_iconst ge_57_0 (by decide)).sn,
   (gq_istore_n ge_57_1).sn,
   (gq_iload_n ge_57_2).sn,
   (gq_aload_n ge_57_3).sn,
   (gs_get (Cn := gm_R11) (T := gm_T11) (N := 1) rfl gc_in11 (by decide) (gm_f _ gc_w514) ge_57_4).sn,
   gs_callF (x := ⟨"java/util/List", "size", "()I"⟩) (zs := gc_z (gc_G L xs)) (gc_Gok L xs) (gc_selfF (k := 0) (LF := fun Cn my9 => [.methodLink "GrammarMachine$Choice" 30 ⟨"java/util/List", "size", "()I"⟩, .selects Cn ⟨"java/util/List", "size", "()I"⟩ my9, .instanceMethod my9, .initialized my9.cls]) (P := fun Cn my9 => ∀ sp A U H, gc_G L xs sp A U H → va_Fw Cn ⟨"java/util/List", "size", "()I"⟩ my9 U) (show gm_cl[12]? = some (gm_R12, gm_T12, 3) from rfl) rfl (gm_good gc_k109) rfl (gc_good4 gc_w607 gc_w610 gc_w612 gc_w20) gc_fw_size (by decide) (by decide)) (by decide +kernel) ge_57_7,
   (gq_icmp_ge ge_57_12 (by decide)).sn,
   (gq_aload_n ge_57_15).sn,
   (gs_get (Cn := gm_R11) (T := gm_T11) (N := 1) rfl gc_in11 (by decide) (gm_f _ gc_w514) ge_57_16).sn,
   (gq_iload_n ge_57_19).sn,
   gs_callF (x := ⟨"java/util/List", "get", "(I)Ljava/lang/Object;"⟩) (zs := gc_z (gc_G L xs)) (gc_Gok L xs) (gc_selfF (k := 1) (LF := fun Cn my9 => [.methodLink "GrammarMachine$Choice" 33 ⟨"java/util/List", "get", "(I)Ljava/lang/Object;"⟩, .selects Cn ⟨"java/util/List", "get", "(I)Ljava/lang/Object;"⟩ my9, .instanceMethod my9, .initialized my9.cls]) (P := fun Cn my9 => ∀ sp A U H, gc_G L xs sp A U H → va_Fw Cn ⟨"java/util/List", "get", "(I)Ljava/lang/Object;"⟩ my9 U) (show gm_cl[12]? = some (gm_R12, gm_T12, 3) from rfl) rfl (gm_good gc_k110) rfl (gc_good4 gc_w616 gc_w619 gc_w621 gc_w20) gc_fw_get (by decide) (by decide)) (by decide +kernel) ge_57_20,
   (gs_ccast (gm_f _ gc_w634) gc_cast4 ge_57_25).sn,
   (gq_iload_n ge_57_28).sn,
   gs_callU (x := ⟨"GrammarMachine$Pattern", "emptyable", "(I)Z"⟩) (owner := "GrammarMachine$Pattern") (zs := gc_z (gc_G L xs)) (gc_Gok L xs) gc_n598 (gc_u_emptyable gc_w635) (by decide +kernel) ge_57_29,
   (gq_if_eq ge_57_32 (by decide)).sn,
   (gq_iconst ge_57_35 (by decide)).sn,
   (gs_iret ge_57_36).sn,
   (gs_inc ge_57_37).sn,
   (gq_goto ge_57_40 (by decide)).sn,
   (gq_iconst ge_57_43 (by decide)).sn,
   (gs_iret ge_57_44).sn, trivial⟩
set_option maxRecDepth 100000 in
set_option maxHeartbeats 4000000 in
/-- GrammarMachine$Look.emptyable -/
theorem gc_o58 (L : Nat) (xs : Nat → Int32) {l : Launch} (hl : l.stackTraces = false) : gx_all (gx_Sn l (gc_z (gc_G L xs)) (gm_cl, gm_tyl, gc_G L xs, Cond.code gc_y58 gc_c58 2 (some .boolean) :: gm_WS, gc_c58, gc_y58, 2, (some .boolean))) gc_bl58 :=
  ⟨(gq_iconst ge_58_0 (by decide)).sn,
   (gs_iret ge_58_1).sn, trivial⟩
set_option maxRecDepth 100000 in
set_option maxHeartbeats 4000000 in
/-- GrammarMachine$Name.emptyable -/
theorem gc_o59 (L : Nat) (xs : Nat → Int32) {l : Launch} (hl : l.stackTraces = false) : gx_all (gx_Sn l (gc_z (gc_G L xs)) (gm_cl, gm_tyl, gc_G L xs, Cond.code gc_y59 gc_c59 2 (some .boolean) :: gm_WS, gc_c59, gc_y59, 2, (some .boolean))) gc_bl59 :=
  ⟨(gq_iload_n ge_59_0).sn,
   (gq_aload_n ge_59_1).sn,
   (gs_get (Cn := gm_R6) (T := gm_T6) (N := 1) rfl gc_in6 (by decide) (gm_f _ gc_w363) ge_59_2).sn,
   gs_callSN (zs := gc_z (gc_G L xs)) rfl (gc_Gok L xs) (gm_good gc_k52) rfl (gm_f _ gc_w3) gc_n640 (gm_f _ gc_w583) (by decide +kernel) (by decide) ge_59_5,
   (gs_iret ge_59_8).sn, trivial⟩
set_option maxRecDepth 100000 in
set_option maxHeartbeats 4000000 in
/-- GrammarMachine$Repeat.emptyable -/
theorem gc_o60 (L : Nat) (xs : Nat → Int32) {l : Launch} (hl : l.stackTraces = false) : gx_all (gx_Sn l (gc_z (gc_G L xs)) (gm_cl, gm_tyl, gc_G L xs, Cond.code gc_y60 gc_c60 2 (some .boolean) :: gm_WS, gc_c60, gc_y60, 2, (some .boolean))) gc_bl60 :=
  ⟨(gq_aload_n ge_60_0).sn,
   (gs_get (Cn := gm_R8) (T := gm_T8) (N := 3) rfl gc_in8 (by decide) (gm_f _ gc_w374) ge_60_1).sn,
   (gq_if_eq ge_60_4 (by decide)).sn,
   (gq_aload_n ge_60_7).sn,
   (gs_get (Cn := gm_R8) (T := gm_T8) (N := 3) rfl gc_in8 (by decide) (gm_f _ gc_w373) ge_60_8).sn,
   (gq_iload_n ge_60_11).sn,
   gs_callU (x := ⟨"GrammarMachine$Pattern", "emptyable", "(I)Z"⟩) (owner := "GrammarMachine$Pattern") (zs := gc_z (gc_G L xs)) (gc_Gok L xs) gc_n598 (gc_u_emptyable gc_w643) (by decide +kernel) ge_60_12,
   (gq_if_eq ge_60_15 (by decide)).sn,
   (gq_iconst ge_60_18 (by decide)).sn,
   (gq_goto ge_60_19 (by decide)).sn,
   (gq_iconst ge_60_22 (by decide)).sn,
   (gs_iret ge_60_23).sn, trivial⟩
set_option maxRecDepth 100000 in
set_option maxHeartbeats 4000000 in
/-- GrammarMachine$Sequence.emptyable -/
theorem gc_o61 (L : Nat) (xs : Nat → Int32) {l : Launch} (hl : l.stackTraces = false) : gx_all (gx_Sn l (gc_z (gc_G L xs)) (gm_cl, gm_tyl, gc_G L xs, Cond.code gc_y61 gc_c61 3 (some .boolean) :: gm_WS, gc_c61, gc_y61, 3, (some .boolean))) gc_bl61 :=
  ⟨(gq_iconst ge_61_0 (by decide)).sn,
   (gq_istore_n ge_61_1).sn,
   (gq_iload_n ge_61_2).sn,
   (gq_aload_n ge_61_3).sn,
   (gs_get (Cn := gm_R10) (T := gm_T10) (N := 1) rfl gc_in10 (by decide) (gm_f _ gc_w431) ge_61_4).sn,
   gs_callF (x := ⟨"java/util/List", "size", "()I"⟩) (zs := gc_z (gc_G L xs)) (gc_Gok L xs) (gc_selfF (k := 0) (LF := fun Cn my9 => [.methodLink "GrammarMachine$Sequence" 24 ⟨"java/util/List", "size", "()I"⟩, .selects Cn ⟨"java/util/List", "size", "()I"⟩ my9, .instanceMethod my9, .initialized my9.cls]) (P := fun Cn my9 => ∀ sp A U H, gc_G L xs sp A U H → va_Fw Cn ⟨"java/util/List", "size", "()I"⟩ my9 U) (show gm_cl[12]? = some (gm_R12, gm_T12, 3) from rfl) rfl (gm_good gc_k109) rfl (gc_good4 gc_w647 gc_w610 gc_w612 gc_w20) gc_fw_size (by decide) (by decide)) (by decide +kernel) ge_61_7,
   (gq_icmp_ge ge_61_12 (by decide)).sn,
   (gq_aload_n ge_61_15).sn,
   (gs_get (Cn := gm_R10) (T := gm_T10) (N := 1) rfl gc_in10 (by decide) (gm_f _ gc_w431) ge_61_16).sn,
   (gq_iload_n ge_61_19).sn,
   gs_callF (x := ⟨"java/util/List", "get", "(I)Ljava/lang/Object;"⟩) (zs := gc_z (gc_G L xs)) (gc_Gok L xs) (gc_selfF (k := 1) (LF := fun Cn my9 => [.methodLink "GrammarMachine$Sequence" 28 ⟨"java/util/List", "get", "(I)Ljava/lang/Object;"⟩, .selects Cn ⟨"java/util/List", "get", "(I)Ljava/lang/Object;"⟩ my9, .instanceMethod my9, .initialized my9.cls]) (P := fun Cn my9 => ∀ sp A U H, gc_G L xs sp A U H → va_Fw Cn ⟨"java/util/List", "get", "(I)Ljava/lang/Object;"⟩ my9 U) (show gm_cl[12]? = some (gm_R12, gm_T12, 3) from rfl) rfl (gm_good gc_k110) rfl (gc_good4 gc_w649 gc_w619 gc_w621 gc_w20) gc_fw_get (by decide) (by decide)) (by decide +kernel) ge_61_20,
   (gs_ccast (gm_f _ gc_w650) gc_cast4 ge_61_25).sn,
   (gq_iload_n ge_61_28).sn,
   gs_callU (x := ⟨"GrammarMachine$Pattern", "emptyable", "(I)Z"⟩) (owner := "GrammarMachine$Pattern") (zs := gc_z (gc_G L xs)) (gc_Gok L xs) gc_n598 (gc_u_emptyable gc_w651) (by decide +kernel) ge_61_29,
   (gq_if_ne ge_61_32 (by decide)).sn,
   (gq_iconst ge_61_35 (by decide)).sn,
   (gs_iret ge_61_36).sn,
   (gs_inc ge_61_37).sn,
   (gq_goto ge_61_40 (by decide)).sn,
   (gq_iconst ge_61_43 (by decide)).sn,
   (gs_iret ge_61_44).sn, trivial⟩
set_option maxRecDepth 100000 in
set_option maxHeartbeats 4000000 in
/-- GrammarMachine$Single.emptyable -/
theorem gc_o62 (L : Nat) (xs : Nat → Int32) {l : Launch} (hl : l.stackTraces = false) : gx_all (gx_Sn l (gc_z (gc_G L xs)) (gm_cl, gm_tyl, gc_G L xs, Cond.code gc_y62 gc_c62 2 (some .boolean) :: gm_WS, gc_c62, gc_y62, 2, (some .boolean))) gc_bl62 :=
  ⟨(gq_iconst ge_62_0 (by decide)).sn,
   (gs_iret ge_62_1).sn, trivial⟩
set_option maxRecDepth 100000 in
set_option maxHeartbeats 4000000 in
/-- GrammarMachine$Grammar.arrange -/
theorem gc_o63 (L : Nat) (xs : Nat → Int32) {l : Launch} (hl : l.stackTraces = false) : gx_all (gx_Sn l (gc_z (gc_G L xs)) (gm_cl, gm_tyl, gc_G L xs, Cond.code gc_y63 gc_c63 7 (some .boolean) :: gm_WS, gc_c63, gc_y63, 7, (some .boolean))) gc_bl63 :=
  ⟨(gq_iload_n ge_63_0).sn,
   (gq_istore_n ge_63_1).sn,
   (gq_aload_n ge_63_2).sn,
   (gq_iconst ge_63_3 (by decide)).sn,
   (gs_puti (Cn := gm_R2) (T := gm_T2) (N := 4) rfl gc_in2 gm_t2 gm_ty2 gm_nm2 (by decide) (by decide +kernel) (gm_f _ gc_w68) rfl ge_63_4).sn,
   (gq_iconst ge_63_7 (by decide)).sn,
   (gq_istore ge_63_8).sn,
   (gq_iload ge_63_10).sn,
   (gq_iconst ge_63_12 (by decide)).sn,
   (gq_icmp_ge ge_63_13 (by decide)).sn,
   (gq_iconst ge_63_16 (by decide)).sn,
   (gq_istore ge_63_17).sn,
   (gq_iload ge_63_19).sn,
   (gq_iconst ge_63_21 (by decide)).sn,
   (gq_icmp_ge ge_63_22 (by decide)).sn,
   (gq_aload_n ge_63_25).sn,
   (gs_get (Cn := gm_R2) (T := gm_T2) (N := 4) rfl gc_in2 (by decide) (gm_f _ gc_w63) ge_63_26).sn,
   (gq_iload ge_63_29).sn,
   (gs_rald (E := "GrammarMachine$Pattern") rfl ge_63_31).sn,
   (gq_astore ge_63_32).sn,
   (gq_iload_n ge_63_34).sn,
   (gq_iload ge_63_35).sn,
   gs_callS (zs := gc_z (gc_G L xs)) rfl (gc_Gok L xs) (gm_good gc_k52) rfl (gm_f _ gc_w3) (gm_f _ gc_w582) (gm_f _ gc_w583) (by decide +kernel) (by decide) ge_63_37,
   (gq_if_eq ge_63_40 (by decide)).sn,
   (gq_aload ge_63_43).sn,
   (gs_ifnull ge_63_45 (by decide)).sn,
   (gq_aload ge_63_48).sn,
   (gq_iload_n ge_63_50).sn,
   gs_callU (x := ⟨"GrammarMachine$Pattern", "starts", "(I)I"⟩) (owner := "GrammarMachine$Pattern") (zs := gc_z (gc_G L xs)) (gc_Gok L xs) gc_n665 (gc_u_starts gc_w664) (by decide +kernel) ge_63_51,
   (gq_iload_n ge_63_54).sn,
   (gq_iand ge_63_55).sn,
   (gq_if_ne ge_63_56 (by decide)).sn,
   (gq_aload_n ge_63_59).sn,
   (gs_get (Cn := gm_R2) (T := gm_T2) (N := 4) rfl gc_in2 (by decide) (gm_f _ gc_w66) ge_63_60).sn,
   (gq_aload_n ge_63_63).sn,
   (gs_get (Cn := gm_R2) (T := gm_T2) (N := 4) rfl gc_in2 (by decide) (gm_f _ gc_w68) ge_63_64).sn,
   (gq_iload ge_63_67).sn,
   (gs_iast rfl ge_63_69).sn,
   (gq_aload_n ge_63_70).sn,
   (gs_dup ge_63_71).sn,
   (gs_get (Cn := gm_R2) (T := gm_T2) (N := 4) rfl gc_in2 (by decide) (gm_f _ gc_w68) ge_63_72).sn,
   (gq_iconst ge_63_75 (by decide)).sn,
   (gq_iadd ge_63_76).sn,
   (gs_puti (Cn := gm_R2) (T := gm_T2) (N := 4) rfl gc_in2 gm_t2 gm_ty2 gm_nm2 (by decide) (by decide +kernel) (gm_f _ gc_w68) rfl ge_63_77).sn,
   (gq_iload_n ge_63_80).sn,
   (gq_iconst ge_63_81 (by decide)).sn,
   (gq_iload ge_63_82).sn,
   (gq_ishl ge_63_84).sn,
   (gq_iconst ge_63_85 (by decide)).sn,
   (gq_ixor ge_63_86).sn,
   (gq_iand ge_63_87).sn,
   (gq_istore_n ge_63_88).sn,
   (gs_inc ge_63_89).sn,
   (gq_goto ge_63_92 (by decide)).sn,
   (gs_inc ge_63_95).sn,
   (gq_goto ge_63_98 (by decide)).sn,
   (gq_iload_n ge_63_101).sn,
   (gq_if_ne ge_63_102 (by decide)).sn,
   (gq_iconst ge_63_105 (by decide)).sn,
   (gq_goto ge_63_106 (by decide)).sn,
   (gq_iconst ge_63_109 (by decide)).sn,
   (gs_iret ge_63_110).sn, trivial⟩
set_option maxRecDepth 100000 in
set_option maxHeartbeats 4000000 in
/-- GrammarMachine$Capture.starts -/
theorem gc_o64 (L : Nat) (xs : Nat → Int32) {l : Launch} (hl : l.stackTraces = false) : gx_all (gx_Sn l (gc_z (gc_G L xs)) (gm_cl, gm_tyl, gc_G L xs, Cond.code gc_y64 gc_c64 2 (some .int) :: gm_WS, gc_c64, gc_y64, 2, (some .int))) gc_bl64 :=
  ⟨(gq_aload_n ge_64_0).sn,
   (gs_get (Cn := gm_R7) (T := gm_T7) (N := 1) rfl gc_in7 (by decide) (gm_f _ gc_w329) ge_64_1).sn,
   (gs_ifnonnull ge_64_4 (by decide)).sn,
   (gq_iconst ge_64_7 (by decide)).sn,
   (gq_goto ge_64_8 (by decide)).sn,
   (gq_aload_n ge_64_11).sn,
   (gs_get (Cn := gm_R7) (T := gm_T7) (N := 1) rfl gc_in7 (by decide) (gm_f _ gc_w329) ge_64_12).sn,
   (gq_iload_n ge_64_15).sn,
   gs_callU (x := ⟨"GrammarMachine$Pattern", "starts", "(I)I"⟩) (owner := "GrammarMachine$Pattern") (zs := gc_z (gc_G L xs)) (gc_Gok L xs) gc_n665 (gc_u_starts gc_w670) (by decide +kernel) ge_64_16,
   (gs_ireti ge_64_19).sn, trivial⟩
set_option maxRecDepth 100000 in
set_option maxHeartbeats 4000000 in
/-- GrammarMachine$Choice.starts -/
theorem gc_o65 (L : Nat) (xs : Nat → Int32) {l : Launch} (hl : l.stackTraces = false) : gx_all (gx_Sn l (gc_z (gc_G L xs)) (gm_cl, gm_tyl, gc_G L xs, Cond.code gc_y65 gc_c65 4 (some .int) :: gm_WS, gc_c65, gc_y65, 4, (some .int))) gc_bl65 :=
  ⟨(gq_iconst ge_65_0 (by decide)).sn,
   (gq_istore_n ge_65_1).sn,
   (gq_iconst ge_65_2 (by decide)).sn,
   (gq_istore_n ge_65_3).sn,
   (gq_iload_n ge_65_4).sn,
   (gq_aload_n ge_65_5).sn,
   (gs_get (Cn := gm_R11) (T := gm_T11) (N := 1) rfl gc_in11 (by decide) (gm_f _ gc_w514) ge_65_6).sn,
   gs_callF (x := ⟨"java/util/List", "size", "()I"⟩) (zs := gc_z (gc_G L xs)) (gc_Gok L xs) (gc_selfF (k := 0) (LF := fun Cn my9 => [.methodLink "GrammarMachine$Choice" 30 ⟨"java/util/List", "size", "()I"⟩, .selects Cn ⟨"java/util/List", "size", "()I"⟩ my9, .instanceMethod my9, .initialized my9.cls]) (P := fun Cn my9 => ∀ sp A U H, gc_G L xs sp A U H → va_Fw Cn ⟨"java/util/List", "size", "()I"⟩ my9 U) (show gm_cl[12]? = some (gm_R12, gm_T12, 3) from rfl) rfl (gm_good gc_k109) rfl (gc_good4 gc_w607 gc_w610 gc_w612 gc_w20) gc_fw_size (by decide) (by decide)) (by decide +kernel) ge_65_9,
   (gq_icmp_ge ge_65_14 (by decide)).sn,
   (gq_iload_n ge_65_17).sn,
   (gq_aload_n ge_65_18).sn,
   (gs_get (Cn := gm_R11) (T := gm_T11) (N := 1) rfl gc_in11 (by decide) (gm_f _ gc_w514) ge_65_19).sn,
   (gq_iload_n ge_65_22).sn,
   gs_callF (x := ⟨"java/util/List", "get", "(I)Ljava/lang/Object;"⟩) (zs := gc_z (gc_G L xs)) (gc_Gok L xs) (gc_selfF (k := 1) (LF := fun Cn my9 => [.methodLink "GrammarMachine$Choice" 33 ⟨"java/util/List", "get", "(I)Ljava/lang/Object;"⟩, .selects Cn ⟨"java/util/List", "get", "(I)Ljava/lang/Object;"⟩ my9, .instanceMethod my9, .initialized my9.cls]) (P := fun Cn my9 => ∀ sp A U H, gc_G L xs sp A U H → va_Fw Cn ⟨"java/util/List", "get", "(I)Ljava/lang/Object;"⟩ my9 U) (show gm_cl[12]? = some (gm_R12, gm_T12, 3) from rfl) rfl (gm_good gc_k110) rfl (gc_good4 gc_w616 gc_w619 gc_w621 gc_w20) gc_fw_get (by decide) (by decide)) (by decide +kernel) ge_65_23,
   (gs_ccast (gm_f _ gc_w634) gc_cast4 ge_65_28).sn,
   (gq_iload_n ge_65_31).sn,
   gs_callU (x := ⟨"GrammarMachine$Pattern", "starts", "(I)I"⟩) (owner := "GrammarMachine$Pattern") (zs := gc_z (gc_G L xs)) (gc_Gok L xs) gc_n665 (gc_u_starts gc_w673) (by decide +kernel) ge_65_32,
   (gq_ior ge_65_35).sn,
   (gq_istore_n ge_65_36).sn,
   (gs_inc ge_65_37).sn,
   (gq_goto ge_65_40 (by decide)).sn,
   (gq_iload_n ge_65_43).sn,
   (gs_ireti ge_65_44).sn, trivial⟩
set_option maxRecDepth 100000 in
set_option maxHeartbeats 4000000 in
/-- GrammarMachine$Look.starts -/
theorem gc_o66 (L : Nat) (xs : Nat → Int32) {l : Launch} (hl : l.stackTraces = false) : gx_all (gx_Sn l (gc_z (gc_G L xs)) (gm_cl, gm_tyl, gc_G L xs, Cond.code gc_y66 gc_c66 2 (some .int) :: gm_WS, gc_c66, gc_y66, 2, (some .int))) gc_bl66 :=
  ⟨(gq_aload_n ge_66_0).sn,
   (gs_get (Cn := gm_R9) (T := gm_T9) (N := 2) rfl gc_in9 (by decide) (gm_f _ gc_w389) ge_66_1).sn,
   (gq_iload_n ge_66_4).sn,
   gs_callU (x := ⟨"GrammarMachine$Pattern", "starts", "(I)I"⟩) (owner := "GrammarMachine$Pattern") (zs := gc_z (gc_G L xs)) (gc_Gok L xs) gc_n665 (gc_u_starts gc_w676) (by decide +kernel) ge_66_5,
   (gs_ireti ge_66_8).sn, trivial⟩
set_option maxRecDepth 100000 in
set_option maxHeartbeats 4000000 in
/-- GrammarMachine$Name.starts -/
theorem gc_o67 (L : Nat) (xs : Nat → Int32) {l : Launch} (hl : l.stackTraces = false) : gx_all (gx_Sn l (gc_z (gc_G L xs)) (gm_cl, gm_tyl, gc_G L xs, Cond.code gc_y67 gc_c67 2 (some .int) :: gm_WS, gc_c67, gc_y67, 2, (some .int))) gc_bl67 :=
  ⟨(gq_iconst ge_67_0 (by decide)).sn,
   (gq_aload_n ge_67_1).sn,
   (gs_get (Cn := gm_R6) (T := gm_T6) (N := 1) rfl gc_in6 (by decide) (gm_f _ gc_w363) ge_67_2).sn,
   (gq_ishl ge_67_5).sn,
   (gs_ireti ge_67_6).sn, trivial⟩
set_option maxRecDepth 100000 in
set_option maxHeartbeats 4000000 in
/-- GrammarMachine$Repeat.starts -/
theorem gc_o68 (L : Nat) (xs : Nat → Int32) {l : Launch} (hl : l.stackTraces = false) : gx_all (gx_Sn l (gc_z (gc_G L xs)) (gm_cl, gm_tyl, gc_G L xs, Cond.code gc_y68 gc_c68 2 (some .int) :: gm_WS, gc_c68, gc_y68, 2, (some .int))) gc_bl68 :=
  ⟨(gq_aload_n ge_68_0).sn,
   (gs_get (Cn := gm_R8) (T := gm_T8) (N := 3) rfl gc_in8 (by decide) (gm_f _ gc_w373) ge_68_1).sn,
   (gq_iload_n ge_68_4).sn,
   gs_callU (x := ⟨"GrammarMachine$Pattern", "starts", "(I)I"⟩) (owner := "GrammarMachine$Pattern") (zs := gc_z (gc_G L xs)) (gc_Gok L xs) gc_n665 (gc_u_starts gc_w681) (by decide +kernel) ge_68_5,
   (gs_ireti ge_68_8).sn, trivial⟩
set_option maxRecDepth 100000 in
set_option maxHeartbeats 4000000 in
/-- GrammarMachine$Sequence.starts -/
theorem gc_o69 (L : Nat) (xs : Nat → Int32) {l : Launch} (hl : l.stackTraces = false) : gx_all (gx_Sn l (gc_z (gc_G L xs)) (gm_cl, gm_tyl, gc_G L xs, Cond.code gc_y69 gc_c69 4 (some .int) :: gm_WS, gc_c69, gc_y69, 4, (some .int))) gc_bl69 :=
  ⟨(gq_iconst ge_69_0 (by decide)).sn,
   (gq_istore_n ge_69_1).sn,
   (gq_iconst ge_69_2 (by decide)).sn,
   (gq_istore_n ge_69_3).sn,
   (gq_iload_n ge_69_4).sn,
   (gq_aload_n ge_69_5).sn,
   (gs_get (Cn := gm_R10) (T := gm_T10) (N := 1) rfl gc_in10 (by decide) (gm_f _ gc_w431) ge_69_6).sn,
   gs_callF (x := ⟨"java/util/List", "size", "()I"⟩) (zs := gc_z (gc_G L xs)) (gc_Gok L xs) (gc_selfF (k := 0) (LF := fun Cn my9 => [.methodLink "GrammarMachine$Sequence" 24 ⟨"java/util/List", "size", "()I"⟩, .selects Cn ⟨"java/util/List", "size", "()I"⟩ my9, .instanceMethod my9, .initialized my9.cls]) (P := fun Cn my9 => ∀ sp A U H, gc_G L xs sp A U H → va_Fw Cn ⟨"java/util/List", "size", "()I"⟩ my9 U) (show gm_cl[12]? = some (gm_R12, gm_T12, 3) from rfl) rfl (gm_good gc_k109) rfl (gc_good4 gc_w647 gc_w610 gc_w612 gc_w20) gc_fw_size (by decide) (by decide)) (by decide +kernel) ge_69_9,
   (gq_icmp_ge ge_69_14 (by decide)).sn,
   (gq_iload_n ge_69_17).sn,
   (gq_aload_n ge_69_18).sn,
   (gs_get (Cn := gm_R10) (T := gm_T10) (N := 1) rfl gc_in10 (by decide) (gm_f _ gc_w431) ge_69_19).sn,
   (gq_iload_n ge_69_22).sn,
   gs_callF (x := ⟨"java/util/List", "get", "(I)Ljava/lang/Object;"⟩) (zs := gc_z (gc_G L xs)) (gc_Gok L xs) (gc_selfF (k := 1) (LF := fun Cn my9 => [.methodLink "GrammarMachine$Sequence" 28 ⟨"java/util/List", "get", "(I)Ljava/lang/Object;"⟩, .selects Cn ⟨"java/util/List", "get", "(I)Ljava/lang/Object;"⟩ my9, .instanceMethod my9, .initialized my9.cls]) (P := fun Cn my9 => ∀ sp A U H, gc_G L xs sp A U H → va_Fw Cn ⟨"java/util/List", "get", "(I)Ljava/lang/Object;"⟩ my9 U) (show gm_cl[12]? = some (gm_R12, gm_T12, 3) from rfl) rfl (gm_good gc_k110) rfl (gc_good4 gc_w649 gc_w619 gc_w621 gc_w20) gc_fw_get (by decide) (by decide)) (by decide +kernel) ge_69_23,
   (gs_ccast (gm_f _ gc_w650) gc_cast4 ge_69_28).sn,
   (gq_iload_n ge_69_31).sn,
   gs_callU (x := ⟨"GrammarMachine$Pattern", "starts", "(I)I"⟩) (owner := "GrammarMachine$Pattern") (zs := gc_z (gc_G L xs)) (gc_Gok L xs) gc_n665 (gc_u_starts gc_w684) (by decide +kernel) ge_69_32,
   (gq_ior ge_69_35).sn,
   (gq_istore_n ge_69_36).sn,
   (gq_aload_n ge_69_37).sn,
   (gs_get (Cn := gm_R10) (T := gm_T10) (N := 1) rfl gc_in10 (by decide) (gm_f _ gc_w431) ge_69_38).sn,
   (gq_iload_n ge_69_41).sn,
   gs_callF (x := ⟨"java/util/List", "get", "(I)Ljava/lang/Object;"⟩) (zs := gc_z (gc_G L xs)) (gc_Gok L xs) (gc_selfF (k := 1) (LF := fun Cn my9 => [.methodLink "GrammarMachine$Sequence" 28 ⟨"java/util/List", "get", "(I)Ljava/lang/Object;"⟩, .selects Cn ⟨"java/util/List", "get", "(I)Ljava/lang/Object;"⟩ my9, .instanceMethod my9, .initialized my9.cls]) (P := fun Cn my9 => ∀ sp A U H, gc_G L xs sp A U H → va_Fw Cn ⟨"java/util/List", "get", "(I)Ljava/lang/Object;"⟩ my9 U) (show gm_cl[12]? = some (gm_R12, gm_T12, 3) from rfl) rfl (gm_good gc_k110) rfl (gc_good4 gc_w649 gc_w619 gc_w621 gc_w20) gc_fw_get (by decide) (by decide)) (by decide +kernel) ge_69_42,
   (gs_ccast (gm_f _ gc_w650) gc_cast4 ge_69_47).sn,
   (gq_iload_n ge_69_50).sn,
   gs_callU (x := ⟨"GrammarMachine$Pattern", "emptyable", "(I)Z"⟩) (owner := "GrammarMachine$Pattern") (zs := gc_z (gc_G L xs)) (gc_Gok L xs) gc_n598 (gc_u_emptyable gc_w651) (by decide +kernel) ge_69_51,
   (gq_if_ne ge_69_54 (by decide)).sn,
   (gq_iload_n ge_69_57).sn,
   (gs_ireti ge_69_58).sn,
   (gs_inc ge_69_59).sn,
   (gq_goto ge_69_62 (by decide)).sn,
   (gq_iload_n ge_69_65).sn,
   (gs_ireti ge_69_66).sn, trivial⟩
set_option maxRecDepth 100000 in
set_option maxHeartbeats 4000000 in
/-- GrammarMachine$Single.starts -/
theorem gc_o70 (L : Nat) (xs : Nat → Int32) {l : Launch} (hl : l.stackTraces = false) : gx_all (gx_Sn l (gc_z (gc_G L xs)) (gm_cl, gm_tyl, gc_G L xs, Cond.code gc_y70 gc_c70 2 (some .int) :: gm_WS, gc_c70, gc_y70, 2, (some .int))) gc_bl70 :=
  ⟨(gq_iconst ge_70_0 (by decide)).sn,
   (gs_ireti ge_70_1).sn, trivial⟩
set_option maxRecDepth 100000 in
set_option maxHeartbeats 4000000 in
/-- GrammarMachine$Grammar.someGoesRound -/
theorem gc_o71 (L : Nat) (xs : Nat → Int32) {l : Launch} (hl : l.stackTraces = false) : gx_all (gx_Sn l (gc_z (gc_G L xs)) (gm_cl, gm_tyl, gc_G L xs, Cond.code gc_y71 gc_c71 5 (some .boolean) :: gm_WS, gc_c71, gc_y71, 5, (some .boolean))) gc_bl71 :=
  ⟨(gq_iconst ge_71_0 (by decide)).sn,
   (gq_istore_n ge_71_1).sn,
   (gq_iload_n ge_71_2).sn,
   (gq_iconst ge_71_3 (by decide)).sn,
   (gq_icmp_ge ge_71_4 (by decide)).sn,
   (gq_aload_n ge_71_7).sn,
   (gs_get (Cn := gm_R2) (T := gm_T2) (N := 4) rfl gc_in2 (by decide) (gm_f _ gc_w63) ge_71_8).sn,
   (gq_iload_n ge_71_11).sn,
   (gs_rald (E := "GrammarMachine$Pattern") rfl ge_71_12).sn,
   (gq_astore ge_71_13).sn,
   (gq_iload_n ge_71_15).sn,
   (gq_iload_n ge_71_16).sn,
   gs_callS (zs := gc_z (gc_G L xs)) rfl (gc_Gok L xs) (gm_good gc_k52) rfl (gm_f _ gc_w3) (gm_f _ gc_w582) (gm_f _ gc_w583) (by decide +kernel) (by decide) ge_71_17,
   (gq_if_eq ge_71_20 (by decide)).sn,
   (gq_aload ge_71_23).sn,
   (gs_ifnull ge_71_25 (by decide)).sn,
   (gq_aload ge_71_28).sn,
   (gq_iload_n ge_71_30).sn,
   gs_callU (x := ⟨"GrammarMachine$Pattern", "goesRound", "(I)Z"⟩) (owner := "GrammarMachine$Pattern") (zs := gc_z (gc_G L xs)) (gc_Gok L xs) gc_n698 (gc_u_goesRound gc_w697) (by decide +kernel) ge_71_31,
   (gq_if_eq ge_71_34 (by decide)).sn,
   (gq_iconst ge_71_37 (by decide)).sn,
   (gs_iret ge_71_38).sn,
   (gs_inc ge_71_39).sn,
   (gq_goto ge_71_42 (by decide)).sn,
   (gq_iconst ge_71_45 (by decide)).sn,
   (gs_iret ge_71_46).sn, trivial⟩
set_option maxRecDepth 100000 in
set_option maxHeartbeats 4000000 in
/-- GrammarMachine$Capture.goesRound -/
theorem gc_o72 (L : Nat) (xs : Nat → Int32) {l : Launch} (hl : l.stackTraces = false) : gx_all (gx_Sn l (gc_z (gc_G L xs)) (gm_cl, gm_tyl, gc_G L xs, Cond.code gc_y72 gc_c72 2 (some .boolean) :: gm_WS, gc_c72, gc_y72, 2, (some .boolean))) gc_bl72 :=
  ⟨(gq_aload_n ge_72_0).sn,
   (gs_get (Cn := gm_R7) (T := gm_T7) (N := 1) rfl gc_in7 (by decide) (gm_f _ gc_w329) ge_72_1).sn,
   (gs_ifnull ge_72_4 (by decide)).sn,
   (gq_aload_n ge_72_7).sn,
   (gs_get (Cn := gm_R7) (T := gm_T7) (N := 1) rfl gc_in7 (by decide) (gm_f _ gc_w329) ge_72_8).sn,
   (gq_iload_n ge_72_11).sn,
   gs_callU (x := ⟨"GrammarMachine$Pattern", "goesRound", "(I)Z"⟩) (owner := "GrammarMachine$Pattern") (zs := gc_z (gc_G L xs)) (gc_Gok L xs) gc_n698 (gc_u_goesRound gc_w703) (by decide +kernel) ge_72_12,
   (gq_if_eq ge_72_15 (by decide)).sn,
   (gq_iconst ge_72_18 (by decide)).sn,
   (gq_goto ge_72_19 (by decide)).sn,
   (gq_iconst ge_72_22 (by decide)).sn,
   (gs_iret ge_72_23).sn, trivial⟩
set_option maxRecDepth 100000 in
set_option maxHeartbeats 4000000 in
/-- GrammarMachine$Choice.goesRound -/
theorem gc_o73 (L : Nat) (xs : Nat → Int32) {l : Launch} (hl : l.stackTraces = false) : gx_all (gx_Sn l (gc_z (gc_G L xs)) (gm_cl, gm_tyl, gc_G L xs, Cond.code gc_y73 gc_c73 3 (some .boolean) :: gm_WS, gc_c73, gc_y73, 3, (some .boolean))) gc_bl73 :=
  ⟨(gq_iconst ge_73_0 (by decide)).sn,
   (gq_istore_n ge_73_1).sn,
   (gq_iload_n ge_73_2).sn,
   (gq_aload_n ge_73_3).sn,
   (gs_get (Cn := gm_R11) (T := gm_T11) (N := 1) rfl gc_in11 (by decide) (gm_f _ gc_w514) ge_73_4).sn,
   gs_callF (x := ⟨"java/util/List", "size", "()I"⟩) (zs := gc_z (gc_G L xs)) (gc_Gok L xs) (gc_selfF (k := 0) (LF := fun Cn my9 => [.methodLink "GrammarMachine$Choice" 30 ⟨"java/util/List", "size", "()I"⟩, .selects Cn ⟨"java/util/List", "size", "()I"⟩ my9, .instanceMethod my9, .initialized my9.cls]) (P := fun Cn my9 => ∀ sp A U H, gc_G L xs sp A U H → va_Fw Cn ⟨"java/util/List", "size", "()I"⟩ my9 U) (show gm_cl[12]? = some (gm_R12, gm_T12, 3) from rfl) rfl (gm_good gc_k109) rfl (gc_good4 gc_w607 gc_w610 gc_w612 gc_w20) gc_fw_size (by decide) (by decide)) (by decide +kernel) ge_73_7,
   (gq_icmp_ge ge_73_12 (by decide)).sn,
   (gq_aload_n ge_73_15).sn,
   (gs_get (Cn := gm_R11) (T := gm_T11) (N := 1) rfl gc_in11 (by decide) (gm_f _ gc_w514) ge_73_16).sn,
   (gq_iload_n ge_73_19).sn,
   gs_callF (x := ⟨"java/util/List", "get", "(I)Ljava/lang/Object;"⟩) (zs := gc_z (gc_G L xs)) (gc_Gok L xs) (gc_selfF (k := 1) (LF := fun Cn my9 => [.methodLink "GrammarMachine$Choice" 33 ⟨"java/util/List", "get", "(I)Ljava/lang/Object;"⟩, .selects Cn ⟨"java/util/List", "get", "(I)Ljava/lang/Object;"⟩ my9, .instanceMethod my9, .initialized my9.cls]) (P := fun Cn my9 => ∀ sp A U H, gc_G L xs sp A U H → va_Fw Cn ⟨"java/util/List", "get", "(I)Ljava/lang/Object;"⟩ my9 U) (show gm_cl[12]? = some (gm_R12, gm_T12, 3) from rfl) rfl (gm_good gc_k110) rfl (gc_good4 gc_w616 gc_w619 gc_w621 gc_w20) gc_fw_get (by decide) (by decide)) (by decide +kernel) ge_73_20,
   (gs_ccast (gm_f _ gc_w634) gc_cast4 ge_73_25).sn,
   (gq_iload_n ge_73_28).sn,
   gs_callU (x := ⟨"GrammarMachine$Pattern", "goesRound", "(I)Z"⟩) (owner := "GrammarMachine$Pattern") (zs := gc_z (gc_G L xs)) (gc_Gok L xs) gc_n698 (gc_u_goesRound gc_w706) (by decide +kernel) ge_73_29,
   (gq_if_eq ge_73_32 (by decide)).sn,
   (gq_iconst ge_73_35 (by decide)).sn,
   (gs_iret ge_73_36).sn,
   (gs_inc ge_73_37).sn,
   (gq_goto ge_73_40 (by decide)).sn,
   (gq_iconst ge_73_43 (by decide)).sn,
   (gs_iret ge_73_44).sn, trivial⟩
set_option maxRecDepth 100000 in
set_option maxHeartbeats 4000000 in
/-- GrammarMachine$Look.goesRound -/
theorem gc_o74 (L : Nat) (xs : Nat → Int32) {l : Launch} (hl : l.stackTraces = false) : gx_all (gx_Sn l (gc_z (gc_G L xs)) (gm_cl, gm_tyl, gc_G L xs, Cond.code gc_y74 gc_c74 2 (some .boolean) :: gm_WS, gc_c74, gc_y74, 2, (some .boolean))) gc_bl74 :=
  ⟨(gq_aload_n ge_74_0).sn,
   (gs_get (Cn := gm_R9) (T := gm_T9) (N := 2) rfl gc_in9 (by decide) (gm_f _ gc_w389) ge_74_1).sn,
   (gq_iload_n ge_74_4).sn,
   gs_callU (x := ⟨"GrammarMachine$Pattern", "goesRound", "(I)Z"⟩) (owner := "GrammarMachine$Pattern") (zs := gc_z (gc_G L xs)) (gc_Gok L xs) gc_n698 (gc_u_goesRound gc_w709) (by decide +kernel) ge_74_5,
   (gs_iret ge_74_8).sn, trivial⟩
set_option maxRecDepth 100000 in
set_option maxHeartbeats 4000000 in
/-- GrammarMachine$Name.goesRound -/
theorem gc_o75 (L : Nat) (xs : Nat → Int32) {l : Launch} (hl : l.stackTraces = false) : gx_all (gx_Sn l (gc_z (gc_G L xs)) (gm_cl, gm_tyl, gc_G L xs, Cond.code gc_y75 gc_c75 2 (some .boolean) :: gm_WS, gc_c75, gc_y75, 2, (some .boolean))) gc_bl75 :=
  ⟨(gq_iconst ge_75_0 (by decide)).sn,
   (gs_iret ge_75_1).sn, trivial⟩
set_option maxRecDepth 100000 in
set_option maxHeartbeats 4000000 in
/-- GrammarMachine$Repeat.goesRound -/
theorem gc_o76 (L : Nat) (xs : Nat → Int32) {l : Launch} (hl : l.stackTraces = false) : gx_all (gx_Sn l (gc_z (gc_G L xs)) (gm_cl, gm_tyl, gc_G L xs, Cond.code gc_y76 gc_c76 2 (some .boolean) :: gm_WS, gc_c76, gc_y76, 2, (some .boolean))) gc_bl76 :=
  ⟨(gq_aload_n ge_76_0).sn,
   (gs_get (Cn := gm_R8) (T := gm_T8) (N := 3) rfl gc_in8 (by decide) (gm_f _ gc_w375) ge_76_1).sn,
   (gq_iconst ge_76_4 (by decide)).sn,
   (gq_icmp_le ge_76_5 (by decide)).sn,
   (gq_aload_n ge_76_8).sn,
   (gs_get (Cn := gm_R8) (T := gm_T8) (N := 3) rfl gc_in8 (by decide) (gm_f _ gc_w373) ge_76_9).sn,
   (gq_iload_n ge_76_12).sn,
   gs_callU (x := ⟨"GrammarMachine$Pattern", "emptyable", "(I)Z"⟩) (owner := "GrammarMachine$Pattern") (zs := gc_z (gc_G L xs)) (gc_Gok L xs) gc_n598 (gc_u_emptyable gc_w643) (by decide +kernel) ge_76_13,
   (gq_if_ne ge_76_16 (by decide)).sn,
   (gq_aload_n ge_76_19).sn,
   (gs_get (Cn := gm_R8) (T := gm_T8) (N := 3) rfl gc_in8 (by decide) (gm_f _ gc_w373) ge_76_20).sn,
   (gq_iload_n ge_76_23).sn,
   gs_callU (x := ⟨"GrammarMachine$Pattern", "goesRound", "(I)Z"⟩) (owner := "GrammarMachine$Pattern") (zs := gc_z (gc_G L xs)) (gc_Gok L xs) gc_n698 (gc_u_goesRound gc_w714) (by decide +kernel) ge_76_24,
   (gq_if_eq ge_76_27 (by decide)).sn,
   (gq_iconst ge_76_30 (by decide)).sn,
   (gq_goto ge_76_31 (by decide)).sn,
   (gq_iconst ge_76_34 (by decide)).sn,
   (gs_iret ge_76_35).sn, trivial⟩
set_option maxRecDepth 100000 in
set_option maxHeartbeats 4000000 in
/-- GrammarMachine$Sequence.goesRound -/
theorem gc_o77 (L : Nat) (xs : Nat → Int32) {l : Launch} (hl : l.stackTraces = false) : gx_all (gx_Sn l (gc_z (gc_G L xs)) (gm_cl, gm_tyl, gc_G L xs, Cond.code gc_y77 gc_c77 3 (some .boolean) :: gm_WS, gc_c77, gc_y77, 3, (some .boolean))) gc_bl77 :=
  ⟨(gq_iconst ge_77_0 (by decide)).sn,
   (gq_istore_n ge_77_1).sn,
   (gq_iload_n ge_77_2).sn,
   (gq_aload_n ge_77_3).sn,
   (gs_get (Cn := gm_R10) (T := gm_T10) (N := 1) rfl gc_in10 (by decide) (gm_f _ gc_w431) ge_77_4).sn,
   gs_callF (x := ⟨"java/util/List", "size", "()I"⟩) (zs := gc_z (gc_G L xs)) (gc_Gok L xs) (gc_selfF (k := 0) (LF := fun Cn my9 => [.methodLink "GrammarMachine$Sequence" 24 ⟨"java/util/List", "size", "()I"⟩, .selects Cn ⟨"java/util/List", "size", "()I"⟩ my9, .instanceMethod my9, .initialized my9.cls]) (P := fun Cn my9 => ∀ sp A U H, gc_G L xs sp A U H → va_Fw Cn ⟨"java/util/List", "size", "()I"⟩ my9 U) (show gm_cl[12]? = some (gm_R12, gm_T12, 3) from rfl) rfl (gm_good gc_k109) rfl (gc_good4 gc_w647 gc_w610 gc_w612 gc_w20) gc_fw_size (by decide) (by decide)) (by decide +kernel) ge_77_7,
   (gq_icmp_ge ge_77_12 (by decide)).sn,
   (gq_aload_n ge_77_15).sn,
   (gs_get (Cn := gm_R10) (T := gm_T10) (N := 1) rfl gc_in10 (by decide) (gm_f _ gc_w431) ge_77_16).sn,
   (gq_iload_n ge_77_19).sn,
   gs_callF (x := ⟨"java/util/List", "get", "(I)Ljava/lang/Object;"⟩) (zs := gc_z (gc_G L xs)) (gc_Gok L xs) (gc_selfF (k := 1) (LF := fun Cn my9 => [.methodLink "GrammarMachine$Sequence" 28 ⟨"java/util/List", "get", "(I)Ljava/lang/Object;"⟩, .selects Cn ⟨"java/util/List", "get", "(I)Ljava/lang/Object;"⟩ my9, .instanceMethod my9, .initialized my9.cls]) (P := fun Cn my9 => ∀ sp A U H, gc_G L xs sp A U H → va_Fw Cn ⟨"java/util/List", "get", "(I)Ljava/lang/Object;"⟩ my9 U) (show gm_cl[12]? = some (gm_R12, gm_T12, 3) from rfl) rfl (gm_good gc_k110) rfl (gc_good4 gc_w649 gc_w619 gc_w621 gc_w20) gc_fw_get (by decide) (by decide)) (by decide +kernel) ge_77_20,
   (gs_ccast (gm_f _ gc_w650) gc_cast4 ge_77_25).sn,
   (gq_iload_n ge_77_28).sn,
   gs_callU (x := ⟨"GrammarMachine$Pattern", "goesRound", "(I)Z"⟩) (owner := "GrammarMachine$Pattern") (zs := gc_z (gc_G L xs)) (gc_Gok L xs) gc_n698 (gc_u_goesRound gc_w717) (by decide +kernel) ge_77_29,
   (gq_if_eq ge_77_32 (by decide)).sn,
   (gq_iconst ge_77_35 (by decide)).sn,
   (gs_iret ge_77_36).sn,
   (gs_inc ge_77_37).sn,
   (gq_goto ge_77_40 (by decide)).sn,
   (gq_iconst ge_77_43 (by decide)).sn,
   (gs_iret ge_77_44).sn, trivial⟩
set_option maxRecDepth 100000 in
set_option maxHeartbeats 4000000 in
/-- GrammarMachine$Single.goesRound -/
theorem gc_o78 (L : Nat) (xs : Nat → Int32) {l : Launch} (hl : l.stackTraces = false) : gx_all (gx_Sn l (gc_z (gc_G L xs)) (gm_cl, gm_tyl, gc_G L xs, Cond.code gc_y78 gc_c78 2 (some .boolean) :: gm_WS, gc_c78, gc_y78, 2, (some .boolean))) gc_bl78 :=
  ⟨(gq_iconst ge_78_0 (by decide)).sn,
   (gs_iret ge_78_1).sn, trivial⟩
set_option maxRecDepth 100000 in
set_option maxHeartbeats 4000000 in
/-- GrammarMachine.match -/
theorem gc_o79 (L : Nat) (xs : Nat → Int32) {l : Launch} (hl : l.stackTraces = false) : gx_all (gx_Sn l (gc_z (gc_G L xs)) (gm_cl, gm_tyl, gc_G L xs, Cond.code gc_y79 gc_c79 3 (some .int) :: gm_WS, gc_c79, gc_y79, 3, (some .int))) gc_bl79 :=
  ⟨(gq_iload_n ge_79_0).sn,
   gs_callS (zs := gc_z (gc_G L xs)) rfl (gc_Gok L xs) (gm_good gc_k47) rfl (gm_f _ gc_w1) (gm_f _ gc_w541) (gm_f _ gc_w542) (by decide +kernel) (by decide) ge_79_1,
   (gq_iload_n ge_79_4).sn,
   (gq_if_lt ge_79_5 (by decide)).sn,
   (gq_iload_n ge_79_8).sn,
   (gq_aload_n ge_79_9).sn,
   (gs_get (Cn := gm_R0) (T := gm_T0) (N := 8) rfl gc_in0 (by decide) (gm_f _ gc_w121) ge_79_10).sn,
   (gq_icmp_le ge_79_13 (by decide)).sn,
   gs_thr (names := ["java/lang/RuntimeException", "java/lang/Exception"]) hl (by decide +kernel) (by decide +kernel) (gm_f _ gc_w544) (gm_f _ gc_w25) (gc_at gc_r_IndexOutOfBoundsException gc_q_IndexOutOfBoundsException gc_w553) (by decide +kernel) gc_gu (by decide) ge_79_16 ge_79_19 ge_79_20 ge_79_23,
   (gs_dup ge_79_19).sn,
   (gq_aload_n ge_79_24).sn,
   (gq_iload_n ge_79_25).sn,
   gs_callV (zs := gc_z (gc_G L xs)) (Cn := gm_R0) (T := gm_T0) (N := 8) rfl (gc_Gok L xs) (gm_good gc_k80) rfl rfl (gm_f _ gc_w1) (gm_f _ gc_w734) (gm_f _ gc_w736) (gm_f _ gc_s21) (by decide +kernel) (by decide) ge_79_26,
   (gq_aload_n ge_79_29).sn,
   (gs_get (Cn := gm_R0) (T := gm_T0) (N := 8) rfl gc_in0 (by decide) (gm_f _ gc_w119) ge_79_30).sn,
   (gq_aload_n ge_79_33).sn,
   (gs_get (Cn := gm_R0) (T := gm_T0) (N := 8) rfl gc_in0 (by decide) (gm_f _ gc_w118) ge_79_34).sn,
   (gq_aload_n ge_79_37).sn,
   (gs_get (Cn := gm_R0) (T := gm_T0) (N := 8) rfl gc_in0 (by decide) (gm_f _ gc_w116) ge_79_38).sn,
   (gq_aload_n ge_79_41).sn,
   (gs_get (Cn := gm_R0) (T := gm_T0) (N := 8) rfl gc_in0 (by decide) (gm_f _ gc_w121) ge_79_42).sn,
   (gq_iload_n ge_79_45).sn,
   gs_callV (zs := gc_z (gc_G L xs)) (Cn := gm_R3) (T := gm_T3) (N := 9) rfl (gc_Gok L xs) (gm_good gc_k81) rfl rfl (gm_f _ gc_w4) (gm_f _ gc_w753) (gm_f _ gc_w754) (gm_f _ gc_w755) (by decide +kernel) (by decide) ge_79_46,
   (gq_aload_n ge_79_49).sn,
   (gq_iload_n ge_79_50).sn,
   (gq_iload_n ge_79_51).sn,
   gs_callS (zs := gc_z (gc_G L xs)) rfl (gc_Gok L xs) (gm_good gc_k82) rfl (gm_f _ gc_w4) (gm_f _ gc_w833) (gm_f _ gc_w759) (by decide +kernel) (by decide) ge_79_52,
   (gs_puti (Cn := gm_R0) (T := gm_T0) (N := 8) rfl gc_in0 gm_t0 gm_ty0 gm_nm0 (by decide) (by decide +kernel) (gm_f _ gc_w122) rfl ge_79_55).sn,
   (gq_aload_n ge_79_58).sn,
   (gs_get (Cn := gm_R0) (T := gm_T0) (N := 8) rfl gc_in0 (by decide) (gm_f _ gc_w119) ge_79_59).sn,
   (gq_aload_n ge_79_62).sn,
   (gs_get (Cn := gm_R0) (T := gm_T0) (N := 8) rfl gc_in0 (by decide) (gm_f _ gc_w122) ge_79_63).sn,
   gs_callV (zs := gc_z (gc_G L xs)) (Cn := gm_R3) (T := gm_T3) (N := 9) rfl (gc_Gok L xs) (gm_good gc_k99) rfl rfl (gm_f _ gc_w4) (gm_f _ gc_w834) (gm_f _ gc_w835) (gm_f _ gc_w836) (by decide +kernel) (by decide) ge_79_66,
   (gs_ireti ge_79_69).sn, trivial⟩
set_option maxRecDepth 100000 in
set_option maxHeartbeats 4000000 in
/-- GrammarMachine.refuseUnlessSound -/
theorem gc_o80 (L : Nat) (xs : Nat → Int32) {l : Launch} (hl : l.stackTraces = false) : gx_all (gx_Sn l (gc_z (gc_G L xs)) (gm_cl, gm_tyl, gc_G L xs, Cond.code gc_y80 gc_c80 2 none :: gm_WS, gc_c80, gc_y80, 2, none)) gc_bl80 :=
  ⟨(gq_aload_n ge_80_0).sn,
   (gs_get (Cn := gm_R0) (T := gm_T0) (N := 8) rfl gc_in0 (by decide) (gm_f _ gc_w118) ge_80_1).sn,
   (gq_iload_n ge_80_4).sn,
   gs_callV (zs := gc_z (gc_G L xs)) (Cn := gm_R2) (T := gm_T2) (N := 4) rfl (gc_Gok L xs) (gm_good gc_k50) rfl rfl (gm_f _ gc_w3) (gm_f _ gc_w574) (gm_f _ gc_w575) (gm_f _ gc_w576) (by decide +kernel) (by decide) ge_80_5,
   (gq_if_eq ge_80_8 (by decide)).sn,
   gs_thr (names := ["java/lang/RuntimeException", "java/lang/Exception"]) hl (by decide +kernel) (by decide +kernel) (gm_f _ gc_w738) (gm_f _ gc_w28) (gc_at gc_r_IllegalStateException gc_q_IllegalStateException gc_w747) (by decide +kernel) gc_gu (by decide) ge_80_11 ge_80_14 ge_80_15 ge_80_18,
   (gs_dup ge_80_14).sn,
   (gs_ret ge_80_19).sn, trivial⟩
set_option maxRecDepth 100000 in
set_option maxHeartbeats 4000000 in
/-- GrammarMachine$Chart.fill -/
theorem gc_o81 (L : Nat) (xs : Nat → Int32) {l : Launch} (hl : l.stackTraces = false) : gx_all (gx_Sn l (gc_z (gc_G L xs)) (gm_cl, gm_tyl, gc_G L xs, Cond.code gc_y81 gc_c81 9 none :: gm_WS, gc_c81, gc_y81, 9, none)) gc_bl81 :=
  ⟨(gq_aload_n ge_81_0).sn,
   (gq_iconst ge_81_1 (by decide)).sn,
   (gq_aload_n ge_81_2).sn,
   (gs_get (Cn := gm_R3) (T := gm_T3) (N := 9) rfl gc_in3 (by decide) (gm_f _ gc_w86) ge_81_3).sn,
   (gq_iconst ge_81_6 (by decide)).sn,
   (gq_iload_n ge_81_7).sn,
   gs_copy rfl rfl (gm_f _ gc_w757) (gm_f _ gc_w278) (gm_f _ gc_w277) (gm_f _ gc_w10) ge_81_8,
   (gq_aload_n ge_81_11).sn,
   (gq_iload_n ge_81_12).sn,
   (gs_puti (Cn := gm_R3) (T := gm_T3) (N := 9) rfl gc_in3 gm_t3 gm_ty3 gm_nm3 (by decide) (by decide +kernel) (gm_f _ gc_w87) rfl ge_81_13).sn,
   (gq_aload_n ge_81_16).sn,
   (gs_get (Cn := gm_R3) (T := gm_T3) (N := 9) rfl gc_in3 (by decide) (gm_f _ gc_w87) ge_81_17).sn,
   (gq_istore ge_81_20).sn,
   (gq_iload ge_81_22).sn,
   (gq_iload ge_81_24).sn,
   (gq_icmp_lt ge_81_26 (by decide)).sn,
   (gq_iconst ge_81_29 (by decide)).sn,
   (gq_istore ge_81_30).sn,
   (gq_iload ge_81_32).sn,
   (gq_aload_n ge_81_34).sn,
   (gs_getNw (Cn := gm_R2) (T := gm_T2) (N := 4) rfl gc_in2 (by decide) gc_n69 ge_81_35).sn,
   (gq_icmp_ge ge_81_38 (by decide)).sn,
   (gq_aload_n ge_81_41).sn,
   (gs_getNw (Cn := gm_R2) (T := gm_T2) (N := 4) rfl gc_in2 (by decide) gc_n67 ge_81_42).sn,
   (gq_iload ge_81_45).sn,
   (gs_iald rfl ge_81_47).sn,
   (gq_istore ge_81_48).sn,
   (gq_aload_n ge_81_50).sn,
   (gs_getNw (Cn := gm_R2) (T := gm_T2) (N := 4) rfl gc_in2 (by decide) gc_n64 ge_81_51).sn,
   (gq_iload ge_81_54).sn,
   (gs_rald (E := "GrammarMachine$Pattern") rfl ge_81_56).sn,
   (gq_astore ge_81_57).sn,
   (gq_aload ge_81_59).sn,
   (gs_ifnull ge_81_61 (by decide)).sn,
   (gq_aload_n ge_81_64).sn,
   (gq_iload ge_81_65).sn,
   (gq_iload ge_81_67).sn,
   gs_callS (zs := gc_z (gc_G L xs)) rfl (gc_Gok L xs) (gm_good gc_k82) rfl (gm_f _ gc_w4) (gm_f _ gc_w758) (gm_f _ gc_w759) (by decide +kernel) (by decide) ge_81_69,
   (gq_aload ge_81_72).sn,
   (gq_iload ge_81_74).sn,
   gs_callV (zs := gc_z (gc_G L xs)) (Cn := gm_R3) (T := gm_T3) (N := 9) rfl (gc_Gok L xs) (gm_good gc_k83) rfl rfl (gm_f _ gc_w4) (gm_f _ gc_w761) (gm_f _ gc_w763) (gm_f _ gc_s22) (by decide +kernel) (by decide) ge_81_76,
   (gs_inc ge_81_79).sn,
   (gq_goto ge_81_82 (by decide)).sn,
   (gs_inc ge_81_85).sn,
   (gq_goto ge_81_88 (by decide)).sn,
   (gs_ret ge_81_91).sn, trivial⟩
set_option maxRecDepth 100000 in
set_option maxHeartbeats 4000000 in
/-- GrammarMachine$Chart.rowOf -/
theorem gc_o82 (L : Nat) (xs : Nat → Int32) {l : Launch} (hl : l.stackTraces = false) : gx_all (gx_Sn l (gc_z (gc_G L xs)) (gm_cl, gm_tyl, gc_G L xs, Cond.code gc_y82 gc_c82 2 (some .int) :: gm_WS, gc_c82, gc_y82, 2, (some .int))) gc_bl82 :=
  ⟨(gq_iload_n ge_82_0).sn,
   (gq_bipush ge_82_1 (by decide)).sn,
   (gq_imul ge_82_3).sn,
   (gq_iload_n ge_82_4).sn,
   (gq_iadd ge_82_5).sn,
   (gs_ireti ge_82_6).sn, trivial⟩
set_option maxRecDepth 100000 in
set_option maxHeartbeats 4000000 in
/-- GrammarMachine$Chart.fillRow -/
theorem gc_o83 (L : Nat) (xs : Nat → Int32) {l : Launch} (hl : l.stackTraces = false) : gx_all (gx_Sn l (gc_z (gc_G L xs)) (gm_cl, gm_tyl, gc_G L xs, Cond.code gc_y83 gc_c83 4 none :: gm_WS, gc_c83, gc_y83, 4, none)) gc_bl83 :=
  ⟨(gq_aload_n ge_83_0).sn,
   (gq_iload_n ge_83_1).sn,
   (gs_puti (Cn := gm_R3) (T := gm_T3) (N := 9) rfl gc_in3 gm_t3 gm_ty3 gm_nm3 (by decide) (by decide +kernel) (gm_f _ gc_w88) rfl ge_83_2).sn,
   (gq_aload_n ge_83_5).sn,
   (gs_get (Cn := gm_R3) (T := gm_T3) (N := 9) rfl gc_in3 (by decide) (gm_f _ gc_w92) ge_83_6).sn,
   (gq_aload_n ge_83_9).sn,
   (gs_get (Cn := gm_R3) (T := gm_T3) (N := 9) rfl gc_in3 (by decide) (gm_f _ gc_w88) ge_83_10).sn,
   (gq_iconst ge_83_13 (by decide)).sn,
   (gs_iast rfl ge_83_14).sn,
   (gq_aload_n ge_83_15).sn,
   (gs_get (Cn := gm_R3) (T := gm_T3) (N := 9) rfl gc_in3 (by decide) (gm_f _ gc_w90) ge_83_16).sn,
   (gq_aload_n ge_83_19).sn,
   (gs_get (Cn := gm_R3) (T := gm_T3) (N := 9) rfl gc_in3 (by decide) (gm_f _ gc_w88) ge_83_20).sn,
   (gq_iconst ge_83_23 (by decide)).sn,
   (gs_iast rfl ge_83_24).sn,
   (gq_aload_n ge_83_25).sn,
   (gs_get (Cn := gm_R3) (T := gm_T3) (N := 9) rfl gc_in3 (by decide) (gm_f _ gc_w91) ge_83_26).sn,
   (gq_aload_n ge_83_29).sn,
   (gs_get (Cn := gm_R3) (T := gm_T3) (N := 9) rfl gc_in3 (by decide) (gm_f _ gc_w88) ge_83_30).sn,
   (gs_k (v := .long 1) trivial (fun _ _ => rfl) (fun ls rest p l e R s m args below meth c H locs cells slots Fin hx hb k => lv_lconst hx hb ge_83_33 (by decide) k)).sn,
   (gq_aload_n ge_83_34).sn,
   (gs_get (Cn := gm_R3) (T := gm_T3) (N := 9) rfl gc_in3 (by decide) (gm_f _ gc_w88) ge_83_35).sn,
   (gs_lsh (fun ls rest a b p l e R s m args below meth c H locs cells slots Fin hx hb k => lv_lshl hx hb ge_83_38 rfl k)).sn,
   (gs_last rfl ge_83_39).sn,
   (gq_aload_n ge_83_40).sn,
   (gs_get (Cn := gm_R3) (T := gm_T3) (N := 9) rfl gc_in3 (by decide) (gm_f _ gc_w89) ge_83_41).sn,
   (gq_aload_n ge_83_44).sn,
   (gs_get (Cn := gm_R3) (T := gm_T3) (N := 9) rfl gc_in3 (by decide) (gm_f _ gc_w88) ge_83_45).sn,
   (gq_aload_n ge_83_48).sn,
   (gq_iload_n ge_83_49).sn,
   (gq_aload_n ge_83_50).sn,
   gs_callU (x := ⟨"GrammarMachine$Pattern", "endFrom", "(ILGrammarMachine$Chart;)I"⟩) (owner := "GrammarMachine$Pattern") (zs := gc_z (gc_G L xs)) (gc_Gok L xs) gc_n766 (gc_u_endFrom gc_w765) (by decide +kernel) ge_83_51,
   (gs_iast rfl ge_83_54).sn,
   (gq_aload_n ge_83_55).sn,
   (gs_get (Cn := gm_R3) (T := gm_T3) (N := 9) rfl gc_in3 (by decide) (gm_f _ gc_w89) ge_83_56).sn,
   (gq_aload_n ge_83_59).sn,
   (gs_get (Cn := gm_R3) (T := gm_T3) (N := 9) rfl gc_in3 (by decide) (gm_f _ gc_w88) ge_83_60).sn,
   (gs_iald rfl ge_83_63).sn,
   (gq_iconst ge_83_64 (by decide)).sn,
   (gq_icmp_ne ge_83_65 (by decide)).sn,
   (gq_aload_n ge_83_68).sn,
   (gs_get (Cn := gm_R3) (T := gm_T3) (N := 9) rfl gc_in3 (by decide) (gm_f _ gc_w92) ge_83_69).sn,
   (gq_aload_n ge_83_72).sn,
   (gs_get (Cn := gm_R3) (T := gm_T3) (N := 9) rfl gc_in3 (by decide) (gm_f _ gc_w88) ge_83_73).sn,
   (gq_iconst ge_83_76 (by decide)).sn,
   (gs_iast rfl ge_83_77).sn,
   (gs_ret ge_83_78).sn, trivial⟩
set_option maxRecDepth 100000 in
set_option maxHeartbeats 4000000 in
/-- GrammarMachine$Capture.endFrom -/
theorem gc_o84 (L : Nat) (xs : Nat → Int32) {l : Launch} (hl : l.stackTraces = false) : gx_all (gx_Sn l (gc_z (gc_G L xs)) (gm_cl, gm_tyl, gc_G L xs, Cond.code gc_y84 gc_c84 5 (some .int) :: gm_WS, gc_c84, gc_y84, 5, (some .int))) gc_bl84 :=
  ⟨(gq_aload_n ge_84_0).sn,
   (gq_iload_n ge_84_1).sn,
   gs_callV (zs := gc_z (gc_G L xs)) (Cn := gm_R3) (T := gm_T3) (N := 9) rfl (gc_Gok L xs) (gm_good gc_k85) rfl rfl (gm_f _ gc_w4) (gm_f _ gc_w771) (gm_f _ gc_w772) (gm_f _ gc_w773) (by decide +kernel) (by decide) ge_84_2,
   (gq_istore_n ge_84_5).sn,
   (gq_aload_n ge_84_6).sn,
   (gs_get (Cn := gm_R7) (T := gm_T7) (N := 1) rfl gc_in7 (by decide) (gm_f _ gc_w329) ge_84_7).sn,
   (gs_ifnonnull ge_84_10 (by decide)).sn,
   (gq_iload_n ge_84_13).sn,
   (gq_goto ge_84_14 (by decide)).sn,
   (gq_aload_n ge_84_17).sn,
   (gs_get (Cn := gm_R7) (T := gm_T7) (N := 1) rfl gc_in7 (by decide) (gm_f _ gc_w329) ge_84_18).sn,
   (gq_iload_n ge_84_21).sn,
   (gq_aload_n ge_84_22).sn,
   gs_callU (x := ⟨"GrammarMachine$Pattern", "endFrom", "(ILGrammarMachine$Chart;)I"⟩) (owner := "GrammarMachine$Pattern") (zs := gc_z (gc_G L xs)) (gc_Gok L xs) gc_n766 (gc_u_endFrom gc_w775) (by decide +kernel) ge_84_23,
   (gq_istore ge_84_26).sn,
   (gq_aload_n ge_84_28).sn,
   (gq_iload_n ge_84_29).sn,
   (gq_iload ge_84_30).sn,
   gs_callV (zs := gc_z (gc_G L xs)) (Cn := gm_R3) (T := gm_T3) (N := 9) rfl (gc_Gok L xs) (gm_good gc_k93) rfl rfl (gm_f _ gc_w4) (gm_f _ gc_w826) (gm_f _ gc_w804) (gm_f _ gc_w805) (by decide +kernel) (by decide) ge_84_32,
   (gq_iload ge_84_35).sn,
   (gs_ireti ge_84_37).sn, trivial⟩
set_option maxRecDepth 100000 in
set_option maxHeartbeats 4000000 in
/-- GrammarMachine$Chart.openCapture -/
theorem gc_o85 (L : Nat) (xs : Nat → Int32) {l : Launch} (hl : l.stackTraces = false) : gx_all (gx_Sn l (gc_z (gc_G L xs)) (gm_cl, gm_tyl, gc_G L xs, Cond.code gc_y85 gc_c85 3 (some .int) :: gm_WS, gc_c85, gc_y85, 3, (some .int))) gc_bl85 :=
  ⟨(gq_aload_n ge_85_0).sn,
   (gs_get (Cn := gm_R3) (T := gm_T3) (N := 9) rfl gc_in3 (by decide) (gm_f _ gc_w92) ge_85_1).sn,
   (gq_aload_n ge_85_4).sn,
   (gs_get (Cn := gm_R3) (T := gm_T3) (N := 9) rfl gc_in3 (by decide) (gm_f _ gc_w88) ge_85_5).sn,
   (gs_iald rfl ge_85_8).sn,
   (gq_istore_n ge_85_9).sn,
   (gq_iload_n ge_85_10).sn,
   (gq_bipush ge_85_11 (by decide)).sn,
   (gq_icmp_lt ge_85_13 (by decide)).sn,
   (gq_iconst ge_85_16 (by decide)).sn,
   (gs_ireti ge_85_17).sn,
   (gq_aload_n ge_85_18).sn,
   (gs_get (Cn := gm_R3) (T := gm_T3) (N := 9) rfl gc_in3 (by decide) (gm_f _ gc_w93) ge_85_19).sn,
   (gq_aload_n ge_85_22).sn,
   (gs_get (Cn := gm_R3) (T := gm_T3) (N := 9) rfl gc_in3 (by decide) (gm_f _ gc_w88) ge_85_23).sn,
   (gq_bipush ge_85_26 (by decide)).sn,
   (gq_imul ge_85_28).sn,
   (gq_iload_n ge_85_29).sn,
   (gq_iadd ge_85_30).sn,
   (gq_iload_n ge_85_31).sn,
   (gs_iast rfl ge_85_32).sn,
   (gq_aload_n ge_85_33).sn,
   (gs_get (Cn := gm_R3) (T := gm_T3) (N := 9) rfl gc_in3 (by decide) (gm_f _ gc_w92) ge_85_34).sn,
   (gq_aload_n ge_85_37).sn,
   (gs_get (Cn := gm_R3) (T := gm_T3) (N := 9) rfl gc_in3 (by decide) (gm_f _ gc_w88) ge_85_38).sn,
   (gq_iload_n ge_85_41).sn,
   (gq_iconst ge_85_42 (by decide)).sn,
   (gq_iadd ge_85_43).sn,
   (gs_iast rfl ge_85_44).sn,
   (gq_iload_n ge_85_45).sn,
   (gs_ireti ge_85_46).sn, trivial⟩
set_option maxRecDepth 100000 in
set_option maxHeartbeats 4000000 in
/-- GrammarMachine$Choice.endFrom -/
theorem gc_o86 (L : Nat) (xs : Nat → Int32) {l : Launch} (hl : l.stackTraces = false) : gx_all (gx_Sn l (gc_z (gc_G L xs)) (gm_cl, gm_tyl, gc_G L xs, Cond.code gc_y86 gc_c86 6 (some .int) :: gm_WS, gc_c86, gc_y86, 6, (some .int))) gc_bl86 :=
  ⟨(gq_aload_n ge_86_0).sn,
   gs_callV (zs := gc_z (gc_G L xs)) (Cn := gm_R3) (T := gm_T3) (N := 9) rfl (gc_Gok L xs) (gm_good gc_k87) rfl rfl (gm_f _ gc_w4) (gm_f _ gc_w778) (gm_f _ gc_w779) (gm_f _ gc_w780) (by decide +kernel) (by decide) ge_86_1,
   (gq_istore_n ge_86_4).sn,
   (gq_iconst ge_86_5 (by decide)).sn,
   (gq_istore ge_86_6).sn,
   (gq_iload ge_86_8).sn,
   (gq_aload_n ge_86_10).sn,
   (gs_get (Cn := gm_R11) (T := gm_T11) (N := 1) rfl gc_in11 (by decide) (gm_f _ gc_w514) ge_86_11).sn,
   gs_callF (x := ⟨"java/util/List", "size", "()I"⟩) (zs := gc_z (gc_G L xs)) (gc_Gok L xs) (gc_selfF (k := 0) (LF := fun Cn my9 => [.methodLink "GrammarMachine$Choice" 30 ⟨"java/util/List", "size", "()I"⟩, .selects Cn ⟨"java/util/List", "size", "()I"⟩ my9, .instanceMethod my9, .initialized my9.cls]) (P := fun Cn my9 => ∀ sp A U H, gc_G L xs sp A U H → va_Fw Cn ⟨"java/util/List", "size", "()I"⟩ my9 U) (show gm_cl[12]? = some (gm_R12, gm_T12, 3) from rfl) rfl (gm_good gc_k109) rfl (gc_good4 gc_w607 gc_w610 gc_w612 gc_w20) gc_fw_size (by decide) (by decide)) (by decide +kernel) ge_86_14,
   (gq_icmp_ge ge_86_19 (by decide)).sn,
   (gq_aload_n ge_86_22).sn,
   (gs_get (Cn := gm_R11) (T := gm_T11) (N := 1) rfl gc_in11 (by decide) (gm_f _ gc_w514) ge_86_23).sn,
   (gq_iload ge_86_26).sn,
   gs_callF (x := ⟨"java/util/List", "get", "(I)Ljava/lang/Object;"⟩) (zs := gc_z (gc_G L xs)) (gc_Gok L xs) (gc_selfF (k := 1) (LF := fun Cn my9 => [.methodLink "GrammarMachine$Choice" 33 ⟨"java/util/List", "get", "(I)Ljava/lang/Object;"⟩, .selects Cn ⟨"java/util/List", "get", "(I)Ljava/lang/Object;"⟩ my9, .instanceMethod my9, .initialized my9.cls]) (P := fun Cn my9 => ∀ sp A U H, gc_G L xs sp A U H → va_Fw Cn ⟨"java/util/List", "get", "(I)Ljava/lang/Object;"⟩ my9 U) (show gm_cl[12]? = some (gm_R12, gm_T12, 3) from rfl) rfl (gm_good gc_k110) rfl (gc_good4 gc_w616 gc_w619 gc_w621 gc_w20) gc_fw_get (by decide) (by decide)) (by decide +kernel) ge_86_28,
   (gs_ccast (gm_f _ gc_w634) gc_cast4 ge_86_33).sn,
   (gq_iload_n ge_86_36).sn,
   (gq_aload_n ge_86_37).sn,
   gs_callU (x := ⟨"GrammarMachine$Pattern", "endFrom", "(ILGrammarMachine$Chart;)I"⟩) (owner := "GrammarMachine$Pattern") (zs := gc_z (gc_G L xs)) (gc_Gok L xs) gc_n766 (gc_u_endFrom gc_w782) (by decide +kernel) ge_86_38,
   (gq_istore ge_86_41).sn,
   (gq_iload ge_86_43).sn,
   (gq_iconst ge_86_45 (by decide)).sn,
   (gq_icmp_eq ge_86_46 (by decide)).sn,
   (gq_iload ge_86_49).sn,
   (gs_ireti ge_86_51).sn,
   (gq_aload_n ge_86_52).sn,
   (gq_iload_n ge_86_53).sn,
   gs_callV (zs := gc_z (gc_G L xs)) (Cn := gm_R3) (T := gm_T3) (N := 9) rfl (gc_Gok L xs) (gm_good gc_k98) rfl rfl (gm_f _ gc_w4) (gm_f _ gc_w825) (gm_f _ gc_w821) (gm_f _ gc_w822) (by decide +kernel) (by decide) ge_86_54,
   (gs_inc ge_86_57).sn,
   (gq_goto ge_86_60 (by decide)).sn,
   (gq_iconst ge_86_63 (by decide)).sn,
   (gs_ireti ge_86_64).sn, trivial⟩
set_option maxRecDepth 100000 in
set_option maxHeartbeats 4000000 in
/-- GrammarMachine$Chart.captureCount -/
theorem gc_o87 (L : Nat) (xs : Nat → Int32) {l : Launch} (hl : l.stackTraces = false) : gx_all (gx_Sn l (gc_z (gc_G L xs)) (gm_cl, gm_tyl, gc_G L xs, Cond.code gc_y87 gc_c87 1 (some .int) :: gm_WS, gc_c87, gc_y87, 1, (some .int))) gc_bl87 :=
  ⟨(gq_aload_n ge_87_0).sn,
   (gs_get (Cn := gm_R3) (T := gm_T3) (N := 9) rfl gc_in3 (by decide) (gm_f _ gc_w92) ge_87_1).sn,
   (gq_aload_n ge_87_4).sn,
   (gs_get (Cn := gm_R3) (T := gm_T3) (N := 9) rfl gc_in3 (by decide) (gm_f _ gc_w88) ge_87_5).sn,
   (gs_iald rfl ge_87_8).sn,
   (gs_ireti ge_87_9).sn, trivial⟩
set_option maxRecDepth 100000 in
set_option maxHeartbeats 4000000 in
/-- GrammarMachine$Look.endFrom -/
theorem gc_o88 (L : Nat) (xs : Nat → Int32) {l : Launch} (hl : l.stackTraces = false) : gx_all (gx_Sn l (gc_z (gc_G L xs)) (gm_cl, gm_tyl, gc_G L xs, Cond.code gc_y88 gc_c88 5 (some .int) :: gm_WS, gc_c88, gc_y88, 5, (some .int))) gc_bl88 :=
  ⟨(gq_aload_n ge_88_0).sn,
   gs_callV (zs := gc_z (gc_G L xs)) (Cn := gm_R3) (T := gm_T3) (N := 9) rfl (gc_Gok L xs) (gm_good gc_k87) rfl rfl (gm_f _ gc_w4) (gm_f _ gc_w785) (gm_f _ gc_w779) (gm_f _ gc_w780) (by decide +kernel) (by decide) ge_88_1,
   (gq_istore_n ge_88_4).sn,
   (gq_aload_n ge_88_5).sn,
   (gs_get (Cn := gm_R9) (T := gm_T9) (N := 2) rfl gc_in9 (by decide) (gm_f _ gc_w389) ge_88_6).sn,
   (gq_iload_n ge_88_9).sn,
   (gq_aload_n ge_88_10).sn,
   gs_callU (x := ⟨"GrammarMachine$Pattern", "endFrom", "(ILGrammarMachine$Chart;)I"⟩) (owner := "GrammarMachine$Pattern") (zs := gc_z (gc_G L xs)) (gc_Gok L xs) gc_n766 (gc_u_endFrom gc_w786) (by decide +kernel) ge_88_11,
   (gq_iconst ge_88_14 (by decide)).sn,
   (gq_icmp_eq ge_88_15 (by decide)).sn,
   (gq_iconst ge_88_18 (by decide)).sn,
   (gq_goto ge_88_19 (by decide)).sn,
   (gq_iconst ge_88_22 (by decide)).sn,
   (gq_istore ge_88_23).sn,
   (gq_aload_n ge_88_25).sn,
   (gq_iload_n ge_88_26).sn,
   gs_callV (zs := gc_z (gc_G L xs)) (Cn := gm_R3) (T := gm_T3) (N := 9) rfl (gc_Gok L xs) (gm_good gc_k98) rfl rfl (gm_f _ gc_w4) (gm_f _ gc_w824) (gm_f _ gc_w821) (gm_f _ gc_w822) (by decide +kernel) (by decide) ge_88_27,
   (gq_iload ge_88_30).sn,
   (gq_aload_n ge_88_32).sn,
   (gs_get (Cn := gm_R9) (T := gm_T9) (N := 2) rfl gc_in9 (by decide) (gm_f _ gc_w390) ge_88_33).sn,
   (gq_icmp_ne ge_88_36 (by decide)).sn,
   (gq_iload_n ge_88_39).sn,
   (gq_goto ge_88_40 (by decide)).sn,
   (gq_iconst ge_88_43 (by decide)).sn,
   (gs_ireti ge_88_44).sn, trivial⟩
set_option maxRecDepth 100000 in
set_option maxHeartbeats 4000000 in
/-- GrammarMachine$Name.endFrom -/
theorem gc_o89 (L : Nat) (xs : Nat → Int32) {l : Launch} (hl : l.stackTraces = false) : gx_all (gx_Sn l (gc_z (gc_G L xs)) (gm_cl, gm_tyl, gc_G L xs, Cond.code gc_y89 gc_c89 3 (some .int) :: gm_WS, gc_c89, gc_y89, 3, (some .int))) gc_bl89 :=
  ⟨(gq_aload_n ge_89_0).sn,
   (gq_aload_n ge_89_1).sn,
   (gs_get (Cn := gm_R6) (T := gm_T6) (N := 1) rfl gc_in6 (by decide) (gm_f _ gc_w363) ge_89_2).sn,
   (gq_iload_n ge_89_5).sn,
   gs_callV (zs := gc_z (gc_G L xs)) (Cn := gm_R3) (T := gm_T3) (N := 9) rfl (gc_Gok L xs) (gm_good gc_k90) rfl rfl (gm_f _ gc_w4) (gm_f _ gc_w789) (gm_f _ gc_w790) (gm_f _ gc_w791) (by decide +kernel) (by decide) ge_89_6,
   (gs_ireti ge_89_9).sn, trivial⟩
set_option maxRecDepth 100000 in
set_option maxHeartbeats 4000000 in
/-- GrammarMachine$Chart.follow -/
theorem gc_o90 (L : Nat) (xs : Nat → Int32) {l : Launch} (hl : l.stackTraces = false) : gx_all (gx_Sn l (gc_z (gc_G L xs)) (gm_cl, gm_tyl, gc_G L xs, Cond.code gc_y90 gc_c90 6 (some .int) :: gm_WS, gc_c90, gc_y90, 6, (some .int))) gc_bl90 :=
  ⟨(gq_iload_n ge_90_0).sn,
   (gq_iload_n ge_90_1).sn,
   gs_callS (zs := gc_z (gc_G L xs)) rfl (gc_Gok L xs) (gm_good gc_k82) rfl (gm_f _ gc_w4) (gm_f _ gc_w758) (gm_f _ gc_w759) (by decide +kernel) (by decide) ge_90_2,
   (gq_istore_n ge_90_5).sn,
   (gq_aload_n ge_90_6).sn,
   (gs_get (Cn := gm_R3) (T := gm_T3) (N := 9) rfl gc_in3 (by decide) (gm_f _ gc_w91) ge_90_7).sn,
   (gq_aload_n ge_90_10).sn,
   (gs_get (Cn := gm_R3) (T := gm_T3) (N := 9) rfl gc_in3 (by decide) (gm_f _ gc_w88) ge_90_11).sn,
   (gs_dup2 ge_90_14).sn,
   (gs_lald rfl ge_90_15).sn,
   (gq_aload_n ge_90_16).sn,
   (gs_get (Cn := gm_R3) (T := gm_T3) (N := 9) rfl gc_in3 (by decide) (gm_f _ gc_w91) ge_90_17).sn,
   (gq_iload_n ge_90_20).sn,
   (gs_lald rfl ge_90_21).sn,
   (gs_lbin (fun ls rest a b p l e R s m args below meth c H locs cells slots Fin hx hb k => lv_lor hx hb ge_90_22 k)).sn,
   (gs_last rfl ge_90_23).sn,
   (gq_aload_n ge_90_24).sn,
   (gs_get (Cn := gm_R3) (T := gm_T3) (N := 9) rfl gc_in3 (by decide) (gm_f _ gc_w90) ge_90_25).sn,
   (gq_aload_n ge_90_28).sn,
   (gs_get (Cn := gm_R3) (T := gm_T3) (N := 9) rfl gc_in3 (by decide) (gm_f _ gc_w88) ge_90_29).sn,
   (gq_aload_n ge_90_32).sn,
   (gs_get (Cn := gm_R3) (T := gm_T3) (N := 9) rfl gc_in3 (by decide) (gm_f _ gc_w90) ge_90_33).sn,
   (gq_aload_n ge_90_36).sn,
   (gs_get (Cn := gm_R3) (T := gm_T3) (N := 9) rfl gc_in3 (by decide) (gm_f _ gc_w88) ge_90_37).sn,
   (gs_iald rfl ge_90_40).sn,
   (gq_aload_n ge_90_41).sn,
   (gs_get (Cn := gm_R3) (T := gm_T3) (N := 9) rfl gc_in3 (by decide) (gm_f _ gc_w90) ge_90_42).sn,
   (gq_iload_n ge_90_45).sn,
   (gs_iald rfl ge_90_46).sn,
   gs_max (gm_f _ gc_w793) (gm_f _ gc_w465) (gm_f _ gc_w22) (gm_f _ gc_w466) ge_90_47,
   (gs_iast rfl ge_90_50).sn,
   (gq_iconst ge_90_51 (by decide)).sn,
   (gq_istore ge_90_52).sn,
   (gq_iload ge_90_54).sn,
   (gq_aload_n ge_90_56).sn,
   (gs_get (Cn := gm_R3) (T := gm_T3) (N := 9) rfl gc_in3 (by decide) (gm_f _ gc_w92) ge_90_57).sn,
   (gq_iload_n ge_90_60).sn,
   (gs_iald rfl ge_90_61).sn,
   (gq_icmp_ge ge_90_62 (by decide)).sn,
   (gq_aload_n ge_90_65).sn,
   (gq_aload_n ge_90_66).sn,
   (gq_iload_n ge_90_67).sn,
   (gq_iload ge_90_68).sn,
   gs_callV (zs := gc_z (gc_G L xs)) (Cn := gm_R3) (T := gm_T3) (N := 9) rfl (gc_Gok L xs) (gm_good gc_k91) rfl rfl (gm_f _ gc_w4) (gm_f _ gc_w794) (gm_f _ gc_w795) (gm_f _ gc_w796) (by decide +kernel) (by decide) ge_90_70,
   gs_callV (zs := gc_z (gc_G L xs)) (Cn := gm_R3) (T := gm_T3) (N := 9) rfl (gc_Gok L xs) (gm_good gc_k85) rfl rfl (gm_f _ gc_w4) (gm_f _ gc_w798) (gm_f _ gc_w772) (gm_f _ gc_w773) (by decide +kernel) (by decide) ge_90_73,
   (gq_istore ge_90_76).sn,
   (gq_aload_n ge_90_78).sn,
   (gq_iload ge_90_79).sn,
   (gq_aload_n ge_90_81).sn,
   (gq_iload_n ge_90_82).sn,
   (gq_iload ge_90_83).sn,
   gs_callV (zs := gc_z (gc_G L xs)) (Cn := gm_R3) (T := gm_T3) (N := 9) rfl (gc_Gok L xs) (gm_good gc_k92) rfl rfl (gm_f _ gc_w4) (gm_f _ gc_w799) (gm_f _ gc_w800) (gm_f _ gc_w801) (by decide +kernel) (by decide) ge_90_85,
   gs_callV (zs := gc_z (gc_G L xs)) (Cn := gm_R3) (T := gm_T3) (N := 9) rfl (gc_Gok L xs) (gm_good gc_k93) rfl rfl (gm_f _ gc_w4) (gm_f _ gc_w803) (gm_f _ gc_w804) (gm_f _ gc_w805) (by decide +kernel) (by decide) ge_90_88,
   (gs_inc ge_90_91).sn,
   (gq_goto ge_90_94 (by decide)).sn,
   (gq_aload_n ge_90_97).sn,
   (gs_get (Cn := gm_R3) (T := gm_T3) (N := 9) rfl gc_in3 (by decide) (gm_f _ gc_w89) ge_90_98).sn,
   (gq_iload_n ge_90_101).sn,
   (gs_iald rfl ge_90_102).sn,
   (gs_ireti ge_90_103).sn, trivial⟩
set_option maxRecDepth 100000 in
set_option maxHeartbeats 4000000 in
/-- GrammarMachine$Chart.captureBegin -/
theorem gc_o91 (L : Nat) (xs : Nat → Int32) {l : Launch} (hl : l.stackTraces = false) : gx_all (gx_Sn l (gc_z (gc_G L xs)) (gm_cl, gm_tyl, gc_G L xs, Cond.code gc_y91 gc_c91 3 (some .int) :: gm_WS, gc_c91, gc_y91, 3, (some .int))) gc_bl91 :=
  ⟨(gq_aload_n ge_91_0).sn,
   (gs_get (Cn := gm_R3) (T := gm_T3) (N := 9) rfl gc_in3 (by decide) (gm_f _ gc_w93) ge_91_1).sn,
   (gq_iload_n ge_91_4).sn,
   (gq_bipush ge_91_5 (by decide)).sn,
   (gq_imul ge_91_7).sn,
   (gq_iload_n ge_91_8).sn,
   (gq_iadd ge_91_9).sn,
   (gs_iald rfl ge_91_10).sn,
   (gs_ireti ge_91_11).sn, trivial⟩
set_option maxRecDepth 100000 in
set_option maxHeartbeats 4000000 in
/-- GrammarMachine$Chart.captureEnd -/
theorem gc_o92 (L : Nat) (xs : Nat → Int32) {l : Launch} (hl : l.stackTraces = false) : gx_all (gx_Sn l (gc_z (gc_G L xs)) (gm_cl, gm_tyl, gc_G L xs, Cond.code gc_y92 gc_c92 3 (some .int) :: gm_WS, gc_c92, gc_y92, 3, (some .int))) gc_bl92 :=
  ⟨(gq_aload_n ge_92_0).sn,
   (gs_get (Cn := gm_R3) (T := gm_T3) (N := 9) rfl gc_in3 (by decide) (gm_f _ gc_w94) ge_92_1).sn,
   (gq_iload_n ge_92_4).sn,
   (gq_bipush ge_92_5 (by decide)).sn,
   (gq_imul ge_92_7).sn,
   (gq_iload_n ge_92_8).sn,
   (gq_iadd ge_92_9).sn,
   (gs_iald rfl ge_92_10).sn,
   (gs_ireti ge_92_11).sn, trivial⟩
set_option maxRecDepth 100000 in
set_option maxHeartbeats 4000000 in
/-- GrammarMachine$Chart.closeCapture -/
theorem gc_o93 (L : Nat) (xs : Nat → Int32) {l : Launch} (hl : l.stackTraces = false) : gx_all (gx_Sn l (gc_z (gc_G L xs)) (gm_cl, gm_tyl, gc_G L xs, Cond.code gc_y93 gc_c93 3 none :: gm_WS, gc_c93, gc_y93, 3, none)) gc_bl93 :=
  ⟨(gq_iload_n ge_93_0).sn,
   (gq_iconst ge_93_1 (by decide)).sn,
   (gq_icmp_eq ge_93_2 (by decide)).sn,
   (gq_aload_n ge_93_5).sn,
   (gs_get (Cn := gm_R3) (T := gm_T3) (N := 9) rfl gc_in3 (by decide) (gm_f _ gc_w94) ge_93_6).sn,
   (gq_aload_n ge_93_9).sn,
   (gs_get (Cn := gm_R3) (T := gm_T3) (N := 9) rfl gc_in3 (by decide) (gm_f _ gc_w88) ge_93_10).sn,
   (gq_bipush ge_93_13 (by decide)).sn,
   (gq_imul ge_93_15).sn,
   (gq_iload_n ge_93_16).sn,
   (gq_iadd ge_93_17).sn,
   (gq_iload_n ge_93_18).sn,
   (gs_iast rfl ge_93_19).sn,
   (gs_ret ge_93_20).sn, trivial⟩
set_option maxRecDepth 100000 in
set_option maxHeartbeats 4000000 in
/-- GrammarMachine$Repeat.endFrom -/
theorem gc_o94 (L : Nat) (xs : Nat → Int32) {l : Launch} (hl : l.stackTraces = false) : gx_all (gx_Sn l (gc_z (gc_G L xs)) (gm_cl, gm_tyl, gc_G L xs, Cond.code gc_y94 gc_c94 7 (some .int) :: gm_WS, gc_c94, gc_y94, 7, (some .int))) gc_bl94 :=
  ⟨(gq_iload_n ge_94_0).sn,
   (gq_istore_n ge_94_1).sn,
   (gq_iconst ge_94_2 (by decide)).sn,
   (gq_istore ge_94_3).sn,
   (gq_iload ge_94_5).sn,
   (gq_aload_n ge_94_7).sn,
   (gs_get (Cn := gm_R8) (T := gm_T8) (N := 3) rfl gc_in8 (by decide) (gm_f _ gc_w375) ge_94_8).sn,
   (gq_icmp_ge ge_94_11 (by decide)).sn,
   (gq_aload_n ge_94_14).sn,
   gs_callV (zs := gc_z (gc_G L xs)) (Cn := gm_R3) (T := gm_T3) (N := 9) rfl (gc_Gok L xs) (gm_good gc_k87) rfl rfl (gm_f _ gc_w4) (gm_f _ gc_w809) (gm_f _ gc_w779) (gm_f _ gc_w780) (by decide +kernel) (by decide) ge_94_15,
   (gq_istore ge_94_18).sn,
   (gq_aload_n ge_94_20).sn,
   (gs_get (Cn := gm_R8) (T := gm_T8) (N := 3) rfl gc_in8 (by decide) (gm_f _ gc_w373) ge_94_21).sn,
   (gq_iload_n ge_94_24).sn,
   (gq_aload_n ge_94_25).sn,
   gs_callU (x := ⟨"GrammarMachine$Pattern", "endFrom", "(ILGrammarMachine$Chart;)I"⟩) (owner := "GrammarMachine$Pattern") (zs := gc_z (gc_G L xs)) (gc_Gok L xs) gc_n766 (gc_u_endFrom gc_w810) (by decide +kernel) ge_94_26,
   (gq_istore ge_94_29).sn,
   (gq_iload ge_94_31).sn,
   (gq_iconst ge_94_33 (by decide)).sn,
   (gq_icmp_ne ge_94_34 (by decide)).sn,
   (gq_aload_n ge_94_37).sn,
   (gq_iload ge_94_38).sn,
   gs_callV (zs := gc_z (gc_G L xs)) (Cn := gm_R3) (T := gm_T3) (N := 9) rfl (gc_Gok L xs) (gm_good gc_k98) rfl rfl (gm_f _ gc_w4) (gm_f _ gc_w820) (gm_f _ gc_w821) (gm_f _ gc_w822) (by decide +kernel) (by decide) ge_94_40,
   (gq_iload ge_94_43).sn,
   (gq_aload_n ge_94_45).sn,
   (gs_get (Cn := gm_R8) (T := gm_T8) (N := 3) rfl gc_in8 (by decide) (gm_f _ gc_w374) ge_94_46).sn,
   (gq_icmp_ge ge_94_49 (by decide)).sn,
   (gq_iconst ge_94_52 (by decide)).sn,
   (gq_goto ge_94_53 (by decide)).sn,
   (gq_iload_n ge_94_56).sn,
   (gs_ireti ge_94_57).sn,
   (gq_iload ge_94_58).sn,
   (gq_istore_n ge_94_60).sn,
   (gs_inc ge_94_61).sn,
   (gq_goto ge_94_64 (by decide)).sn,
   (gq_iload_n ge_94_67).sn,
   (gs_ireti ge_94_68).sn, trivial⟩
set_option maxRecDepth 100000 in
set_option maxHeartbeats 4000000 in
/-- GrammarMachine$Sequence.endFrom -/
theorem gc_o95 (L : Nat) (xs : Nat → Int32) {l : Launch} (hl : l.stackTraces = false) : gx_all (gx_Sn l (gc_z (gc_G L xs)) (gm_cl, gm_tyl, gc_G L xs, Cond.code gc_y95 gc_c95 5 (some .int) :: gm_WS, gc_c95, gc_y95, 5, (some .int))) gc_bl95 :=
  ⟨(gq_iload_n ge_95_0).sn,
   (gq_istore_n ge_95_1).sn,
   (gq_iconst ge_95_2 (by decide)).sn,
   (gq_istore ge_95_3).sn,
   (gq_iload ge_95_5).sn,
   (gq_aload_n ge_95_7).sn,
   (gs_get (Cn := gm_R10) (T := gm_T10) (N := 1) rfl gc_in10 (by decide) (gm_f _ gc_w431) ge_95_8).sn,
   gs_callF (x := ⟨"java/util/List", "size", "()I"⟩) (zs := gc_z (gc_G L xs)) (gc_Gok L xs) (gc_selfF (k := 0) (LF := fun Cn my9 => [.methodLink "GrammarMachine$Sequence" 24 ⟨"java/util/List", "size", "()I"⟩, .selects Cn ⟨"java/util/List", "size", "()I"⟩ my9, .instanceMethod my9, .initialized my9.cls]) (P := fun Cn my9 => ∀ sp A U H, gc_G L xs sp A U H → va_Fw Cn ⟨"java/util/List", "size", "()I"⟩ my9 U) (show gm_cl[12]? = some (gm_R12, gm_T12, 3) from rfl) rfl (gm_good gc_k109) rfl (gc_good4 gc_w647 gc_w610 gc_w612 gc_w20) gc_fw_size (by decide) (by decide)) (by decide +kernel) ge_95_11,
   (gq_icmp_ge ge_95_16 (by decide)).sn,
   (gq_iload_n ge_95_19).sn,
   (gq_iconst ge_95_20 (by decide)).sn,
   (gq_icmp_eq ge_95_21 (by decide)).sn,
   (gq_aload_n ge_95_24).sn,
   (gs_get (Cn := gm_R10) (T := gm_T10) (N := 1) rfl gc_in10 (by decide) (gm_f _ gc_w431) ge_95_25).sn,
   (gq_iload ge_95_28).sn,
   gs_callF (x := ⟨"java/util/List", "get", "(I)Ljava/lang/Object;"⟩) (zs := gc_z (gc_G L xs)) (gc_Gok L xs) (gc_selfF (k := 1) (LF := fun Cn my9 => [.methodLink "GrammarMachine$Sequence" 28 ⟨"java/util/List", "get", "(I)Ljava/lang/Object;"⟩, .selects Cn ⟨"java/util/List", "get", "(I)Ljava/lang/Object;"⟩ my9, .instanceMethod my9, .initialized my9.cls]) (P := fun Cn my9 => ∀ sp A U H, gc_G L xs sp A U H → va_Fw Cn ⟨"java/util/List", "get", "(I)Ljava/lang/Object;"⟩ my9 U) (show gm_cl[12]? = some (gm_R12, gm_T12, 3) from rfl) rfl (gm_good gc_k110) rfl (gc_good4 gc_w649 gc_w619 gc_w621 gc_w20) gc_fw_get (by decide) (by decide)) (by decide +kernel) ge_95_30,
   (gs_ccast (gm_f _ gc_w650) gc_cast4 ge_95_35).sn,
   (gq_iload_n ge_95_38).sn,
   (gq_aload_n ge_95_39).sn,
   gs_callU (x := ⟨"GrammarMachine$Pattern", "endFrom", "(ILGrammarMachine$Chart;)I"⟩) (owner := "GrammarMachine$Pattern") (zs := gc_z (gc_G L xs)) (gc_Gok L xs) gc_n766 (gc_u_endFrom gc_w813) (by decide +kernel) ge_95_40,
   (gq_istore_n ge_95_43).sn,
   (gs_inc ge_95_44).sn,
   (gq_goto ge_95_47 (by decide)).sn,
   (gq_iload_n ge_95_50).sn,
   (gs_ireti ge_95_51).sn, trivial⟩
set_option maxRecDepth 100000 in
set_option maxHeartbeats 4000000 in
/-- GrammarMachine$Single.endFrom -/
theorem gc_o96 (L : Nat) (xs : Nat → Int32) {l : Launch} (hl : l.stackTraces = false) : gx_all (gx_Sn l (gc_z (gc_G L xs)) (gm_cl, gm_tyl, gc_G L xs, Cond.code gc_y96 gc_c96 3 (some .int) :: gm_WS, gc_c96, gc_y96, 3, (some .int))) gc_bl96 :=
  ⟨(gq_aload_n ge_96_0).sn,
   (gq_iload_n ge_96_1).sn,
   (gq_aload_n ge_96_2).sn,
   (gs_get (Cn := gm_R5) (T := gm_T5) (N := 2) rfl gc_in5 (by decide) (gm_f _ gc_w350) ge_96_3).sn,
   (gq_aload_n ge_96_6).sn,
   (gs_get (Cn := gm_R5) (T := gm_T5) (N := 2) rfl gc_in5 (by decide) (gm_f _ gc_w351) ge_96_7).sn,
   gs_callV (zs := gc_z (gc_G L xs)) (Cn := gm_R3) (T := gm_T3) (N := 9) rfl (gc_Gok L xs) (gm_good gc_k97) rfl rfl (gm_f _ gc_w4) (gm_f _ gc_w816) (gm_f _ gc_w817) (gm_f _ gc_w818) (by decide +kernel) (by decide) ge_96_10,
   (gs_ireti ge_96_13).sn, trivial⟩
set_option maxRecDepth 100000 in
set_option maxHeartbeats 4000000 in
/-- GrammarMachine$Chart.tryPlace -/
theorem gc_o97 (L : Nat) (xs : Nat → Int32) {l : Launch} (hl : l.stackTraces = false) : gx_all (gx_Sn l (gc_z (gc_G L xs)) (gm_cl, gm_tyl, gc_G L xs, Cond.code gc_y97 gc_c97 4 (some .int) :: gm_WS, gc_c97, gc_y97, 4, (some .int))) gc_bl97 :=
  ⟨(gq_iload_n ge_97_0).sn,
   (gq_aload_n ge_97_1).sn,
   (gs_get (Cn := gm_R3) (T := gm_T3) (N := 9) rfl gc_in3 (by decide) (gm_f _ gc_w87) ge_97_2).sn,
   (gq_icmp_ge ge_97_5 (by decide)).sn,
   (gq_aload_n ge_97_8).sn,
   (gs_get (Cn := gm_R3) (T := gm_T3) (N := 9) rfl gc_in3 (by decide) (gm_f _ gc_w86) ge_97_9).sn,
   (gq_iload_n ge_97_12).sn,
   (gs_cald rfl ge_97_13).sn,
   (gq_iload_n ge_97_14).sn,
   (gq_icmp_lt ge_97_15 (by decide)).sn,
   (gq_aload_n ge_97_18).sn,
   (gs_get (Cn := gm_R3) (T := gm_T3) (N := 9) rfl gc_in3 (by decide) (gm_f _ gc_w86) ge_97_19).sn,
   (gq_iload_n ge_97_22).sn,
   (gs_cald rfl ge_97_23).sn,
   (gq_iload_n ge_97_24).sn,
   (gq_icmp_gt ge_97_25 (by decide)).sn,
   (gq_iload_n ge_97_28).sn,
   (gq_iconst ge_97_29 (by decide)).sn,
   (gq_iadd ge_97_30).sn,
   (gs_ireti ge_97_31).sn,
   (gq_aload_n ge_97_32).sn,
   (gs_get (Cn := gm_R3) (T := gm_T3) (N := 9) rfl gc_in3 (by decide) (gm_f _ gc_w90) ge_97_33).sn,
   (gq_aload_n ge_97_36).sn,
   (gs_get (Cn := gm_R3) (T := gm_T3) (N := 9) rfl gc_in3 (by decide) (gm_f _ gc_w88) ge_97_37).sn,
   (gq_aload_n ge_97_40).sn,
   (gs_get (Cn := gm_R3) (T := gm_T3) (N := 9) rfl gc_in3 (by decide) (gm_f _ gc_w90) ge_97_41).sn,
   (gq_aload_n ge_97_44).sn,
   (gs_get (Cn := gm_R3) (T := gm_T3) (N := 9) rfl gc_in3 (by decide) (gm_f _ gc_w88) ge_97_45).sn,
   (gs_iald rfl ge_97_48).sn,
   (gq_iload_n ge_97_49).sn,
   gs_max (gm_f _ gc_w793) (gm_f _ gc_w465) (gm_f _ gc_w22) (gm_f _ gc_w466) ge_97_50,
   (gs_iast rfl ge_97_53).sn,
   (gq_iconst ge_97_54 (by decide)).sn,
   (gs_ireti ge_97_55).sn, trivial⟩
set_option maxRecDepth 100000 in
set_option maxHeartbeats 4000000 in
/-- GrammarMachine$Chart.takeBackTo -/
theorem gc_o98 (L : Nat) (xs : Nat → Int32) {l : Launch} (hl : l.stackTraces = false) : gx_all (gx_Sn l (gc_z (gc_G L xs)) (gm_cl, gm_tyl, gc_G L xs, Cond.code gc_y98 gc_c98 2 none :: gm_WS, gc_c98, gc_y98, 2, none)) gc_bl98 :=
  ⟨(gq_aload_n ge_98_0).sn,
   (gs_get (Cn := gm_R3) (T := gm_T3) (N := 9) rfl gc_in3 (by decide) (gm_f _ gc_w92) ge_98_1).sn,
   (gq_aload_n ge_98_4).sn,
   (gs_get (Cn := gm_R3) (T := gm_T3) (N := 9) rfl gc_in3 (by decide) (gm_f _ gc_w88) ge_98_5).sn,
   (gq_iload_n ge_98_8).sn,
   (gs_iast rfl ge_98_9).sn,
   (gs_ret ge_98_10).sn, trivial⟩
set_option maxRecDepth 100000 in
set_option maxHeartbeats 4000000 in
/-- GrammarMachine$Chart.endOf -/
theorem gc_o99 (L : Nat) (xs : Nat → Int32) {l : Launch} (hl : l.stackTraces = false) : gx_all (gx_Sn l (gc_z (gc_G L xs)) (gm_cl, gm_tyl, gc_G L xs, Cond.code gc_y99 gc_c99 2 (some .int) :: gm_WS, gc_c99, gc_y99, 2, (some .int))) gc_bl99 :=
  ⟨(gq_aload_n ge_99_0).sn,
   (gs_get (Cn := gm_R3) (T := gm_T3) (N := 9) rfl gc_in3 (by decide) (gm_f _ gc_w89) ge_99_1).sn,
   (gq_iload_n ge_99_4).sn,
   (gs_iald rfl ge_99_5).sn,
   (gs_ireti ge_99_6).sn, trivial⟩
set_option maxRecDepth 100000 in
set_option maxHeartbeats 4000000 in
/-- GrammarMachine.find -/
theorem gc_o100 (L : Nat) (xs : Nat → Int32) {l : Launch} (hl : l.stackTraces = false) : gx_all (gx_Sn l (gc_z (gc_G L xs)) (gm_cl, gm_tyl, gc_G L xs, Cond.code gc_y100 gc_c100 3 (some .int) :: gm_WS, gc_c100, gc_y100, 3, (some .int))) gc_bl100 :=
  ⟨(gq_iload_n ge_100_0).sn,
   gs_callS (zs := gc_z (gc_G L xs)) rfl (gc_Gok L xs) (gm_good gc_k47) rfl (gm_f _ gc_w1) (gm_f _ gc_w541) (gm_f _ gc_w542) (by decide +kernel) (by decide) ge_100_1,
   (gq_aload_n ge_100_4).sn,
   (gq_iload_n ge_100_5).sn,
   gs_callV (zs := gc_z (gc_G L xs)) (Cn := gm_R0) (T := gm_T0) (N := 8) rfl (gc_Gok L xs) (gm_good gc_k80) rfl rfl (gm_f _ gc_w1) (gm_f _ gc_w734) (gm_f _ gc_w736) (gm_f _ gc_s21) (by decide +kernel) (by decide) ge_100_6,
   (gq_aload_n ge_100_9).sn,
   (gs_get (Cn := gm_R0) (T := gm_T0) (N := 8) rfl gc_in0 (by decide) (gm_f _ gc_w119) ge_100_10).sn,
   (gq_aload_n ge_100_13).sn,
   (gs_get (Cn := gm_R0) (T := gm_T0) (N := 8) rfl gc_in0 (by decide) (gm_f _ gc_w118) ge_100_14).sn,
   (gq_aload_n ge_100_17).sn,
   (gs_get (Cn := gm_R0) (T := gm_T0) (N := 8) rfl gc_in0 (by decide) (gm_f _ gc_w116) ge_100_18).sn,
   (gq_aload_n ge_100_21).sn,
   (gs_get (Cn := gm_R0) (T := gm_T0) (N := 8) rfl gc_in0 (by decide) (gm_f _ gc_w121) ge_100_22).sn,
   (gq_iconst ge_100_25 (by decide)).sn,
   gs_callV (zs := gc_z (gc_G L xs)) (Cn := gm_R3) (T := gm_T3) (N := 9) rfl (gc_Gok L xs) (gm_good gc_k81) rfl rfl (gm_f _ gc_w4) (gm_f _ gc_w753) (gm_f _ gc_w754) (gm_f _ gc_w755) (by decide +kernel) (by decide) ge_100_26,
   (gq_iconst ge_100_29 (by decide)).sn,
   (gq_istore_n ge_100_30).sn,
   (gq_iload_n ge_100_31).sn,
   (gq_aload_n ge_100_32).sn,
   (gs_get (Cn := gm_R0) (T := gm_T0) (N := 8) rfl gc_in0 (by decide) (gm_f _ gc_w121) ge_100_33).sn,
   (gq_icmp_gt ge_100_36 (by decide)).sn,
   (gq_aload_n ge_100_39).sn,
   (gq_iload_n ge_100_40).sn,
   (gq_iload_n ge_100_41).sn,
   gs_callS (zs := gc_z (gc_G L xs)) rfl (gc_Gok L xs) (gm_good gc_k82) rfl (gm_f _ gc_w4) (gm_f _ gc_w833) (gm_f _ gc_w759) (by decide +kernel) (by decide) ge_100_42,
   (gs_puti (Cn := gm_R0) (T := gm_T0) (N := 8) rfl gc_in0 gm_t0 gm_ty0 gm_nm0 (by decide) (by decide +kernel) (gm_f _ gc_w122) rfl ge_100_45).sn,
   (gq_aload_n ge_100_48).sn,
   (gs_get (Cn := gm_R0) (T := gm_T0) (N := 8) rfl gc_in0 (by decide) (gm_f _ gc_w119) ge_100_49).sn,
   (gq_aload_n ge_100_52).sn,
   (gs_get (Cn := gm_R0) (T := gm_T0) (N := 8) rfl gc_in0 (by decide) (gm_f _ gc_w122) ge_100_53).sn,
   gs_callV (zs := gc_z (gc_G L xs)) (Cn := gm_R3) (T := gm_T3) (N := 9) rfl (gc_Gok L xs) (gm_good gc_k99) rfl rfl (gm_f _ gc_w4) (gm_f _ gc_w834) (gm_f _ gc_w835) (gm_f _ gc_w836) (by decide +kernel) (by decide) ge_100_56,
   (gq_iconst ge_100_59 (by decide)).sn,
   (gq_icmp_eq ge_100_60 (by decide)).sn,
   (gq_iload_n ge_100_63).sn,
   (gs_ireti ge_100_64).sn,
   (gs_inc ge_100_65).sn,
   (gq_goto ge_100_68 (by decide)).sn,
   (gq_iconst ge_100_71 (by decide)).sn,
   (gs_ireti ge_100_72).sn, trivial⟩
set_option maxRecDepth 100000 in
set_option maxHeartbeats 4000000 in
/-- GrammarMachine.capture -/
theorem gc_o101 (L : Nat) (xs : Nat → Int32) {l : Launch} (hl : l.stackTraces = false) : gx_all (gx_Sn l (gc_z (gc_G L xs)) (gm_cl, gm_tyl, gc_G L xs, Cond.code gc_y101 gc_c101 3 (some .int) :: gm_WS, gc_c101, gc_y101, 3, (some .int))) gc_bl101 :=
  ⟨(gq_iload_n ge_101_0).sn,
   (gq_if_lt ge_101_1 (by decide)).sn,
   (gq_iload_n ge_101_4).sn,
   (gq_aload_n ge_101_5).sn,
   gs_callV (zs := gc_z (gc_G L xs)) (Cn := gm_R0) (T := gm_T0) (N := 8) rfl (gc_Gok L xs) (gm_good gc_k8) rfl rfl (gm_f _ gc_w1) (gm_f _ gc_w852) (gm_f _ gc_w156) (gm_f _ gc_w157) (by decide +kernel) (by decide) ge_101_6,
   (gq_icmp_ge ge_101_9 (by decide)).sn,
   (gq_iload_n ge_101_12).sn,
   (gq_if_lt ge_101_13 (by decide)).sn,
   (gq_iload_n ge_101_16).sn,
   (gq_iconst ge_101_17 (by decide)).sn,
   (gq_icmp_le ge_101_18 (by decide)).sn,
   gs_thr (names := ["java/lang/RuntimeException", "java/lang/Exception"]) hl (by decide +kernel) (by decide +kernel) (gm_f _ gc_w544) (gm_f _ gc_w25) (gc_at gc_r_IndexOutOfBoundsException gc_q_IndexOutOfBoundsException gc_w553) (by decide +kernel) gc_gu (by decide) ge_101_21 ge_101_24 ge_101_25 ge_101_28,
   (gs_dup ge_101_24).sn,
   (gq_iload_n ge_101_29).sn,
   (gq_if_ne ge_101_30 (by decide)).sn,
   (gq_aload_n ge_101_33).sn,
   (gs_get (Cn := gm_R0) (T := gm_T0) (N := 8) rfl gc_in0 (by decide) (gm_f _ gc_w119) ge_101_34).sn,
   (gq_aload_n ge_101_37).sn,
   (gs_get (Cn := gm_R0) (T := gm_T0) (N := 8) rfl gc_in0 (by decide) (gm_f _ gc_w122) ge_101_38).sn,
   (gq_iload_n ge_101_41).sn,
   gs_callV (zs := gc_z (gc_G L xs)) (Cn := gm_R3) (T := gm_T3) (N := 9) rfl (gc_Gok L xs) (gm_good gc_k91) rfl rfl (gm_f _ gc_w4) (gm_f _ gc_w853) (gm_f _ gc_w795) (gm_f _ gc_w796) (by decide +kernel) (by decide) ge_101_42,
   (gq_goto ge_101_45 (by decide)).sn,
   (gq_aload_n ge_101_48).sn,
   (gs_get (Cn := gm_R0) (T := gm_T0) (N := 8) rfl gc_in0 (by decide) (gm_f _ gc_w119) ge_101_49).sn,
   (gq_aload_n ge_101_52).sn,
   (gs_get (Cn := gm_R0) (T := gm_T0) (N := 8) rfl gc_in0 (by decide) (gm_f _ gc_w122) ge_101_53).sn,
   (gq_iload_n ge_101_56).sn,
   gs_callV (zs := gc_z (gc_G L xs)) (Cn := gm_R3) (T := gm_T3) (N := 9) rfl (gc_Gok L xs) (gm_good gc_k92) rfl rfl (gm_f _ gc_w4) (gm_f _ gc_w854) (gm_f _ gc_w800) (gm_f _ gc_w801) (by decide +kernel) (by decide) ge_101_57,
   (gs_ireti ge_101_60).sn, trivial⟩
set_option maxRecDepth 100000 in
set_option maxHeartbeats 4000000 in
/-- java/util/AbstractCollection.<init> -/
theorem gc_o102 (L : Nat) (xs : Nat → Int32) {l : Launch} (hl : l.stackTraces = false) : gx_all (gx_Sn l (gc_z (gc_G L xs)) (gm_cl, gm_tyl, gc_G L xs, Cond.code gc_y102 gc_c102 1 none :: gm_WS, gc_c102, gc_y102, 1, none)) gc_bl102 :=
  ⟨(gq_aload_n ge_102_0).sn,
   gs_obj (gm_f _ gc_w416) (gm_f _ gc_w36) (gm_f _ gc_w37) ge_102_1,
   (gs_ret ge_102_4).sn, trivial⟩
set_option maxRecDepth 100000 in
set_option maxHeartbeats 4000000 in
/-- java/util/AbstractList.<init> -/
theorem gc_o103 (L : Nat) (xs : Nat → Int32) {l : Launch} (hl : l.stackTraces = false) : gx_all (gx_Sn l (gc_z (gc_G L xs)) (gm_cl, gm_tyl, gc_G L xs, Cond.code gc_y103 gc_c103 1 none :: gm_WS, gc_c103, gc_y103, 1, none)) gc_bl103 :=
  ⟨(gq_aload_n ge_103_0).sn,
   gs_callI (zs := gc_z (gc_G L xs)) rfl (gc_Gok L xs) (gm_good gc_k102) rfl (gm_f _ gc_w18) (gm_f _ gc_w413) (gm_f _ gc_w414) rfl (by decide +kernel) (by decide) ge_103_1,
   (gq_aload_n ge_103_4).sn,
   (gq_iconst ge_103_5 (by decide)).sn,
   (gs_puti (Cn := gm_R12) (T := gm_T12) (N := 3) rfl gc_in12 gm_t12 gm_ty12 gm_nm12 (by decide) (by decide +kernel) (gm_f _ gc_w421) rfl ge_103_6).sn,
   (gs_ret ge_103_9).sn, trivial⟩
set_option maxRecDepth 100000 in
set_option maxHeartbeats 4000000 in
/-- java/util/ArrayList.<init> -/
theorem gc_o104 (L : Nat) (xs : Nat → Int32) {l : Launch} (hl : l.stackTraces = false) : gx_all (gx_Sn l (gc_z (gc_G L xs)) (gm_cl, gm_tyl, gc_G L xs, Cond.code gc_y104 gc_c104 1 none :: gm_WS, gc_c104, gc_y104, 1, none)) gc_bl104 :=
  ⟨(gq_aload_n ge_104_0).sn,
   gs_callI (zs := gc_z (gc_G L xs)) rfl (gc_Gok L xs) (gm_good gc_k103) rfl (gm_f _ gc_w19) (gm_f _ gc_w410) (gm_f _ gc_w411) rfl (by decide +kernel) (by decide) ge_104_1,
   (gq_aload_n ge_104_4).sn,
   (gs_gets gc_gz (gm_f _ gc_w417) ge_104_5).sn,
   (gs_put (Cn := gm_R12) (T := gm_T12) (N := 3) rfl gc_in12 gm_t12 gm_ty12 gm_nm12 (by decide) (by decide +kernel) (gm_f _ gc_w419) rfl ge_104_8).sn,
   (gs_ret ge_104_11).sn, trivial⟩
set_option maxRecDepth 100000 in
set_option maxHeartbeats 4000000 in
/-- java/util/ArrayList.add -/
theorem gc_o105 (L : Nat) (xs : Nat → Int32) {l : Launch} (hl : l.stackTraces = false) : gx_all (gx_Sn l (gc_z (gc_G L xs)) (gm_cl, gm_tyl, gc_G L xs, Cond.code gc_y105 gc_c105 2 (some .boolean) :: gm_WS, gc_c105, gc_y105, 2, (some .boolean))) gc_bl105 :=
  ⟨(gq_aload_n ge_105_0).sn,
   (gs_dup ge_105_1).sn,
   (gs_getS (Cn := gm_R12) (T := gm_T12) (N := 3) rfl gc_in12 (by decide) (gm_f _ gc_w422) (gm_f _ gc_w423) ge_105_2).sn,
   (gq_iconst ge_105_5 (by decide)).sn,
   (gq_iadd ge_105_6).sn,
   (gs_putS (Cn := gm_R12) (T := gm_T12) (N := 3) rfl gc_in12 gm_t12 gm_ty12 gm_nm12 (by decide) (by decide +kernel) (gm_f _ gc_w422) (gm_f _ gc_w423) rfl ge_105_7).sn,
   (gq_aload_n ge_105_10).sn,
   (gq_aload_n ge_105_11).sn,
   (gq_aload_n ge_105_12).sn,
   (gs_get (Cn := gm_R12) (T := gm_T12) (N := 3) rfl gc_in12 (by decide) (gm_f _ gc_w419) ge_105_13).sn,
   (gq_aload_n ge_105_16).sn,
   (gs_get (Cn := gm_R12) (T := gm_T12) (N := 3) rfl gc_in12 (by decide) (gm_f _ gc_w420) ge_105_17).sn,
   gs_callV (zs := gc_z (gc_G L xs)) (Cn := gm_R12) (T := gm_T12) (N := 3) rfl (gc_Gok L xs) (gm_good gc_k106) rfl rfl (gm_f _ gc_w20) (gm_f _ gc_w449) (gm_f _ gc_w451) (gm_f _ gc_s12) (by decide +kernel) (by decide) ge_105_20,
   (gq_iconst ge_105_23 (by decide)).sn,
   (gs_iret ge_105_24).sn, trivial⟩
set_option maxRecDepth 100000 in
set_option maxHeartbeats 4000000 in
/-- java/util/ArrayList.add -/
theorem gc_o106 (L : Nat) (xs : Nat → Int32) {l : Launch} (hl : l.stackTraces = false) : gx_all (gx_Sn l (gc_z (gc_G L xs)) (gm_cl, gm_tyl, gc_G L xs, Cond.code gc_y106 gc_c106 4 none :: gm_WS, gc_c106, gc_y106, 4, none)) gc_bl106 :=
  ⟨(gq_iload_n ge_106_0).sn,
   (gq_aload_n ge_106_1).sn,
   (gs_alenS (by decide) gc_gt rfl ge_106_2).sn,
   (gq_icmp_ne ge_106_3 (by decide)).sn,
   (gq_aload_n ge_106_6).sn,
   gs_callV (zs := gc_z (gc_G L xs)) (Cn := gm_R12) (T := gm_T12) (N := 3) rfl (gc_Gok L xs) (gm_good gc_k107) rfl rfl (gm_f _ gc_w20) (gm_f _ gc_w453) (gm_f _ gc_w455) (gm_f _ gc_s13) (by decide +kernel) (by decide) ge_106_7,
   (gq_astore_n ge_106_10).sn,
   (gq_aload_n ge_106_11).sn,
   (gq_iload_n ge_106_12).sn,
   (gq_aload_n ge_106_13).sn,
   (gs_rast (E := "java/lang/Object") rfl gc_cast5 ge_106_14).sn,
   (gq_aload_n ge_106_15).sn,
   (gq_iload_n ge_106_16).sn,
   (gq_iconst ge_106_17 (by decide)).sn,
   (gq_iadd ge_106_18).sn,
   (gs_puti (Cn := gm_R12) (T := gm_T12) (N := 3) rfl gc_in12 gm_t12 gm_ty12 gm_nm12 (by decide) (by decide +kernel) (gm_f _ gc_w420) rfl ge_106_19).sn,
   (gs_ret ge_106_22).sn, trivial⟩
set_option maxRecDepth 100000 in
set_option maxHeartbeats 4000000 in
/-- java/util/ArrayList.grow -/
theorem gc_o107 (L : Nat) (xs : Nat → Int32) {l : Launch} (hl : l.stackTraces = false) : gx_all (gx_Sn l (gc_z (gc_G L xs)) (gm_cl, gm_tyl, gc_G L xs, Cond.code gc_y107 gc_c107 1 (some (.array (.object "java/lang/Object"))) :: gm_WS, gc_c107, gc_y107, 1, (some (.array (.object "java/lang/Object"))))) gc_bl107 :=
  ⟨(gq_aload_n ge_107_0).sn,
   (gq_aload_n ge_107_1).sn,
   (gs_get (Cn := gm_R12) (T := gm_T12) (N := 3) rfl gc_in12 (by decide) (gm_f _ gc_w420) ge_107_2).sn,
   (gq_iconst ge_107_5 (by decide)).sn,
   (gq_iadd ge_107_6).sn,
   gs_callV (zs := gc_z (gc_G L xs)) (Cn := gm_R12) (T := gm_T12) (N := 3) rfl (gc_Gok L xs) (gm_good gc_k108) rfl rfl (gm_f _ gc_w20) (gm_f _ gc_w457) (gm_f _ gc_w459) (gm_f _ gc_s14) (by decide +kernel) (by decide) ge_107_7,
   (gs_aret (Or.inr ⟨_, rfl⟩) ge_107_10).sn, trivial⟩
set_option maxRecDepth 100000 in
set_option maxHeartbeats 4000000 in
/-- java/util/ArrayList.grow -/
theorem gc_o108 (L : Nat) (xs : Nat → Int32) {l : Launch} (hl : l.stackTraces = false) : gx_all (gx_Sn l (gc_z (gc_G L xs)) (gm_cl, gm_tyl, gc_G L xs, Cond.code gc_y108 gc_c108 4 (some (.array (.object "java/lang/Object"))) :: gm_WS, gc_c108, gc_y108, 4, (some (.array (.object "java/lang/Object"))))) gc_bl108 :=
  ⟨(gq_aload_n ge_108_0).sn,
   (gs_get (Cn := gm_R12) (T := gm_T12) (N := 3) rfl gc_in12 (by decide) (gm_f _ gc_w419) ge_108_1).sn,
   (gs_alenS (by decide) gc_gt rfl ge_108_4).sn,
   (gq_istore_n ge_108_5).sn,
   (gq_iload_n ge_108_6).sn,
   (gq_if_gt ge_108_7 (by decide)).sn,
   (gq_aload_n ge_108_10).sn,
   (gs_get (Cn := gm_R12) (T := gm_T12) (N := 3) rfl gc_in12 (by decide) (gm_f _ gc_w419) ge_108_11).sn,
   (gs_gets gc_gz (gm_f _ gc_w417) ge_108_14).sn,
   (gs_acmpeq gc_sp ge_108_17 (by decide)).sn,
   (gq_iload_n ge_108_20).sn,
   (gq_iload_n ge_108_21).sn,
   (gq_iload_n ge_108_22).sn,
   (gq_isub ge_108_23).sn,
   (gq_iload_n ge_108_24).sn,
   (gq_iconst ge_108_25 (by decide)).sn,
   (gq_ishr ge_108_26).sn,
   gs_callS (zs := gc_z (gc_G L xs)) rfl (gc_Gok L xs) (gm_good gc_k112) rfl (gm_f _ gc_w21) (gm_f _ gc_w461) (gm_f _ gc_w462) (by decide +kernel) (by decide) ge_108_27,
   (gq_istore_n ge_108_30).sn,
   (gq_aload_n ge_108_31).sn,
   (gq_aload_n ge_108_32).sn,
   (gs_get (Cn := gm_R12) (T := gm_T12) (N := 3) rfl gc_in12 (by decide) (gm_f _ gc_w419) ge_108_33).sn,
   (gq_iload_n ge_108_36).sn,
   gs_callS (zs := gc_z (gc_G L xs)) rfl (gc_Gok L xs) (gm_good gc_k113) rfl (gm_f _ gc_w23) (gm_f _ gc_w471) (gm_f _ gc_w472) (by decide +kernel) (by decide) ge_108_37,
   (gs_dupx1 ge_108_40).sn,
   (gs_put (Cn := gm_R12) (T := gm_T12) (N := 3) rfl gc_in12 gm_t12 gm_ty12 gm_nm12 (by decide) (by decide +kernel) (gm_f _ gc_w419) rfl ge_108_41).sn,
   (gs_aret (Or.inr ⟨_, rfl⟩) ge_108_44).sn,
   (gq_aload_n ge_108_45).sn,
   (gq_bipush ge_108_46 (by decide)).sn,
   (gq_iload_n ge_108_48).sn,
   gs_max (gm_f _ gc_w504) (gm_f _ gc_w465) (gm_f _ gc_w22) (gm_f _ gc_w466) ge_108_49,
   (gs_newr (E := "java/lang/Object") rfl (gm_f _ gc_w505) gc_ao5 ge_108_52).sn,
   (gs_dupx1 ge_108_55).sn,
   (gs_put (Cn := gm_R12) (T := gm_T12) (N := 3) rfl gc_in12 gm_t12 gm_ty12 gm_nm12 (by decide) (by decide +kernel) (gm_f _ gc_w419) rfl ge_108_56).sn,
   (gs_aret (Or.inr ⟨_, rfl⟩) ge_108_59).sn, trivial⟩
set_option maxRecDepth 100000 in
set_option maxHeartbeats 4000000 in
/-- java/util/ArrayList.size -/
theorem gc_o109 (L : Nat) (xs : Nat → Int32) {l : Launch} (hl : l.stackTraces = false) : gx_all (gx_Sn l (gc_z (gc_G L xs)) (gm_cl, gm_tyl, gc_G L xs, Cond.code gc_y109 gc_c109 1 (some .int) :: gm_WS, gc_c109, gc_y109, 1, (some .int))) gc_bl109 :=
  ⟨(gq_aload_n ge_109_0).sn,
   (gs_get (Cn := gm_R12) (T := gm_T12) (N := 3) rfl gc_in12 (by decide) (gm_f _ gc_w420) ge_109_1).sn,
   (gs_ireti ge_109_4).sn, trivial⟩
set_option maxRecDepth 100000 in
set_option maxHeartbeats 4000000 in
/-- java/util/ArrayList.get -/
theorem gc_o110 (L : Nat) (xs : Nat → Int32) {l : Launch} (hl : l.stackTraces = false) : gx_all (gx_Sn l (gc_z (gc_G L xs)) (gm_cl, gm_tyl, gc_G L xs, Cond.code gc_y110 gc_c110 2 (some (.object "java/lang/Object")) :: gm_WS, gc_c110, gc_y110, 2, (some (.object "java/lang/Object")))) gc_bl110 :=
  ⟨(gq_iload_n ge_110_0).sn,
   (gq_aload_n ge_110_1).sn,
   (gs_get (Cn := gm_R12) (T := gm_T12) (N := 3) rfl gc_in12 (by decide) (gm_f _ gc_w420) ge_110_2).sn,
   gs_callS (zs := gc_z (gc_G L xs)) rfl (gc_Gok L xs) (gm_good gc_k115) rfl (gm_f _ gc_w26) (gm_f _ gc_w624) (gm_f _ gc_w625) (by decide +kernel) (by decide) ge_110_5,
   (gs_pop ge_110_8).sn,
   (gq_aload_n ge_110_9).sn,
   (gq_iload_n ge_110_10).sn,
   gs_callV (zs := gc_z (gc_G L xs)) (Cn := gm_R12) (T := gm_T12) (N := 3) rfl (gc_Gok L xs) (gm_good gc_k111) rfl rfl (gm_f _ gc_w20) (gm_f _ gc_w630) (gm_f _ gc_w631) (gm_f _ gc_w632) (by decide +kernel) (by decide) ge_110_11,
   (gs_aret (Or.inl ⟨_, rfl⟩) ge_110_14).sn, trivial⟩
set_option maxRecDepth 100000 in
set_option maxHeartbeats 4000000 in
/-- java/util/ArrayList.elementData -/
theorem gc_o111 (L : Nat) (xs : Nat → Int32) {l : Launch} (hl : l.stackTraces = false) : gx_all (gx_Sn l (gc_z (gc_G L xs)) (gm_cl, gm_tyl, gc_G L xs, Cond.code gc_y111 gc_c111 2 (some (.object "java/lang/Object")) :: gm_WS, gc_c111, gc_y111, 2, (some (.object "java/lang/Object")))) gc_bl111 :=
  ⟨(gq_aload_n ge_111_0).sn,
   (gs_get (Cn := gm_R12) (T := gm_T12) (N := 3) rfl gc_in12 (by decide) (gm_f _ gc_w419) ge_111_1).sn,
   (gq_iload_n ge_111_4).sn,
   (gs_rald (E := "java/lang/Object") rfl ge_111_5).sn,
   (gs_aret (Or.inl ⟨_, rfl⟩) ge_111_6).sn, trivial⟩
set_option maxRecDepth 100000 in
set_option maxHeartbeats 4000000 in
/-- jdk/internal/util/ArraysSupport.newLength -/
theorem gc_o112 (L : Nat) (xs : Nat → Int32) {l : Launch} (hl : l.stackTraces = false) : gx_all (gx_Sn l (gc_z (gc_G L xs)) (gm_cl, gm_tyl, gc_G L xs, Cond.code gc_y112 gc_c112 4 (some .int) :: gm_WS, gc_c112, gc_y112, 4, (some .int))) gc_bl112 :=
  ⟨(gq_iload_n ge_112_0).sn,
   (gq_iload_n ge_112_1).sn,
   (gq_iload_n ge_112_2).sn,
   gs_max (gm_f _ gc_w464) (gm_f _ gc_w465) (gm_f _ gc_w22) (gm_f _ gc_w466) ge_112_3,
   (gq_iadd ge_112_6).sn,
   (gq_istore_n ge_112_7).sn,
   (gq_iconst ge_112_8 (by decide)).sn,
   (gq_iload_n ge_112_9).sn,
   (gq_icmp_ge ge_112_10 (by decide)).sn,
   (gq_iload_n ge_112_13).sn,
   (gs_ldc (gm_f _ gc_w467) ge_112_14).sn,
   (gq_icmp_gt ge_112_16 (by decide)).sn,
   (gq_iload_n ge_112_19).sn,
   (gs_ireti ge_112_20).sn,
   (gq_iload_n ge_112_21).sn,
   (gq_iload_n ge_112_22).sn,
   (gs_ireti ge_112_26).sn, trivial⟩
set_option maxRecDepth 100000 in
set_option maxHeartbeats 4000000 in
/-- java/util/Arrays.copyOf -/
theorem gc_o113 (L : Nat) (xs : Nat → Int32) {l : Launch} (hl : l.stackTraces = false) : gx_all (gx_Sn l (gc_z (gc_G L xs)) (gm_cl, gm_tyl, gc_G L xs, Cond.code gc_y113 gc_c113 2 (some (.array (.object "java/lang/Object"))) :: gm_WS, gc_c113, gc_y113, 2, (some (.array (.object "java/lang/Object"))))) gc_bl113 :=
  ⟨(gq_aload_n ge_113_0).sn,
   (gq_iload_n ge_113_1).sn,
   (gq_aload_n ge_113_2).sn,
   gs_getC (E := "java/lang/Object") rfl (gm_f _ gc_w474) (gm_f _ gc_w475) (gm_f _ gc_w493) (gm_f _ gc_w1166) gc_n1167 gc_gm ge_113_3,
   gs_callS (zs := gc_z (gc_G L xs)) rfl (gc_Gok L xs) (gm_good gc_k114) rfl (gm_f _ gc_w23) (gm_f _ gc_w494) (gm_f _ gc_w495) (by decide +kernel) (by decide) ge_113_6,
   (gs_aret (Or.inr ⟨_, rfl⟩) ge_113_9).sn, trivial⟩
set_option maxRecDepth 100000 in
set_option maxHeartbeats 4000000 in
/-- java/util/Arrays.copyOf -/
theorem gc_o114 (L : Nat) (xs : Nat → Int32) {l : Launch} (hl : l.stackTraces = false) : gx_all (gx_Sn l (gc_z (gc_G L xs)) (gm_cl, gm_tyl, gc_G L xs, Cond.code gc_y114 gc_c114 4 (some (.array (.object "java/lang/Object"))) :: gm_WS, gc_c114, gc_y114, 4, (some (.array (.object "java/lang/Object"))))) gc_bl114 :=
  ⟨(gq_aload_n ge_114_0).sn,
   (gs_ldcM gc_gm (gm_f _ gc_w497) ge_114_1).sn,
   (gs_acmpne gc_sp ge_114_3 (by decide)).sn,
   (gq_iload_n ge_114_6).sn,
   (gs_newr (E := "java/lang/Object") rfl (gm_f _ gc_w499) gc_ao5 ge_114_7).sn,
   (gq_goto ge_114_10 (by decide)).sn,
   (gq_aload_n ge_114_13).sn,
   (gq_iload_n ge_114_17).sn,
   (gq_astore_n ge_114_24).sn,
   (gq_aload_n ge_114_25).sn,
   (gq_iconst ge_114_26 (by decide)).sn,
   (gq_aload_n ge_114_27).sn,
   (gq_iconst ge_114_28 (by decide)).sn,
   (gq_aload_n ge_114_29).sn,
   (gs_alenS (by decide) gc_gt rfl ge_114_30).sn,
   (gq_iload_n ge_114_31).sn,
   gs_min (gm_f _ gc_w500) (gm_f _ gc_w501) (gm_f _ gc_w22) (gm_f _ gc_w502) ge_114_32,
   gs_rcopy rfl gc_cast5 (gm_f _ gc_w503) (gm_f _ gc_w278) (gm_f _ gc_w277) (gm_f _ gc_w10) ge_114_35,
   (gq_aload_n ge_114_38).sn,
   (gs_aret (Or.inr ⟨_, rfl⟩) ge_114_39).sn, trivial⟩
set_option maxRecDepth 100000 in
set_option maxHeartbeats 4000000 in
/-- java/util/Objects.checkIndex -/
theorem gc_o115 (L : Nat) (xs : Nat → Int32) {l : Launch} (hl : l.stackTraces = false) : gx_all (gx_Sn l (gc_z (gc_G L xs)) (gm_cl, gm_tyl, gc_G L xs, Cond.code gc_y115 gc_c115 2 (some .int) :: gm_WS, gc_c115, gc_y115, 2, (some .int))) gc_bl115 :=
  ⟨(gq_iload_n ge_115_0).sn,
   (gq_iload_n ge_115_1).sn,
   (gq_null ge_115_2).sn,
   gs_callS (zs := gc_z (gc_G L xs)) rfl (gc_Gok L xs) (gm_good gc_k116) rfl (gm_f _ gc_w27) (gm_f _ gc_w627) (gm_f _ gc_w628) (by decide +kernel) (by decide) ge_115_3,
   (gs_ireti ge_115_6).sn, trivial⟩
set_option maxRecDepth 100000 in
set_option maxHeartbeats 4000000 in
/-- jdk/internal/util/Preconditions.checkIndex -/
theorem gc_o116 (L : Nat) (xs : Nat → Int32) {l : Launch} (hl : l.stackTraces = false) : gx_all (gx_Sn l (gc_z (gc_G L xs)) (gm_cl, gm_tyl, gc_G L xs, Cond.code gc_y116 gc_c116 3 (some .int) :: gm_WS, gc_c116, gc_y116, 3, (some .int))) gc_bl116 :=
  ⟨(gq_iload_n ge_116_0).sn,
   (gq_if_lt ge_116_1 (by decide)).sn,
   (gq_iload_n ge_116_4).sn,
   (gq_iload_n ge_116_5).sn,
   (gq_icmp_lt ge_116_6 (by decide)).sn,
   (gq_aload_n ge_116_9).sn,
   (gq_iload_n ge_116_10).sn,
   (gq_iload_n ge_116_11).sn,
   (gq_iload_n ge_116_16).sn,
   (gs_ireti ge_116_17).sn, trivial⟩
