/-! The class: what holds of old cells, words, methods. Written by wip/tools/gen_class.py. -/
/-- kinds of words that hold on though the tables warm, one by one -/
def gc_nwk : Cond → Bool
  | .fieldLinkNest .. => true
  | .methodLinkNest .. => true
  | .declares _ => true
  | .castable _ _ => true
  | _ => false
def gc_NW : List Cond := tables_1.filter gc_nwk
theorem gc_warm {w : Cond} (hk : gc_nwk w = true) {s U : State} (hW : s.WarmedH U.vm) (h : va_Nw w s) : va_Nw w U := by
  cases w <;> first | exact va_Nw.warmF hW h | exact va_Nw.warmM hW h | exact va_Nw.warmD hW h | exact va_Nw.warmC hW h | cases hk
theorem gc_tab {w : Cond} (hk : gc_nwk w = true) : w.onTables = true := by
  cases w <;> first | rfl | cases hk
def gc_yl (n d : String) : MethodName := ⟨"java/util/List", n, d⟩
def gc_ya (n d : String) : MethodName := ⟨"java/util/ArrayList", n, d⟩
/-- what holds of old cells all through: the statics, the class object, the script (special cells: 0 the script, 1 ArrayList's empty array, 2 the class object of Object[]) -/
def gc_G (L : Nat) (xs : Nat → Int32) (sp : Nat → Nat) (A : Nat → Prop) (U : State) (H : Heap) : Prop :=
  (vx_Zq Bundle.tN "UNASSIGNED_STACK" Bundle.steD A U H ∧ vx_Zq Bundle.tN "SUPPRESSED_SENTINEL" Bundle.listD A U H) ∧ (∀ w ∈ gc_NW, va_Nw w U) ∧
  (va_Z "java/util/ArrayList" "DEFAULTCAPACITY_EMPTY_ELEMENTDATA" "[Ljava/lang/Object;" (.ref (sp 1)) A U H ∧ va_T (.object "java/lang/Object") (sp 1) 0 (fun _ => .null) A U H) ∧ va_Mi "[Ljava/lang/Object;" (sp 2) U ∧
  (va_Fw "java/util/ArrayList" (gc_yl "add" "(Ljava/lang/Object;)Z") (gc_ya "add" "(Ljava/lang/Object;)Z") U ∧ va_Fw "java/util/ArrayList" (gc_yl "size" "()I") (gc_ya "size" "()I") U ∧ va_Fw "java/util/ArrayList" (gc_yl "get" "(I)Ljava/lang/Object;") (gc_ya "get" "(I)Ljava/lang/Object;") U) ∧
  (va_AO "GrammarMachine$Pattern" U ∧ va_AO "java/lang/Object" U) ∧ (∀ j, j ≠ 2 → ¬ A (sp j)) ∧ va_X (sp 0) L xs U H ∧ sp 0 < H.size
theorem gc_Gok (L : Nat) (xs : Nat → Int32) : gx_Gok (gc_G L xs) := by
  refine ⟨fun sp A u U H hW h => ?_, fun sp A U H H1 hq hz h => ?_, fun sp A B U H hAB h => ?_⟩
  · obtain ⟨⟨h1, h2⟩, h3, ⟨h4, h5⟩, h6, ⟨h7, h8, h9⟩, ⟨h10, h11⟩, h12, h13, h14⟩ := h
    have hv := hW.alike
    exact ⟨⟨vx_Zq.moved hv h1, vx_Zq.moved hv h2⟩, fun w hw => gc_warm (List.mem_filter.mp hw).2 hW (h3 w hw), ⟨va_Z.moved hv h4, va_T.moved hv h5⟩, va_Mi.moved hv h6, ⟨va_Fw.moved (by decide) hv h7, va_Fw.moved (by decide) hv h8, va_Fw.moved (by decide) hv h9⟩, ⟨va_AO.moved hv h10, va_AO.moved hv h11⟩, h12, va_X.moved hv h13, h14⟩
  · obtain ⟨⟨h1, h2⟩, h3, ⟨h4, h5⟩, h6, h7, h10, h12, h13, h14⟩ := h
    exact ⟨⟨h1.kept hq, h2.kept hq⟩, h3, ⟨h4.kept hq, h5.kept hq⟩, h6, h7, h10, h12, h13.kept (hq _ h14 (h12 0 (by decide))), Nat.lt_of_lt_of_le h14 hz⟩
  · obtain ⟨⟨h1, h2⟩, h3, ⟨h4, h5⟩, h6, h7, h10, h12, h13, h14⟩ := h
    exact ⟨⟨h1.narrow hAB, h2.narrow hAB⟩, h3, ⟨h4.narrow hAB, h5.narrow hAB⟩, h6, h7, h10, fun j hj z => h12 j hj (hAB _ z), h13, h14⟩
section GCG
variable {L : Nat} {xs : Nat → Int32}
theorem gc_nw (w : Cond) (i : Nat) (h : tables_1[i]? = some w) (hk : gc_nwk w = true) : ∀ sp A U H, gc_G L xs sp A U H → va_Nw w U := fun _ _ _ _ hG => hG.2.1 w (List.mem_filter.mpr ⟨List.mem_of_getElem? h, hk⟩)
theorem gc_sp : ∀ sp A U H, gc_G L xs sp A U H → ∀ j, j ≠ 2 → ¬ A (sp j) := fun _ _ _ _ h => h.2.2.2.2.2.2.1
theorem gc_gz : ∀ sp A U H, gc_G L xs sp A U H → va_Z "java/util/ArrayList" "DEFAULTCAPACITY_EMPTY_ELEMENTDATA" "[Ljava/lang/Object;" (.ref (sp 1)) A U H := fun _ _ _ _ h => h.2.2.1.1
theorem gc_gt : ∀ sp A U H, gc_G L xs sp A U H → va_T (.object "java/lang/Object") (sp 1) 0 (fun _ => .null) A U H := fun _ _ _ _ h => h.2.2.1.2
theorem gc_gm : ∀ sp A U H, gc_G L xs sp A U H → va_Mi "[Ljava/lang/Object;" (sp 2) U := fun _ _ _ _ h => h.2.2.2.1
theorem gc_gu : ∀ sp A U H, gc_G L xs sp A U H → vx_Zq Bundle.tN "UNASSIGNED_STACK" Bundle.steD A U H ∧ vx_Zq Bundle.tN "SUPPRESSED_SENTINEL" Bundle.listD A U H := fun _ _ _ _ h => h.1
theorem gc_ao4 : ∀ sp A U H, gc_G L xs sp A U H → va_AO "GrammarMachine$Pattern" U := fun _ _ _ _ h => h.2.2.2.2.2.1.1
theorem gc_ao5 : ∀ sp A U H, gc_G L xs sp A U H → va_AO "java/lang/Object" U := fun _ _ _ _ h => h.2.2.2.2.2.1.2
theorem gc_fw_add : ∀ sp A U H, gc_G L xs sp A U H → va_Fw "java/util/ArrayList" ⟨"java/util/List", "add", "(Ljava/lang/Object;)Z"⟩ ⟨"java/util/ArrayList", "add", "(Ljava/lang/Object;)Z"⟩ U := fun _ _ _ _ h => h.2.2.2.2.1.1
theorem gc_fw_size : ∀ sp A U H, gc_G L xs sp A U H → va_Fw "java/util/ArrayList" ⟨"java/util/List", "size", "()I"⟩ ⟨"java/util/ArrayList", "size", "()I"⟩ U := fun _ _ _ _ h => h.2.2.2.2.1.2.1
theorem gc_fw_get : ∀ sp A U H, gc_G L xs sp A U H → va_Fw "java/util/ArrayList" ⟨"java/util/List", "get", "(I)Ljava/lang/Object;"⟩ ⟨"java/util/ArrayList", "get", "(I)Ljava/lang/Object;"⟩ U := fun _ _ _ _ h => h.2.2.2.2.1.2.2
end GCG
theorem gc_good4 {x a b c d : Cond} (ha : a ∈ gm_WS) (hb : b ∈ gm_WS) (hc : c ∈ gm_WS) (hd : d ∈ gm_WS) : GoodIn (x :: gm_WS) [a, b, c, d] := fun w h => by
  have hm : w ∈ gm_WS := by
    simp only [List.mem_cons, List.not_mem_nil, or_false] at h
    rcases h with rfl | rfl | rfl | rfl
    · exact ha
    · exact hb
    · exact hc
    · exact hd
  exact ⟨List.mem_cons_of_mem _ hm, good_of_word (List.mem_filter.mp hm).2⟩
theorem gc_good5 {x a b c d e : Cond} (ha : a ∈ gm_WS) (hb : b ∈ gm_WS) (hc : c ∈ gm_WS) (hd : d ∈ gm_WS) (he : e ∈ gm_WS) : GoodIn (x :: gm_WS) [a, b, c, d, e] := fun w h => by
  rcases List.mem_cons.mp h with h | h
  · subst h; exact ⟨List.mem_cons_of_mem _ ha, good_of_word (List.mem_filter.mp ha).2⟩
  · exact gc_good4 hb hc hd he w h
/-- the one receiver of an interface's call -/
theorem gc_self {cl : List vw_C} {tyl : List FieldType} {G : (Nat → Nat) → (Nat → Prop) → State → Heap → Prop} {zs : Nat → gx_M} {Ts Ts' Ts'' LL : List Cond} {P : String → MethodName → Prop} {ci m1 n1 k N : Nat} {Cn : String} {T : u_T} {cc' : ByteArray} {my' : MethodName} {ret' : Option FieldType} (hc : cl[ci]? = some (Cn, T, N)) (ez : zs m1 = (cl, tyl, G, Ts', cc', my', n1, ret')) (hG : GoodIn Ts Ts') (hw : Ts' = Cond.code my' cc' n1 ret' :: Ts'') (hL : GoodIn Ts LL) (hP : P Cn my') (h1 : n1 ≤ 45) (h2 : k + 1 ≤ n1) :
    ∀ c m' nL', gx_sel ci m1 n1 c = some (m', nL') → ∃ (Cn : String) (T9 : u_T) (N9 : Nat) (Ts' Ts'' : List Cond) (cc' : ByteArray) (my' : MethodName) (ret' : Option FieldType), cl[c]? = some (Cn, T9, N9) ∧ zs m' = (cl, tyl, G, Ts', cc', my', nL', ret') ∧ GoodIn Ts Ts' ∧ Ts' = Cond.code my' cc' nL' ret' :: Ts'' ∧ GoodIn Ts LL ∧ P Cn my' ∧ nL' ≤ 45 ∧ k + 1 ≤ nL' := by
  intro c m' nL' h
  unfold gx_sel at h
  cases hb : Nat.beq c ci with
  | false => rw [hb] at h; cases h
  | true =>
    rw [hb] at h
    cases h
    have e : c = ci := Nat.eq_of_beq_eq_true hb
    subst e
    exact ⟨_, _, _, _, _, _, _, _, hc, ez, hG, hw, hL, hP, h1, h2⟩
def gx_sels : List (Nat × Nat × Nat) → Nat → Option (Nat × Nat)
  | [], _ => none
  | q :: r, c => match Nat.beq c q.1 with
    | true => some q.2
    | false => gx_sels r c
theorem gx_sels_mem {c m' nL' : Nat} : ∀ {l : List (Nat × Nat × Nat)}, gx_sels l c = some (m', nL') → (c, m', nL') ∈ l
  | [], h => by cases h
  | q :: r, h => by
    unfold gx_sels at h
    cases hb : Nat.beq c q.1 with
    | true =>
      rw [hb] at h
      have e1 : c = q.1 := Nat.eq_of_beq_eq_true hb
      have e2 : q.2 = (m', nL') := Option.some.inj h
      rw [e1, ← e2]
      exact List.mem_cons_self
    | false =>
      rw [hb] at h
      exact List.mem_cons_of_mem _ (gx_sels_mem h)
def gc_rest (X : String) (names : List String) : List Cond := (Bundle.throwableAtoms ++ Bundle.chain0Atoms X names ++
  ([.instantiable X 6, .castable X X, .selects X Bundle.tFill0 Bundle.tFill0, .selects X Bundle.tFill Bundle.tFill,
   .lays X Bundle.tN "cause" "Ljava/lang/Throwable;", .lays X Bundle.tN "stackTrace" Bundle.steD, .lays X Bundle.tN "suppressedExceptions" Bundle.listD, .lays X Bundle.tN "detailMessage" "Ljava/lang/String;",
   .fieldLink Bundle.tN 198 Bundle.tN "backtrace" "Ljava/lang/Object;", .lays Bundle.tN Bundle.tN "backtrace" "Ljava/lang/Object;", .lays X Bundle.tN "backtrace" "Ljava/lang/Object;"] : List Cond)).filter vx_no
theorem gc_rest_spec {own X : String} {ic : Nat} {names : List String} : ∀ w ∈ vx_at0 own ic X names, w = .methodLink own ic (Bundle.init0 X) ∨ w ∈ gc_rest X names := by
  intro w hw
  obtain ⟨h1, h2⟩ := List.mem_filter.mp hw
  rcases List.mem_append.mp h1 with h1 | h1
  · exact Or.inr (List.mem_filter.mpr ⟨List.mem_append_left _ h1, h2⟩)
  · simp only [List.mem_cons, List.not_mem_nil, or_false] at h1
    rcases h1 with h1 | h1 | h1 | h1 | h1 | h1 | h1 | h1 | h1 | h1 | h1 | h1 | h1 | h1
    · exact Or.inl h1
    · exact Or.inr (List.mem_filter.mpr ⟨List.mem_append_right _ (by simp [h1]), h2⟩)
    · exact Or.inr (List.mem_filter.mpr ⟨List.mem_append_right _ (by simp [h1]), h2⟩)
    · exact Or.inr (List.mem_filter.mpr ⟨List.mem_append_right _ (by simp [h1]), h2⟩)
    · exact Or.inr (List.mem_filter.mpr ⟨List.mem_append_right _ (by simp [h1]), h2⟩)
    · exact Or.inr (List.mem_filter.mpr ⟨List.mem_append_right _ (by simp [h1]), h2⟩)
    · exact Or.inr (List.mem_filter.mpr ⟨List.mem_append_right _ (by simp [h1]), h2⟩)
    · exact Or.inr (List.mem_filter.mpr ⟨List.mem_append_right _ (by simp [h1]), h2⟩)
    · exact Or.inr (List.mem_filter.mpr ⟨List.mem_append_right _ (by simp [h1]), h2⟩)
    · subst h1; exact absurd h2 (by decide +kernel)
    · subst h1; exact absurd h2 (by decide +kernel)
    · exact Or.inr (List.mem_filter.mpr ⟨List.mem_append_right _ (by simp [h1]), h2⟩)
    · exact Or.inr (List.mem_filter.mpr ⟨List.mem_append_right _ (by simp [h1]), h2⟩)
    · exact Or.inr (List.mem_filter.mpr ⟨List.mem_append_right _ (by simp [h1]), h2⟩)
def gc_pos (w : Cond) : Bool := goodWord w || gc_nwk w
theorem gc_at {L : Nat} {xs : Nat → Int32} {x : Cond} {own X : String} {ic : Nat} {names : List String} {is : List Nat} (h0 : gc_rest X names = is.filterMap (fun i => tables_1[i]?)) (h1 : (is.filterMap (fun i => tables_1[i]?)).all gc_pos = true) (hl : Cond.methodLink own ic (Bundle.init0 X) ∈ gm_WS) : ∀ w ∈ vx_at0 own ic X names, w ∈ x :: gm_WS ∨ (w.onTables = true ∧ ∀ sp A U H, gc_G L xs sp A U H → va_Nw w U) := by
  intro w hw
  rcases gc_rest_spec w hw with e | e
  · rw [e]; exact Or.inl (List.mem_cons_of_mem _ hl)
  · rw [h0] at e
    have hp := List.all_eq_true.mp h1 w e
    obtain ⟨i, -, hi⟩ := List.mem_filterMap.mp e
    simp only [gc_pos, Bool.or_eq_true] at hp
    rcases hp with hp | hp
    · exact Or.inl (List.mem_cons_of_mem _ (gm_m i hi hp))
    · exact Or.inr ⟨gc_tab hp, gc_nw w i hi hp⟩
def gc_is_IllegalArgumentException : List Nat := [6, 224, 233, 237, 240, 242, 225, 226, 36, 37, 227, 232, 238, 254, 214, 255, 216, 256, 218, 228, 230, 220, 244, 245, 246, 247, 205, 247, 248, 249, 250, 207, 250, 251, 252, 225, 209, 203, 204, 211, 212, 213, 215, 217, 219, 223, 222, 221]
theorem gc_r_IllegalArgumentException : gc_rest "java/lang/IllegalArgumentException" ["java/lang/RuntimeException", "java/lang/Exception"] = gc_is_IllegalArgumentException.filterMap (fun i => tables_1[i]?) := by decide +kernel
theorem gc_q_IllegalArgumentException : (gc_is_IllegalArgumentException.filterMap (fun i => tables_1[i]?)).all gc_pos = true := by decide +kernel
def gc_is_IllegalStateException : List Nat := [6, 224, 233, 237, 240, 242, 225, 226, 36, 37, 227, 232, 238, 254, 214, 255, 216, 256, 218, 228, 230, 220, 748, 749, 750, 247, 205, 247, 248, 249, 250, 207, 250, 251, 252, 225, 209, 739, 740, 741, 235, 742, 743, 744, 745, 223, 222, 746]
theorem gc_r_IllegalStateException : gc_rest "java/lang/IllegalStateException" ["java/lang/RuntimeException", "java/lang/Exception"] = gc_is_IllegalStateException.filterMap (fun i => tables_1[i]?) := by decide +kernel
theorem gc_q_IllegalStateException : (gc_is_IllegalStateException.filterMap (fun i => tables_1[i]?)).all gc_pos = true := by decide +kernel
def gc_is_IndexOutOfBoundsException : List Nat := [6, 224, 233, 237, 240, 242, 225, 226, 36, 37, 227, 232, 238, 254, 214, 255, 216, 256, 218, 228, 230, 220, 554, 555, 556, 247, 205, 247, 248, 249, 250, 207, 250, 251, 252, 225, 209, 545, 546, 547, 236, 548, 549, 550, 551, 223, 222, 552]
theorem gc_r_IndexOutOfBoundsException : gc_rest "java/lang/IndexOutOfBoundsException" ["java/lang/RuntimeException", "java/lang/Exception"] = gc_is_IndexOutOfBoundsException.filterMap (fun i => tables_1[i]?) := by decide +kernel
theorem gc_q_IndexOutOfBoundsException : (gc_is_IndexOutOfBoundsException.filterMap (fun i => tables_1[i]?)).all gc_pos = true := by decide +kernel
