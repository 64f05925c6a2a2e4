/-! What the abstract machine's states are in the machine: cell k lies at ad k, special k at sp k; array classes by their tag in dT. -/
def gx_v (sp ad : Nat → Nat) : Value → Value
  | .ref k => .ref (ad k)
  | .retAddr k => .ref (sp k)
  | .int x => .int x
  | .long x => .long x
  | .float x => .float x
  | .double x => .double x
  | .null => .null
theorem gx_v_cat (sp ad : Nat → Nat) (v : Value) : (gx_v sp ad v).category = v.category := by cases v <;> rfl
def gx_a (ad : Nat → Nat) : vp_A → vp_A
  | (n, .inl f) => (n, .inl f)
  | (n, .inr (.inl f)) => (n, .inr (.inl f))
  | (n, .inr (.inr (.inl f))) => (n, .inr (.inr (.inl f)))
  | (n, .inr (.inr (.inr (.inl f)))) => (n, .inr (.inr (.inr (.inl f))))
  | (n, .inr (.inr (.inr (.inr f)))) => (n, .inr (.inr (.inr (.inr (fun j => (f j).map ad)))))
def gx_c (dT : Nat → ClassId) (sp ad : Nat → Nat) : gx_E → va_E
  | .inl (t, x) => .inl (dT t, gx_a ad x)
  | .inr (ci, fs) => .inr (ci, fs.map (gx_v sp ad))
def gx_w (dT : Nat → ClassId) (sp ad : Nat → Nat) (h : gx_H) : va_W := h.mapIdx (fun k e => (ad k, gx_c dT sp ad e))
theorem gx_w_len (dT : Nat → ClassId) (sp ad : Nat → Nat) (h : gx_H) : (gx_w dT sp ad h).length = h.length := by simp [gx_w]
theorem gx_w_get (dT : Nat → ClassId) (sp ad : Nat → Nat) (h : gx_H) (k : Nat) : (gx_w dT sp ad h)[k]? = (h[k]?).map (fun e => (ad k, gx_c dT sp ad e)) := by
  unfold gx_w
  rw [List.getElem?_mapIdx]
theorem gx_w_at {dT : Nat → ClassId} {sp ad : Nat → Nat} {h : gx_H} {k : Nat} {e : gx_E} (hk : h[k]? = some e) : (gx_w dT sp ad h)[k]? = some (ad k, gx_c dT sp ad e) := by
  rw [gx_w_get, hk]; rfl
theorem gx_w_set (dT : Nat → ClassId) (sp ad : Nat → Nat) (h : gx_H) (k : Nat) (e : gx_E) : (gx_w dT sp ad h).set k (ad k, gx_c dT sp ad e) = gx_w dT sp ad (h.set k e) := by
  refine List.ext_getElem? fun i => ?_
  rw [gx_w_get, List.getElem?_set, List.getElem?_set, gx_w_get, gx_w_len]
  by_cases hik : k = i
  · subst hik
    by_cases hl : k < h.length
    · simp [hl]
    · simp [hl]
  · simp [hik]
-- no cell but those that are there is named
def gx_ok (n : Nat) : Value → Prop
  | .ref k => k < n
  | _ => True
def gx_oka (n : Nat) : vp_A → Prop
  | (_, .inr (.inr (.inr (.inr f)))) => ∀ j k, f j = some k → k < n
  | _ => True
def gx_okE (n : Nat) : gx_E → Prop
  | .inl (_, x) => gx_oka n x
  | .inr (_, fs) => ∀ v ∈ fs, gx_ok n v
def gx_okH (h : gx_H) : Prop := ∀ (k : Nat) (e : gx_E), h[k]? = some e → gx_okE h.length e
theorem gx_ok.le {n n' : Nat} {v : Value} (h : gx_ok n v) (hn : n ≤ n') : gx_ok n' v := by
  cases v with
  | ref k => exact Nat.lt_of_lt_of_le h hn
  | _ => trivial
theorem gx_oka.le {n n' : Nat} {x : vp_A} (h : gx_oka n x) (hn : n ≤ n') : gx_oka n' x := by
  obtain ⟨k, a | a | a | a | a⟩ := x
  · trivial
  · trivial
  · trivial
  · trivial
  · exact fun j k hj => Nat.lt_of_lt_of_le (h j k hj) hn
theorem gx_okE.le {n n' : Nat} {x : gx_E} (h : gx_okE n x) (hn : n ≤ n') : gx_okE n' x := by
  obtain ⟨t, a⟩ | ⟨ci, fs⟩ := x
  · exact gx_oka.le (x := a) h hn
  · exact fun v hv => gx_ok.le (h v hv) hn
theorem gx_v.ext {sp ad ad' : Nat → Nat} {n : Nat} {v : Value} (h : gx_ok n v) (ha : ∀ k, k < n → ad' k = ad k) : gx_v sp ad' v = gx_v sp ad v := by
  cases v with
  | ref k => exact congrArg Value.ref (ha k h)
  | _ => rfl
theorem gx_a.ext {ad ad' : Nat → Nat} {n : Nat} {x : vp_A} (h : gx_oka n x) (ha : ∀ k, k < n → ad' k = ad k) : gx_a ad' x = gx_a ad x := by
  obtain ⟨k, a | a | a | a | a⟩ := x
  · rfl
  · rfl
  · rfl
  · rfl
  · show (k, Sum.inr (Sum.inr (Sum.inr (Sum.inr (fun j => (a j).map ad'))))) = (k, Sum.inr (Sum.inr (Sum.inr (Sum.inr (fun j => (a j).map ad)))))
    have e : (fun j => (a j).map ad') = (fun j => (a j).map ad) := by
      funext j
      cases hj : a j with
      | none => rfl
      | some i => exact congrArg some (ha i (h j i hj))
    rw [e]
theorem gx_c.ext {dT : Nat → ClassId} {sp ad ad' : Nat → Nat} {n : Nat} {x : gx_E} (h : gx_okE n x) (ha : ∀ k, k < n → ad' k = ad k) : gx_c dT sp ad' x = gx_c dT sp ad x := by
  obtain ⟨t, a⟩ | ⟨ci, fs⟩ := x
  · show Sum.inl (dT t, gx_a ad' a) = Sum.inl (dT t, gx_a ad a)
    rw [gx_a.ext (x := a) h ha]
  · show Sum.inr (ci, fs.map (gx_v sp ad')) = Sum.inr (ci, fs.map (gx_v sp ad))
    rw [List.map_congr_left (fun v hv => gx_v.ext (h v hv) ha)]
theorem gx_w.ext {dT : Nat → ClassId} {sp ad ad' : Nat → Nat} {h : gx_H} (hok : gx_okH h) (ha : ∀ k, k < h.length → ad' k = ad k) : gx_w dT sp ad' h = gx_w dT sp ad h := by
  refine List.ext_getElem? fun i => ?_
  rw [gx_w_get, gx_w_get]
  cases hi : h[i]? with
  | none => rfl
  | some e =>
    have hl : i < h.length := (List.getElem?_eq_some_iff.mp hi).1
    show some (ad' i, gx_c dT sp ad' e) = some (ad i, gx_c dT sp ad e)
    rw [ha i hl, gx_c.ext (hok i e hi) ha]
theorem gx_w.push {dT : Nat → ClassId} {sp ad ad' : Nat → Nat} {h : gx_H} (e : gx_E) (hok : gx_okH h) (ha : ∀ k, k < h.length → ad' k = ad k) : gx_w dT sp ad' (h ++ [e]) = gx_w dT sp ad h ++ [(ad' h.length, gx_c dT sp ad' e)] := by
  rw [← gx_w.ext (dT := dT) (sp := sp) hok ha]
  unfold gx_w
  rw [List.mapIdx_append]
  simp
theorem gx_okH.set {h : gx_H} {k : Nat} {e : gx_E} (hok : gx_okH h) (he : gx_okE h.length e) : gx_okH (h.set k e) := by
  intro i x hi
  rw [List.length_set]
  rw [List.getElem?_set] at hi
  by_cases hik : k = i
  · rw [if_pos hik] at hi
    by_cases hl : k < h.length
    · rw [if_pos hl] at hi
      cases hi
      exact he
    · rw [if_neg hl] at hi
      cases hi
  · rw [if_neg hik] at hi
    exact hok i x hi
theorem gx_okH.push {h : gx_H} {e : gx_E} (hok : gx_okH h) (he : gx_okE (h.length + 1) e) : gx_okH (h ++ [e]) := by
  intro i x hi
  rw [List.length_append]
  by_cases hl : i < h.length
  · rw [List.getElem?_append_left hl] at hi
    exact (hok i x hi).le (by simp)
  · rw [List.getElem?_append_right (by omega)] at hi
    have hz : i - h.length < 1 := (List.getElem?_eq_some_iff.mp hi).1
    have h0 : i - h.length = 0 := by omega
    rw [h0] at hi
    cases hi
    exact he
-- the kit's context; what is the same all through a method: (dC, dI), the array classes' numbers by tag, the special cells, what may change, how many cells there were, where they lay
abbrev gx_C : Type := Program × Launch × Env × Room × State × MethodId × Array Value × List Frame × Method × Code
abbrev gx_D : Type := va_G × (Nat → ClassId) × (Nat → Nat) × (Nat → Prop) × Nat × (Nat → Nat)
-- of a method: the classes, the arrays' element types by tag, what holds of old cells, its words, its code, its name, its locals, what it returns
abbrev gx_M : Type := List vw_C × List FieldType × ((Nat → Nat) → (Nat → Prop) → State → Heap → Prop) × List Cond × ByteArray × MethodName × Nat × Option FieldType
def gx_ty (dT : Nat → ClassId) (tyl : List FieldType) : List (ClassId × FieldType) := tyl.mapIdx (fun k ty => (dT k, ty))
theorem gx_ty_at {dT : Nat → ClassId} {tyl : List FieldType} {t : Nat} {ty : FieldType} (h : tyl[t]? = some ty) : (gx_ty dT tyl)[t]? = some (dT t, ty) := by
  unfold gx_ty
  rw [List.getElem?_mapIdx, h]
  rfl
/-- a step of the machine that turns on the code alone -/
def gx_go (cc : ByteArray) (g g' : MethodId → JFrame) : Prop := ∀ (p : Program) (l : Launch) (e : Env) (R : Room) (s : State) (m : MethodId) (args : Array Value) (below : List Frame) (meth : Method) (c : Code) (H : Heap) (locs : List Loc) (cells slots : Nat) (Fin : State → Prop), p.tables.exec = Jvm.exec → c.code = cc → W p l e R s m args below meth c H locs cells slots Fin (g' m) → W p l e R s m args below meth c H locs cells slots Fin (g m)
/-- heap -/
def gx_Rh (cl : List vw_C) (y : gx_D) (s : State) (h : gx_H) (ad : Nat → Nat) (H : Heap) (locs : List Loc) : Prop := match y with
  | (D, dT, sp, A, n0, ad0) => va_P D cl (gx_w dT sp ad h) H ∧ va_D A (gx_w dT sp ad h) ∧ va_S A s.heap H locs ∧ gx_okH h ∧ n0 ≤ h.length ∧ ∀ k, k < n0 → ad k = ad0 k
/-- locals -/
def gx_Rv (sp : Nat → Nat) (nL : Nat) (lv : List (Option Value)) (n : Nat) (ad : Nat → Nat) (ls : Array Slot) : Prop :=
  ls.size = nL ∧ lv_wf ls ∧ lv.length ≤ nL ∧ ∀ (i : Nat) (v : Value), lv[i]? = some (some v) → ls[i]? = some (.val (gx_v sp ad v)) ∧ gx_ok n v ∧ v.category = 1
def gx_Rs (st : List Value) (n : Nat) : Prop := ∀ v ∈ st, gx_ok n v
def gx_Cx (z : gx_M) (x : gx_C) (y : gx_D) : Prop := match z, x, y with
  | (cl, tyl, G, Ts, cc, my, nL, ret), (p, _, _, _, s, m, args, _, meth, c), (D, dT, sp, A, _, _) => (p.tables.exec = Jvm.exec ∧ c.code = cc ∧ c.maxLocals = nL ∧ s.vm.findClass my.cls = some m.cls ∧ meth.name = my.name ∧ meth.sig.returnType = ret) ∧ (∀ w ∈ Ts, w.before args s = true) ∧ va_K D cl (gx_ty dT tyl) s ∧ (∀ q, s.heap.size ≤ q → A q) ∧ meth.locks = false ∧ G sp A s s.heap
/-- from the state S the machine comes to Fin -/
def gx_Gd (z : gx_M) (x : gx_C) (y : gx_D) (Fin : State → Prop) (S : gx_S) : Prop := match z, x, y, S with
  | (cl, _, _, _, _, _, nL, _), (p, l, e, R, s, m, args, below, meth, c), (D, dT, sp, A, n0, ad0), (pc, lv, st, h, bc, bs) => ∀ (ad : Nat → Nat) (H : Heap) (locs : List Loc) (ls : Array Slot),
    gx_Rh cl (D, dT, sp, A, n0, ad0) s h ad H locs → gx_Rv sp nL lv h.length ad ls → gx_Rs st h.length → bc ≤ R.cells → bs ≤ R.slots → W p l e R s m args below meth c H locs (R.cells - bc) (R.slots - bs) Fin (F0 m pc ls (st.map (gx_v sp ad)))
/-- an instruction that neither calls nor ends is right at pc -/
def gx_s1 (z : gx_M) (pc : Nat) (T : gx_T) : Prop := ∀ (x : gx_C) (y : gx_D) (Fin : State → Prop) (lv : List (Option Value)) (st : List Value) (h : gx_H) (bc bs : Nat) (K : gx_S → Prop) (Q : gx_R → Prop) (C : Nat → gx_S → (gx_R → Prop) → Prop),
  gx_Cx z x y → T (pc, lv, st, h, bc, bs) K Q C → (∀ S', K S' → gx_Gd z x y Fin S') → gx_Gd z x y Fin (pc, lv, st, h, bc, bs)
