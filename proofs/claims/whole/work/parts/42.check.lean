/-! Checking: the empty-able rules, the needed ones, circles. Sets of rules are Nat → Bool. -/
section GV
variable {R : Nat → Option gt_T}
def gt_cnt (S : Nat → Bool) : Nat := (S 0).toNat + (S 1).toNat + (S 2).toNat + (S 3).toNat
theorem gt_cnt_lt {S T : Nat → Bool} (h : ∀ k, S k = true → T k = true) {k : Nat} (hk : k < 4) (h0 : S k = false) (h1 : T k = true) : gt_cnt S < gt_cnt T := by
  have aux : ∀ j, (S j).toNat ≤ (T j).toNat := fun j => by
    cases hj : S j with
    | false => exact Nat.zero_le _
    | true => rw [h j hj]; exact Nat.le_refl _
  have e0 : (S k).toNat = 0 := by rw [h0]; rfl
  have e1 : (T k).toNat = 1 := by rw [h1]; rfl
  have a0 := aux 0
  have a1 := aux 1
  have a2 := aux 2
  have a3 := aux 3
  unfold gt_cnt
  have : k = 0 ∨ k = 1 ∨ k = 2 ∨ k = 3 := by omega
  rcases this with rfl | rfl | rfl | rfl <;> omega
theorem gt_cnt_le (S : Nat → Bool) : gt_cnt S ≤ 4 := by
  have aux : ∀ j, (S j).toNat ≤ 1 := fun j => Bool.toNat_le _
  have a0 := aux 0
  have a1 := aux 1
  have a2 := aux 2
  have a3 := aux 3
  unfold gt_cnt
  omega
theorem gt_cnt_all {S : Nat → Bool} (h : 4 ≤ gt_cnt S) {k : Nat} (hk : k < 4) : S k = true := by
  cases h0 : S k with
  | true => rfl
  | false =>
    have := gt_cnt_lt (S := S) (T := fun _ => true) (fun _ _ => rfl) hk h0 rfl
    have e : gt_cnt (fun _ => true) = 4 := rfl
    omega
/-- four rounds of what only adds rules are enough -/
theorem gt_four {F : (Nat → Bool) → Nat → Bool} (hi : ∀ S k, S k = true → F S k = true) (hb : ∀ S k, F S k = true → S k = true ∨ k < 4) (S : Nat → Bool) : F (F (F (F (F S)))) = F (F (F (F S))) := by
  have step : ∀ (S : Nat → Bool), F S = S ∨ gt_cnt S < gt_cnt (F S) := fun S => by
    by_cases h : F S = S
    · exact .inl h
    · right
      have h1 : ∃ k, F S k ≠ S k := Classical.byContradiction fun hn => h (funext fun k => Classical.byContradiction fun hk => hn ⟨k, hk⟩)
      obtain ⟨k, hk⟩ := h1
      cases h2 : S k with
      | true => exact absurd ((hi S k h2).trans h2.symm) hk
      | false =>
        cases h3 : F S k with
        | false => exact absurd (h3.trans h2.symm) hk
        | true =>
          rcases hb S k h3 with h4 | h4
          · rw [h2] at h4; cases h4
          · exact gt_cnt_lt (hi S) h4 h2 h3
  have full : ∀ (S : Nat → Bool), 4 ≤ gt_cnt S → F S = S := fun S h => by
    rcases step S with h1 | h1
    · exact h1
    · have := gt_cnt_le (F S); omega
  rcases step S with h | h0
  · rw [h, h, h, h, h]
  rcases step (F S) with h | h1
  · rw [h, h, h, h]
  rcases step (F (F S)) with h | h2
  · rw [h, h, h]
  rcases step (F (F (F S))) with h | h3
  · rw [h, h]
  exact full _ (by omega)
/-- what is reached from a set by U -/
def gt_s1 (U : Nat → Nat → Bool) (r : Nat) (S : Nat → Bool) : Nat → Bool := fun k => S k || (S r && U r k)
def gt_s4 (U : Nat → Nat → Bool) (S : Nat → Bool) : Nat → Bool := gt_s1 U 3 (gt_s1 U 2 (gt_s1 U 1 (gt_s1 U 0 S)))
def gt_clo (U : Nat → Nat → Bool) (S : Nat → Bool) : Nat → Bool := gt_s4 U (gt_s4 U (gt_s4 U (gt_s4 U S)))
theorem gt_s1_in {U : Nat → Nat → Bool} {r : Nat} {S : Nat → Bool} {k : Nat} (h : S k = true) : gt_s1 U r S k = true := by simp [gt_s1, h]
theorem gt_s4_in {U : Nat → Nat → Bool} {S : Nat → Bool} {k : Nat} (h : S k = true) : gt_s4 U S k = true := gt_s1_in (gt_s1_in (gt_s1_in (gt_s1_in h)))
theorem gt_clo_in {U : Nat → Nat → Bool} {S : Nat → Bool} {k : Nat} (h : S k = true) : gt_clo U S k = true := gt_s4_in (gt_s4_in (gt_s4_in (gt_s4_in h)))
theorem gt_s1_least {U : Nat → Nat → Bool} {r : Nat} {S : Nat → Bool} {P : Nat → Prop} (h : ∀ k, S k = true → P k) (hc : ∀ a b, P a → U a b = true → P b) : ∀ k, gt_s1 U r S k = true → P k := fun k hk => by
  rcases Bool.or_eq_true_iff.mp hk with h1 | h1
  · exact h k h1
  · obtain ⟨h2, h3⟩ := Bool.and_eq_true_iff.mp h1
    exact hc r k (h r h2) h3
theorem gt_s4_least {U : Nat → Nat → Bool} {S : Nat → Bool} {P : Nat → Prop} (h : ∀ k, S k = true → P k) (hc : ∀ a b, P a → U a b = true → P b) : ∀ k, gt_s4 U S k = true → P k :=
  gt_s1_least (gt_s1_least (gt_s1_least (gt_s1_least h hc) hc) hc) hc
/-- the closure is the least -/
theorem gt_clo_least {U : Nat → Nat → Bool} {S : Nat → Bool} {P : Nat → Prop} (h : ∀ k, S k = true → P k) (hc : ∀ a b, P a → U a b = true → P b) : ∀ k, gt_clo U S k = true → P k :=
  gt_s4_least (gt_s4_least (gt_s4_least (gt_s4_least h hc) hc) hc) hc
theorem gt_clo_closed {U : Nat → Nat → Bool} (hU : ∀ r k, U r k = true → r < 4 ∧ k < 4) {S : Nat → Bool} {r k : Nat} (h : gt_clo U S r = true) (hrk : U r k = true) : gt_clo U S k = true := by
  have h4 := gt_four (F := gt_s4 U) (fun S k h => gt_s4_in h) (fun S k h => gt_s4_least (S := S) (P := fun k => S k = true ∨ k < 4) (fun k h => .inl h) (fun a b _ h => .inr (hU a b h).2) k h) S
  have e : gt_s4 U (gt_clo U S) k = gt_clo U S k := congrFun h4 k
  rw [← e]
  have hr := (hU r k hrk).1
  have : r = 0 ∨ r = 1 ∨ r = 2 ∨ r = 3 := by omega
  have st : ∀ {T : Nat → Bool} (r : Nat), T r = true → U r k = true → gt_s1 U r T k = true := fun r h1 h2 => by simp [gt_s1, h1, h2]
  rcases this with rfl | rfl | rfl | rfl
  · exact gt_s1_in (gt_s1_in (gt_s1_in (st 0 h hrk)))
  · exact gt_s1_in (gt_s1_in (st 1 (gt_s1_in h) hrk))
  · exact gt_s1_in (st 2 (gt_s1_in (gt_s1_in h)) hrk)
  · exact st 3 (gt_s1_in (gt_s1_in (gt_s1_in h))) hrk
-- the empty-able rules
def gt_e1 (R : Nat → Option gt_T) (r : Nat) (E : Nat → Bool) : Nat → Bool := fun k => E k || (k == r && (match R r with | some t => gt_emp E t | none => false))
def gt_e4 (R : Nat → Option gt_T) (E : Nat → Bool) : Nat → Bool := gt_e1 R 3 (gt_e1 R 2 (gt_e1 R 1 (gt_e1 R 0 E)))
/-- the empty-able rules -/
def gt_Em (R : Nat → Option gt_T) : Nat → Bool := gt_e4 R (gt_e4 R (gt_e4 R (gt_e4 R (fun _ => false))))
theorem gt_emp_mono {E E' : Nat → Bool} (h : ∀ k, E k = true → E' k = true) (t : gt_T) : gt_emp E t = true → gt_emp E' t = true := by
  induction t with
  | cat n k => exact id
  | parser n => exact h _
  | const n => exact id
  | unary n a ih => exact ih
  | nodeWithAntiquot s n a ih => exact ih
  | node n k a ih =>
    intro hk
    rcases Bool.or_eq_true_iff.mp hk with h1 | h1
    · exact Bool.or_eq_true_iff.mpr (.inl h1)
    · exact Bool.or_eq_true_iff.mpr (.inr (ih h1))
  | trailingNode n b _ a ih => exact id
  | sepBy a _ b _ iha ihb =>
    intro hk
    obtain ⟨h1, h2⟩ := Bool.and_eq_true_iff.mp hk
    exact Bool.and_eq_true_iff.mpr ⟨iha h1, ihb h2⟩
  | sepBy1 a _ b _ iha ihb =>
    intro hk
    rcases Bool.or_eq_true_iff.mp hk with h1 | h1
    · exact Bool.or_eq_true_iff.mpr (.inl (iha h1))
    · exact Bool.or_eq_true_iff.mpr (.inr (ihb h1))
  | _ => exact id
/-- what is empty-able by the document's sentences alone -/
def gt_le (R : Nat → Option gt_T) (r : Nat) : Prop := ∀ E : Nat → Bool, (∀ r t, R r = some t → gt_emp E t = true → E r = true) → E r = true
theorem gt_e1_in {r : Nat} {E : Nat → Bool} {k : Nat} (h : E k = true) : gt_e1 R r E k = true := by simp [gt_e1, h]
theorem gt_e4_in {E : Nat → Bool} {k : Nat} (h : E k = true) : gt_e4 R E k = true := gt_e1_in (gt_e1_in (gt_e1_in (gt_e1_in h)))
theorem gt_le_step {E : Nat → Bool} (h : ∀ k, E k = true → gt_le R k) {r : Nat} {t : gt_T} (ht : R r = some t) (he : gt_emp E t = true) : gt_le R r := fun E' hE' => hE' r t ht (gt_emp_mono (fun k hk => h k hk E' hE') t he)
theorem gt_e1_le {r : Nat} {E : Nat → Bool} (h : ∀ k, E k = true → gt_le R k) : ∀ k, gt_e1 R r E k = true → gt_le R k := fun k hk => by
  rcases Bool.or_eq_true_iff.mp hk with h1 | h1
  · exact h k h1
  · obtain ⟨h2, h3⟩ := Bool.and_eq_true_iff.mp h1
    have e : k = r := by simpa using h2
    subst e
    cases ht : R k with
    | none => rw [ht] at h3; cases h3
    | some t => rw [ht] at h3; exact gt_le_step h ht h3
theorem gt_e4_le {E : Nat → Bool} (h : ∀ k, E k = true → gt_le R k) : ∀ k, gt_e4 R E k = true → gt_le R k := gt_e1_le (gt_e1_le (gt_e1_le (gt_e1_le h)))
theorem gt_Em_le : ∀ k, gt_Em R k = true → gt_le R k := gt_e4_le (gt_e4_le (gt_e4_le (gt_e4_le (fun k h => by cases h))))
/-- only rules 0 .. 3 are there, and named -/
def gt_wf (R : Nat → Option gt_T) : Prop := ∀ r t, R r = some t → r < 4 ∧ ∀ k, gt_nms t k = true → k < 4
theorem gt_Em_closed (hw : gt_wf R) {r : Nat} {t : gt_T} (ht : R r = some t) (he : gt_emp (gt_Em R) t = true) : gt_Em R r = true := by
  have b1 : ∀ (r : Nat) (hr : r < 4) (S : Nat → Bool) (k : Nat), gt_e1 R r S k = true → S k = true ∨ k < 4 := fun r hr S k h => by
    rcases Bool.or_eq_true_iff.mp h with h | h
    · exact .inl h
    · have e : k = r := by simpa using (Bool.and_eq_true_iff.mp h).1
      exact .inr (by omega)
  have h4 := gt_four (F := gt_e4 R) (fun S k h => gt_e4_in h) (fun S k h => by
    rcases b1 3 (by omega) _ k h with h | h
    · rcases b1 2 (by omega) _ k h with h | h
      · rcases b1 1 (by omega) _ k h with h | h
        · exact b1 0 (by omega) _ k h
        · exact .inr h
      · exact .inr h
    · exact .inr h) (fun _ => false)
  have e : gt_e4 R (gt_Em R) r = gt_Em R r := congrFun h4 r
  rw [← e]
  have hr := (hw r t ht).1
  have : r = 0 ∨ r = 1 ∨ r = 2 ∨ r = 3 := by omega
  have st : ∀ {E : Nat → Bool} (r : Nat) (t : gt_T), R r = some t → gt_emp E t = true → gt_e1 R r E r = true := fun r t h1 h2 => by simp [gt_e1, h1, h2]
  rcases this with rfl | rfl | rfl | rfl
  · exact gt_e1_in (gt_e1_in (gt_e1_in (st 0 t ht he)))
  · exact gt_e1_in (gt_e1_in (st 1 t ht (gt_emp_mono (fun k h => gt_e1_in h) t he)))
  · exact gt_e1_in (st 2 t ht (gt_emp_mono (fun k h => gt_e1_in (gt_e1_in h)) t he))
  · exact st 3 t ht (gt_emp_mono (fun k h => gt_e1_in (gt_e1_in (gt_e1_in h))) t he)
/-- what is closed and has nothing but what it must is the set of the empty-able rules -/
theorem gt_Em_unique (hw : gt_wf R) {E : Nat → Bool} (hc : ∀ r t, R r = some t → gt_emp E t = true → E r = true) (hl : ∀ k, E k = true → gt_le R k) : E = gt_Em R := by
  funext k
  refine Bool.eq_iff_iff.mpr ⟨fun h => hl k h (gt_Em R) (fun r t ht he => gt_Em_closed hw ht he), fun h => gt_Em_le k h E hc⟩
theorem gt_sts_nms {E : Nat → Bool} (t : gt_T) (r : Nat) : gt_sts E t r = true → gt_nms t r = true := by
  induction t with
  | parser n => exact id
  | unary n a ih => exact ih
  | nodeWithAntiquot s n a ih => exact ih
  | node n k a ih => exact ih
  | trailingNode n b _ a ih => exact ih
  | sepBy a _ b _ iha ihb =>
    intro hk
    rcases Bool.or_eq_true_iff.mp hk with h1 | h1
    · exact Bool.or_eq_true_iff.mpr (.inl (iha h1))
    · exact Bool.or_eq_true_iff.mpr (.inr (ihb (Bool.and_eq_true_iff.mp h1).2))
  | sepBy1 a _ b _ iha ihb =>
    intro hk
    rcases Bool.or_eq_true_iff.mp hk with h1 | h1
    · exact Bool.or_eq_true_iff.mpr (.inl (iha h1))
    · exact Bool.or_eq_true_iff.mpr (.inr (ihb h1))
  | _ => exact fun h => by cases h
/-- the rules whose names stand in a rule's pattern -/
def gt_U (R : Nat → Option gt_T) (r k : Nat) : Bool := match R r with
  | some t => gt_nms t k
  | none => false
/-- those that it starts with -/
def gt_ST (R : Nat → Option gt_T) (r k : Nat) : Bool := match R r with
  | some t => gt_sts (gt_Em R) t k
  | none => false
def gt_GR (R : Nat → Option gt_T) (r : Nat) : Bool := match R r with
  | some t => gt_grd (gt_Em R) t
  | none => false
theorem gt_U_lt (hw : gt_wf R) : ∀ r k, gt_U R r k = true → r < 4 ∧ k < 4 := fun r k h => by
  unfold gt_U at h
  cases ht : R r with
  | none => rw [ht] at h; cases h
  | some t => rw [ht] at h; exact ⟨(hw r t ht).1, (hw r t ht).2 k h⟩
theorem gt_ST_U : ∀ r k, gt_ST R r k = true → gt_U R r k = true := fun r k h => by
  unfold gt_ST at h
  unfold gt_U
  cases ht : R r with
  | none => rw [ht] at h; cases h
  | some t => rw [ht] at h; exact gt_sts_nms t k h
/-- the rule itself and those that it uses -/
def gt_N (R : Nat → Option gt_T) (r : Nat) : Nat → Bool := gt_clo (gt_U R) (fun k => k == r)
def gt_any (f : Nat → Bool) : Bool := f 0 || f 1 || f 2 || f 3
theorem gt_any_iff {f : Nat → Bool} : gt_any f = true ↔ ∃ k, k < 4 ∧ f k = true := by
  unfold gt_any
  constructor
  · intro h
    cases h0 : f 0
    · cases h1 : f 1
      · cases h2 : f 2
        · rw [h0, h1, h2] at h
          exact ⟨3, by omega, by simpa using h⟩
        · exact ⟨2, by omega, h2⟩
      · exact ⟨1, by omega, h1⟩
    · exact ⟨0, by omega, h0⟩
  · rintro ⟨k, hk, h⟩
    have : k = 0 ∨ k = 1 ∨ k = 2 ∨ k = 3 := by omega
    rcases this with rfl | rfl | rfl | rfl <;> simp [h]
def gt_open (R : Nat → Option gt_T) (r : Nat) : Bool := gt_any (fun k => gt_N R r k && (R k).isNone)
def gt_circ (R : Nat → Option gt_T) (r : Nat) : Bool := gt_any (fun k => gt_N R r k && gt_clo (gt_ST R) (gt_ST R k) k)
def gt_loop (R : Nat → Option gt_T) (r : Nat) : Bool := gt_any (fun k => gt_N R r k && gt_GR R k)
/-- what checking a rule answers -/
def gt_chk (R : Nat → Option gt_T) (r : Nat) : Nat := if gt_open R r then 1 else if gt_circ R r then 2 else if gt_loop R r then 3 else 0
-- arranging
/-- rule r, of those left, can be put behind the arranged ones -/
def gt_free (R : Nat → Option gt_T) (left : Nat → Bool) (r : Nat) : Bool := left r && ((R r).isSome && !(gt_any (fun k => gt_ST R r k && left k)))
def gt_k1 (R : Nat → Option gt_T) (r : Nat) (a : (Nat → Bool) × List Nat) : (Nat → Bool) × List Nat := if gt_free R a.1 r then (fun k => a.1 k && !(k == r), a.2 ++ [r]) else a
def gt_k4 (R : Nat → Option gt_T) (a : (Nat → Bool) × List Nat) : (Nat → Bool) × List Nat := gt_k1 R 3 (gt_k1 R 2 (gt_k1 R 1 (gt_k1 R 0 a)))
def gt_kahn (R : Nat → Option gt_T) (N : Nat → Bool) : (Nat → Bool) × List Nat := gt_k4 R (gt_k4 R (gt_k4 R (gt_k4 R (N, []))))
/-- what holds while rules are arranged -/
def gt_kI (R : Nat → Option gt_T) (N : Nat → Bool) (a : (Nat → Bool) × List Nat) : Prop := (∀ k, a.1 k = true → N k = true) ∧ (∀ k, N k = true → a.1 k = true ∨ k ∈ a.2) ∧ (∀ k, k ∈ a.2 → k < 4 ∧ a.1 k = false ∧ N k = true) ∧ a.2.length + gt_cnt a.1 ≤ 4 ∧ (∀ u r v, a.2 = u ++ r :: v → ∀ k, k < 4 → gt_ST R r k = true → N k = true → k ∈ u)
theorem gt_kI_1 {N : Nat → Bool} {a : (Nat → Bool) × List Nat} (h : gt_kI R N a) {r : Nat} (hr : r < 4) : gt_kI R N (gt_k1 R r a) := by
  unfold gt_k1
  cases hf : gt_free R a.1 r with
  | false => simpa using h
  | true =>
    simp only [if_true]
    obtain ⟨h1, h2, h3, h4, h5⟩ := h
    unfold gt_free at hf
    simp only [Bool.and_eq_true, Bool.not_eq_true'] at hf
    obtain ⟨hl, _, hn⟩ := hf
    refine ⟨fun k hk => h1 k (by simp at hk; exact hk.1), fun k hk => ?_, fun k hk => ?_, ?_, fun u r' v e k hk hs hN => ?_⟩
    · rcases h2 k hk with h | h
      · by_cases e : k = r
        · subst e
          exact .inr (by simp)
        · exact .inl (by simp [h, e])
      · exact .inr (by simp [h])
    · rcases List.mem_append.mp hk with hk | hk
      · have := h3 k hk
        exact ⟨this.1, by simp [this.2.1], this.2.2⟩
      · have e : k = r := by simpa using hk
        subst e
        exact ⟨hr, by simp, h1 k hl⟩
    · have := gt_cnt_lt (S := fun k => a.1 k && !(k == r)) (T := a.1) (fun k hk => by simp at hk; exact hk.1) hr (by simp) hl
      simp only [List.length_append, List.length_cons, List.length_nil]
      omega
    · rcases List.append_eq_append_iff.mp e with ⟨w, e1, e2⟩ | ⟨w, e1, e2⟩
      · -- u = a.2 ++ w
        cases w with
        | nil =>
          simp at e2 e1
          obtain ⟨e2, _⟩ := e2
          subst e2
          rw [e1]
          rcases h2 k hN with h | h
          · have h6 : gt_any (fun k => gt_ST R r k && a.1 k) = true := gt_any_iff.mpr ⟨k, hk, by simp [hs, h]⟩
            rw [h6] at hn; cases hn
          · exact h
        | cons w1 w2 =>
          have := congrArg List.length e2
          simp at this
      · -- a.2 = u ++ w
        cases w with
        | nil =>
          simp at e2 e1
          obtain ⟨e2, _⟩ := e2
          subst e2
          rw [← e1]
          rcases h2 k hN with h | h
          · have h6 : gt_any (fun k => gt_ST R r' k && a.1 k) = true := gt_any_iff.mpr ⟨k, hk, by simp [hs, h]⟩
            rw [h6] at hn; cases hn
          · exact h
        | cons w1 w2 =>
          simp at e2
          exact h5 u r' w2 (by rw [e1, e2.1]) k hk hs hN
theorem gt_kI_4 {N : Nat → Bool} {a : (Nat → Bool) × List Nat} (h : gt_kI R N a) : gt_kI R N (gt_k4 R a) := gt_kI_1 (gt_kI_1 (gt_kI_1 (gt_kI_1 h (by omega)) (by omega)) (by omega)) (by omega)
theorem gt_kI_0 (N : Nat → Bool) : gt_kI R N (N, []) := ⟨fun k h => h, fun k h => .inl h, fun k h => absurd h List.not_mem_nil, by simp; exact gt_cnt_le N, fun u r v e => by
  have := congrArg List.length e
  simp at this⟩
theorem gt_kahn_I (N : Nat → Bool) : gt_kI R N (gt_kahn R N) := gt_kI_4 (gt_kI_4 (gt_kI_4 (gt_kI_4 (gt_kI_0 N))))
/-- the left ones alone -/
def gt_f1 (R : Nat → Option gt_T) (r : Nat) (left : Nat → Bool) : Nat → Bool := fun k => left k && !(k == r && gt_free R left r)
theorem gt_k1_left {r : Nat} {a : (Nat → Bool) × List Nat} : (gt_k1 R r a).1 = gt_f1 R r a.1 := by
  unfold gt_k1 gt_f1
  cases gt_free R a.1 r <;> simp
def gt_f4 (R : Nat → Option gt_T) (left : Nat → Bool) : Nat → Bool := gt_f1 R 3 (gt_f1 R 2 (gt_f1 R 1 (gt_f1 R 0 left)))
theorem gt_k4_left {a : (Nat → Bool) × List Nat} : (gt_k4 R a).1 = gt_f4 R a.1 := by
  unfold gt_k4 gt_f4
  rw [gt_k1_left, gt_k1_left, gt_k1_left, gt_k1_left]
theorem gt_f1_sub {r : Nat} {left : Nat → Bool} {k : Nat} (h : gt_f1 R r left k = true) : left k = true := by
  unfold gt_f1 at h
  exact (Bool.and_eq_true_iff.mp h).1
theorem gt_f1_lt {r : Nat} (hr : r < 4) {left : Nat → Bool} {k : Nat} (h : left k = true) (h' : gt_f1 R r left k = false) : k < 4 := by
  unfold gt_f1 at h'
  simp [h] at h'
  omega
/-- after four rounds nothing that is left can be put behind -/
theorem gt_kahn_stuck (N : Nat → Bool) : gt_f4 R (gt_kahn R N).1 = (gt_kahn R N).1 := by
  have h4 := gt_four (F := fun S k => !(gt_f4 R (fun k => !(S k)) k)) (fun S k h => by
      cases h1 : gt_f4 R (fun k => !(S k)) k with
      | false => rfl
      | true =>
        have h2 : (!(S k)) = true := gt_f1_sub (gt_f1_sub (gt_f1_sub (gt_f1_sub h1)))
        rw [h] at h2; cases h2) (fun S k h => by
      cases h0 : S k with
      | true => exact .inl rfl
      | false =>
        right
        have h : gt_f4 R (fun k => !(S k)) k = false := by simpa using h
        have g0 : (fun k => !(S k)) k = true := by simp [h0]
        cases g1 : gt_f1 R 0 (fun k => !(S k)) k with
        | false => exact gt_f1_lt (by omega) g0 g1
        | true =>
          cases g2 : gt_f1 R 1 (gt_f1 R 0 (fun k => !(S k))) k with
          | false => exact gt_f1_lt (by omega) g1 g2
          | true =>
            cases g3 : gt_f1 R 2 (gt_f1 R 1 (gt_f1 R 0 (fun k => !(S k)))) k with
            | false => exact gt_f1_lt (by omega) g2 g3
            | true => exact gt_f1_lt (r := 3) (by omega) g3 h) (fun k => !(N k))
  have e1 : (gt_kahn R N).1 = gt_f4 R (gt_f4 R (gt_f4 R (gt_f4 R N))) := by
    unfold gt_kahn
    rw [gt_k4_left, gt_k4_left, gt_k4_left, gt_k4_left]
  rw [e1]
  have h5 : (fun k => !(gt_f4 R (gt_f4 R (gt_f4 R (gt_f4 R (gt_f4 R N)))) k)) = (fun k => !(gt_f4 R (gt_f4 R (gt_f4 R (gt_f4 R N))) k)) := by
    simpa only [Bool.not_not] using h4
  funext k
  have := congrFun h5 k
  simpa using this
theorem gt_f4_free {left : Nat → Bool} (h : gt_f4 R left = left) {r : Nat} (hr : r < 4) : gt_free R left r = false := by
  have h1 : ∀ k, gt_f4 R left k = true → gt_f1 R 2 (gt_f1 R 1 (gt_f1 R 0 left)) k = true := fun k hk => gt_f1_sub hk
  have s3 : gt_f1 R 2 (gt_f1 R 1 (gt_f1 R 0 left)) = left := funext fun k => Bool.eq_iff_iff.mpr ⟨fun hk => gt_f1_sub (gt_f1_sub (gt_f1_sub hk)), fun hk => h1 k (by rw [h]; exact hk)⟩
  have s2 : gt_f1 R 1 (gt_f1 R 0 left) = left := funext fun k => Bool.eq_iff_iff.mpr ⟨fun hk => gt_f1_sub (gt_f1_sub hk), fun hk => gt_f1_sub (r := 2) (by rw [s3]; exact hk)⟩
  have s1 : gt_f1 R 0 left = left := funext fun k => Bool.eq_iff_iff.mpr ⟨fun hk => gt_f1_sub hk, fun hk => gt_f1_sub (r := 1) (by rw [s2]; exact hk)⟩
  have fr : ∀ r, gt_f1 R r left = left → gt_free R left r = false := fun r hr => by
    cases hf : gt_free R left r with
    | false => rfl
    | true =>
      have h2 : left r = true := (Bool.and_eq_true_iff.mp hf).1
      have h3 := congrFun hr r
      rw [h2] at h3
      simp [gt_f1, hf] at h3
  have : r = 0 ∨ r = 1 ∨ r = 2 ∨ r = 3 := by omega
  rcases this with rfl | rfl | rfl | rfl
  · exact fr 0 s1
  · exact fr 1 (by rw [s1] at s2; exact s2)
  · exact fr 2 (by rw [s2] at s3; exact s3)
  · exact fr 3 (by unfold gt_f4 at h; rw [s3] at h; exact h)
end GV
