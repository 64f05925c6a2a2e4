/-! Rules that need one another in an order: where they end, what they capture, what is met. -/
section GU
variable {L : Nat} {x : Nat → Nat} {e e' : Nat → Nat → Option Nat} {Em : Nat → Bool} {A : Nat → Prop} {R : Nat → Option gt_T} {o : Nat → Nat}
theorem gt_tn_s (m : Nat → Option Nat) (n : Nat) (b : Bool) (p : Nat) : gt_tn m (n + 1) b p = (match m p with | none => if b then some p else none | some q => gt_tn m n true q) := rfl
theorem gt_tp_s (m : Nat → Option Nat) (n p : Nat) : gt_tp m (n + 1) p = p :: (match m p with | none => [] | some q => gt_tp m n q) := rfl
/-- enough turns: one more changes nothing -/
theorem gt_tn_more {m : Nat → Option Nat} (hm : ∀ p q, p ≤ L → m p = some q → p < q ∧ q ≤ L) : ∀ (n : Nat) (b : Bool) (p : Nat), p ≤ L → L - p < n → gt_tn m (n + 1) b p = gt_tn m n b p ∧ gt_tp m (n + 1) p = gt_tp m n p
  | 0, b, p, hp, h => absurd h (Nat.not_lt_zero _)
  | n + 1, b, p, hp, h => by
    rw [gt_tn_s m (n + 1), gt_tp_s m (n + 1), gt_tn_s m n, gt_tp_s m n]
    cases h1 : m p with
    | none => exact ⟨rfl, rfl⟩
    | some q =>
      have h2 := hm p q hp h1
      have h3 := gt_tn_more hm n true q h2.2 (by omega)
      exact ⟨h3.1, by simp only [h3.2]⟩
theorem gt_tn_roll {m : Nat → Option Nat} (hm : ∀ p q, p ≤ L → m p = some q → p < q ∧ q ≤ L) {n : Nat} (b : Bool) {p : Nat} (hp : p ≤ L) (hn : L - p < n) :
    gt_tn m n b p = (match m p with | none => if b then some p else none | some q => gt_tn m n true q) ∧ gt_tp m n p = p :: (match m p with | none => [] | some q => gt_tp m n q) := by
  cases n with
  | zero => exact absurd hn (Nat.not_lt_zero _)
  | succ n =>
    rw [gt_tn_s m n, gt_tp_s m n]
    cases h1 : m p with
    | none => exact ⟨rfl, rfl⟩
    | some q =>
      have h2 := hm p q hp h1
      have h3 := gt_tn_more hm n true q h2.2 (by omega)
      exact ⟨by simp only [h3.1], by simp only [h3.2]⟩
/-- the rules of A are defined, need only one another, start only with those before them, and don't go round -/
def gt_good (R : Nat → Option gt_T) (Em : Nat → Bool) (A : Nat → Prop) (o : Nat → Nat) : Prop := ∀ r, A r → o r < 4 ∧ ∃ t, R r = some t ∧ (gt_emp Em t = true → Em r = true) ∧ (∀ r', gt_nms t r' = true → A r') ∧ (∀ r', gt_sts Em t r' = true → o r' < o r) ∧ gt_grd Em t = false
/-- where rules end, to a depth -/
def gt_E (L : Nat) (x : Nat → Nat) (R : Nat → Option gt_T) : Nat → Nat → Nat → Option Nat
  | 0, _, _ => none
  | n + 1, r, p => match R r with
    | none => none
    | some t => gt_en L x (gt_E L x R n) t p
theorem gt_E_ok (hg : gt_good R Em A o) : ∀ n, gt_okE L Em A (gt_E L x R n)
  | 0 => fun r p q _ _ h => by cases h
  | n + 1 => fun r p q hA hp h => by
    obtain ⟨_, t, ht, h1, h2, _, _⟩ := hg r hA
    unfold gt_E at h
    rw [ht] at h
    have h3 := gt_en_ok (gt_E_ok hg n) t h2 p q hp h
    refine ⟨h3.1, h3.2.1, fun hE => h3.2.2 ?_⟩
    cases h4 : gt_emp Em t with
    | false => rfl
    | true => rw [h1 h4] at hE; cases hE
theorem gt_E_same (hg : gt_good R Em A o) : ∀ (k r p n m : Nat), A r → p ≤ L → 4 * (L - p) + o r < k → k ≤ n → k ≤ m → gt_E L x R n r p = gt_E L x R m r p
  | 0, r, p, n, m, hA, hp, hk, _, _ => absurd hk (Nat.not_lt_zero _)
  | k + 1, r, p, n, m, hA, hp, hk, hn, hm => by
    obtain ⟨n, rfl⟩ : ∃ n', n = n' + 1 := ⟨n - 1, by omega⟩
    obtain ⟨m, rfl⟩ : ∃ m', m = m' + 1 := ⟨m - 1, by omega⟩
    obtain ⟨_, t, ht, h1, h2, h3, _⟩ := hg r hA
    rw [gt_E, gt_E, ht]
    refine (gt_en_congr t p (fun r' p' h' => ?_)).1
    have h4 := gt_ev_in (gt_E_ok hg n) t h2 p hp r' p' h'
    have hA' := h2 r' h4.1
    refine gt_E_same hg k r' p' n m hA' h4.2.2.1 ?_ (by omega) (by omega)
    by_cases hpp : p' = p
    · have := h3 r' (h4.2.2.2 hpp)
      subst hpp
      omega
    · have := (hg r' hA').1
      omega
/-- where the rules end -/
def gt_Ed (L : Nat) (x : Nat → Nat) (R : Nat → Option gt_T) : Nat → Nat → Option Nat := gt_E L x R 40
theorem gt_Ed_ok (hg : gt_good R Em A o) : gt_okE L Em A (gt_Ed L x R) := gt_E_ok hg 40
theorem gt_Ed_fix (hg : gt_good R Em A o) (hL : L ≤ 9) {r p : Nat} {t : gt_T} (hA : A r) (hp : p ≤ L) (ht : R r = some t) : gt_Ed L x R r p = gt_en L x (gt_Ed L x R) t p := by
  have h1 := gt_E_same (x := x) hg 40 r p 40 41 hA hp (by have := (hg r hA).1; omega) (by omega) (by omega)
  unfold gt_Ed
  rw [h1, gt_E, ht]
/-- the captures of the rules, to a depth -/
def gt_C (L : Nat) (x : Nat → Nat) (R : Nat → Option gt_T) : Nat → Nat → Nat → List (Nat × Nat)
  | 0, _, _ => []
  | n + 1, r, p => match R r with
    | none => []
    | some t => if (gt_Ed L x R r p).isSome then gt_ca L x (gt_Ed L x R) (gt_C L x R n) t p else []
theorem gt_C_same (hg : gt_good R Em A o) : ∀ (k r p n m : Nat), A r → p ≤ L → 4 * (L - p) + o r < k → k ≤ n → k ≤ m → gt_C L x R n r p = gt_C L x R m r p
  | 0, r, p, n, m, hA, hp, hk, _, _ => absurd hk (Nat.not_lt_zero _)
  | k + 1, r, p, n, m, hA, hp, hk, hn, hm => by
    obtain ⟨n, rfl⟩ : ∃ n', n = n' + 1 := ⟨n - 1, by omega⟩
    obtain ⟨m, rfl⟩ : ∃ m', m = m' + 1 := ⟨m - 1, by omega⟩
    obtain ⟨_, t, ht, h1, h2, h3, _⟩ := hg r hA
    rw [gt_C, gt_C, ht]
    have h0 : gt_ca L x (gt_Ed L x R) (gt_C L x R n) t p = gt_ca L x (gt_Ed L x R) (gt_C L x R m) t p := by
      refine gt_ca_congr t p (fun r' p' h' => ⟨rfl, ?_⟩)
      have h4 := gt_ev_in (gt_Ed_ok hg) t h2 p hp r' p' h'
      have hA' := h2 r' h4.1
      refine gt_C_same hg k r' p' n m hA' h4.2.2.1 ?_ (by omega) (by omega)
      by_cases hpp : p' = p
      · have := h3 r' (h4.2.2.2 hpp)
        subst hpp
        omega
      · have := (hg r' hA').1
        omega
    simp only [h0]
def gt_Cd (L : Nat) (x : Nat → Nat) (R : Nat → Option gt_T) : Nat → Nat → List (Nat × Nat) := gt_C L x R 40
theorem gt_Cd_fix (hg : gt_good R Em A o) (hL : L ≤ 9) {r p : Nat} {t : gt_T} (hA : A r) (hp : p ≤ L) (ht : R r = some t) : gt_Cd L x R r p = if (gt_Ed L x R r p).isSome then gt_ca L x (gt_Ed L x R) (gt_Cd L x R) t p else [] := by
  have h1 := gt_C_same (x := x) hg 40 r p 40 41 hA hp (by have := (hg r hA).1; omega) (by omega) (by omega)
  unfold gt_Cd
  rw [h1, gt_C, ht]
/-- what is met in matching rule r at p -/
def gt_evR (L : Nat) (x : Nat → Nat) (R : Nat → Option gt_T) (r p : Nat) : List (Nat ⊕ (Nat × Nat)) := match R r with
  | none => []
  | some t => gt_ev L x (gt_Ed L x R) t p
/-- the pairs of a rule and a place that a match goes through -/
def gt_rch (L : Nat) (x : Nat → Nat) (R : Nat → Option gt_T) (a b : Nat × Nat) : Prop := ∀ P : Nat × Nat → Prop, P a → (∀ c d, P c → .inr d ∈ gt_evR L x R c.1 c.2 → P d) → P b
theorem gt_rch.refl {a : Nat × Nat} : gt_rch L x R a a := fun _ h _ => h
theorem gt_rch.tail {a b d : Nat × Nat} (h : gt_rch L x R a b) (hd : .inr d ∈ gt_evR L x R b.1 b.2) : gt_rch L x R a d := fun P h0 h1 => h1 b d (h P h0 h1) hd
theorem gt_rch.trans {a b d : Nat × Nat} (h : gt_rch L x R a b) (h' : gt_rch L x R b d) : gt_rch L x R a d := fun P h0 h1 => h' P (h P h0 h1) h1
theorem gt_rch.head {a b d : Nat × Nat} (hd : .inr b ∈ gt_evR L x R a.1 a.2) (h : gt_rch L x R b d) : gt_rch L x R a d := (gt_rch.refl.tail hd).trans h
/-- one of the pairs is the first, or it is gone to by way of one that the first meets -/
theorem gt_rch.cases {a b : Nat × Nat} (h : gt_rch L x R a b) : b = a ∨ ∃ d, .inr d ∈ gt_evR L x R a.1 a.2 ∧ gt_rch L x R d b := by
  refine h (fun b => b = a ∨ ∃ d, .inr d ∈ gt_evR L x R a.1 a.2 ∧ gt_rch L x R d b) (.inl rfl) (fun c d hc hd => ?_)
  rcases hc with rfl | ⟨d', h1, h2⟩
  · exact .inr ⟨d, hd, .refl⟩
  · exact .inr ⟨d', h1, h2.tail hd⟩
theorem gt_rch.inv (hg : gt_good R Em A o) {r p : Nat} {b : Nat × Nat} (hA : A r) (hp : p ≤ L) (h : gt_rch L x R (r, p) b) : A b.1 ∧ p ≤ b.2 ∧ b.2 ≤ L := by
  refine h (fun b => A b.1 ∧ p ≤ b.2 ∧ b.2 ≤ L) ⟨hA, Nat.le_refl _, hp⟩ (fun c d hc hd => ?_)
  obtain ⟨_, t, ht, _, h2, _, _⟩ := hg c.1 hc.1
  unfold gt_evR at hd
  rw [ht] at hd
  have h4 := gt_ev_in (gt_Ed_ok hg) t h2 c.2 hc.2.2 d.1 d.2 hd
  exact ⟨h2 _ h4.1, by omega, h4.2.2.1⟩
/-- f is one more than the farthest place that was tried in vain (0: there is none) -/
def gt_isF (L : Nat) (x : Nat → Nat) (R : Nat → Option gt_T) (a : Nat × Nat) (f : Nat) : Prop := (∀ b q, gt_rch L x R a b → .inl q ∈ gt_evR L x R b.1 b.2 → q < f) ∧ (f = 0 ∨ ∃ b, gt_rch L x R a b ∧ .inl (f - 1) ∈ gt_evR L x R b.1 b.2)
theorem gt_isF.eq {a : Nat × Nat} {f g : Nat} (hf : gt_isF L x R a f) (hg : gt_isF L x R a g) : f = g := by
  have aux : ∀ f g, gt_isF L x R a f → gt_isF L x R a g → f ≤ g := fun f g hf hg => by
    rcases hf.2 with rfl | ⟨b, h1, h2⟩
    · exact Nat.zero_le _
    · have := hg.1 b _ h1 h2
      omega
  exact Nat.le_antisymm (aux f g hf hg) (aux g f hg hf)
/-- v is the set of the pairs (coded) that the match goes through -/
def gt_isV (L : Nat) (x : Nat → Nat) (R : Nat → Option gt_T) (a : Nat × Nat) (v : Nat → Bool) : Prop := ∀ k, v k = true ↔ ∃ b, gt_rch L x R a b ∧ k = 10 * b.1 + b.2
theorem gt_isV.eq {a : Nat × Nat} {v w : Nat → Bool} (hv : gt_isV L x R a v) (hw : gt_isV L x R a w) : v = w := by
  funext k
  exact Bool.eq_iff_iff.mpr ((hv k).trans (hw k).symm)
/-- how the farthest place of a match comes from what it meets -/
def gt_fold (F : Nat → Nat → Nat) (f : Nat) : List (Nat ⊕ (Nat × Nat)) → Nat
  | [] => f
  | .inl q :: l => gt_fold F (max f (q + 1)) l
  | .inr d :: l => gt_fold F (max f (F d.1 d.2)) l
theorem gt_fold_append (F : Nat → Nat → Nat) : ∀ (l l' : List (Nat ⊕ (Nat × Nat))) (f : Nat), gt_fold F f (l ++ l') = gt_fold F (gt_fold F f l) l'
  | [], _, _ => rfl
  | .inl _ :: l, l', _ => gt_fold_append F l l' _
  | .inr _ :: l, l', _ => gt_fold_append F l l' _
theorem gt_fold_ge (F : Nat → Nat → Nat) : ∀ (l : List (Nat ⊕ (Nat × Nat))) (f : Nat), f ≤ gt_fold F f l ∧ (∀ q, .inl q ∈ l → q < gt_fold F f l) ∧ (∀ d, .inr d ∈ l → F d.1 d.2 ≤ gt_fold F f l) ∧ (gt_fold F f l = f ∨ (∃ q, .inl q ∈ l ∧ gt_fold F f l = q + 1) ∨ ∃ d, .inr d ∈ l ∧ gt_fold F f l = F d.1 d.2)
  | [], f => ⟨Nat.le_refl _, (fun q h => absurd h List.not_mem_nil), (fun d h => absurd h List.not_mem_nil), Or.inl rfl⟩
  | .inl q0 :: l, f => by
    obtain ⟨h1, h2, h3, h4⟩ := gt_fold_ge F l (max f (q0 + 1))
    have e : gt_fold F f (.inl q0 :: l) = gt_fold F (max f (q0 + 1)) l := rfl
    rw [e]
    refine ⟨by omega, fun q h => ?_, fun d h => ?_, ?_⟩
    · rcases List.mem_cons.mp h with h | h
      · cases h; omega
      · exact h2 q h
    · rcases List.mem_cons.mp h with h | h
      · cases h
      · exact h3 d h
    · rcases h4 with h4 | ⟨q, h4, h5⟩ | ⟨d, h4, h5⟩
      · by_cases hq : f ≤ q0
        · exact .inr (.inl ⟨q0, List.mem_cons_self, by omega⟩)
        · exact .inl (by omega)
      · exact .inr (.inl ⟨q, List.mem_cons_of_mem _ h4, h5⟩)
      · exact .inr (.inr ⟨d, List.mem_cons_of_mem _ h4, h5⟩)
  | .inr d0 :: l, f => by
    obtain ⟨h1, h2, h3, h4⟩ := gt_fold_ge F l (max f (F d0.1 d0.2))
    have e : gt_fold F f (.inr d0 :: l) = gt_fold F (max f (F d0.1 d0.2)) l := rfl
    rw [e]
    refine ⟨by omega, fun q h => ?_, fun d h => ?_, ?_⟩
    · rcases List.mem_cons.mp h with h | h
      · cases h
      · exact h2 q h
    · rcases List.mem_cons.mp h with h | h
      · cases h; omega
      · exact h3 d h
    · rcases h4 with h4 | ⟨q, h4, h5⟩ | ⟨d, h4, h5⟩
      · by_cases hq : f ≤ F d0.1 d0.2
        · exact .inr (.inr ⟨d0, List.mem_cons_self, by omega⟩)
        · exact .inl (by omega)
      · exact .inr (.inl ⟨q, List.mem_cons_of_mem _ h4, h5⟩)
      · exact .inr (.inr ⟨d, List.mem_cons_of_mem _ h4, h5⟩)
theorem gt_isF_fold {a : Nat × Nat} {F : Nat → Nat → Nat} (hF : ∀ d, .inr d ∈ gt_evR L x R a.1 a.2 → gt_isF L x R d (F d.1 d.2)) : gt_isF L x R a (gt_fold F 0 (gt_evR L x R a.1 a.2)) := by
  obtain ⟨h1, h2, h3, h4⟩ := gt_fold_ge F (gt_evR L x R a.1 a.2) 0
  refine ⟨fun b q hb hq => ?_, ?_⟩
  · rcases hb.cases with rfl | ⟨d, hd, hb⟩
    · exact h2 q hq
    · have := (hF d hd).1 b q hb hq
      have := h3 d hd
      omega
  · rcases h4 with h4 | ⟨q, hq, h5⟩ | ⟨d, hd, h5⟩
    · exact .inl h4
    · exact .inr ⟨a, .refl, by rw [h5]; exact hq⟩
    · rcases (hF d hd).2 with h6 | ⟨b, h6, h7⟩
      · exact .inl (by omega)
      · exact .inr ⟨b, .head hd h6, by rw [h5]; exact h7⟩
/-- the same of the pairs gone through -/
def gt_foldV (V : Nat → Nat → Nat → Bool) (v : Nat → Bool) : List (Nat ⊕ (Nat × Nat)) → Nat → Bool
  | [] => v
  | .inl _ :: l => gt_foldV V v l
  | .inr d :: l => gt_foldV V (fun k => v k || V d.1 d.2 k) l
theorem gt_foldV_append (V : Nat → Nat → Nat → Bool) : ∀ (l l' : List (Nat ⊕ (Nat × Nat))) (v : Nat → Bool), gt_foldV V v (l ++ l') = gt_foldV V (gt_foldV V v l) l'
  | [], _, _ => rfl
  | .inl _ :: l, l', _ => gt_foldV_append V l l' _
  | .inr _ :: l, l', _ => gt_foldV_append V l l' _
theorem gt_foldV_iff (V : Nat → Nat → Nat → Bool) : ∀ (l : List (Nat ⊕ (Nat × Nat))) (v : Nat → Bool) (k : Nat), gt_foldV V v l k = true ↔ v k = true ∨ ∃ d, .inr d ∈ l ∧ V d.1 d.2 k = true
  | [], v, k => ⟨.inl, fun h => by
    rcases h with h | ⟨d, h, _⟩
    · exact h
    · cases h⟩
  | .inl q :: l, v, k => by
    refine (gt_foldV_iff V l v k).trans ⟨fun h => ?_, fun h => ?_⟩
    · rcases h with h | ⟨d, h1, h2⟩
      · exact .inl h
      · exact .inr ⟨d, List.mem_cons_of_mem _ h1, h2⟩
    · rcases h with h | ⟨d, h1, h2⟩
      · exact .inl h
      · rcases List.mem_cons.mp h1 with h1 | h1
        · cases h1
        · exact .inr ⟨d, h1, h2⟩
  | .inr d0 :: l, v, k => by
    refine (gt_foldV_iff V l _ k).trans ⟨fun h => ?_, fun h => ?_⟩
    · rcases h with h | ⟨d, h1, h2⟩
      · rcases Bool.or_eq_true_iff.mp h with h | h
        · exact .inl h
        · exact .inr ⟨d0, List.mem_cons_self, h⟩
      · exact .inr ⟨d, List.mem_cons_of_mem _ h1, h2⟩
    · rcases h with h | ⟨d, h1, h2⟩
      · exact .inl (Bool.or_eq_true_iff.mpr (.inl h))
      · rcases List.mem_cons.mp h1 with h1 | h1
        · cases h1
          exact .inl (Bool.or_eq_true_iff.mpr (.inr h2))
        · exact .inr ⟨d, h1, h2⟩
theorem gt_isV_fold {a : Nat × Nat} {V : Nat → Nat → Nat → Bool} (hV : ∀ d, .inr d ∈ gt_evR L x R a.1 a.2 → gt_isV L x R d (V d.1 d.2)) : gt_isV L x R a (gt_foldV V (fun k => k == 10 * a.1 + a.2) (gt_evR L x R a.1 a.2)) := by
  intro k
  rw [gt_foldV_iff]
  refine ⟨fun h => ?_, fun ⟨b, hb, hk⟩ => ?_⟩
  · rcases h with h | ⟨d, h1, h2⟩
    · exact ⟨a, .refl, by simpa using h⟩
    · obtain ⟨b, h3, h4⟩ := (hV d h1 k).mp h2
      exact ⟨b, .head h1 h3, h4⟩
  · rcases hb.cases with rfl | ⟨d, hd, hb⟩
    · exact .inl (by simpa using hk)
    · exact .inr ⟨d, hd, (hV d hd k).mpr ⟨b, hb, hk⟩⟩
end GU
