/-! Patterns as trees (a type of Lean's own with enough kinds of nodes is taken), and what the document says of them. -/
abbrev gt_T : Type := Lean.ParserDescr
def gt_nm : Lean.Name → Nat
  | .num _ k => k
  | _ => 0
abbrev gt_one (lo hi : Nat) : gt_T := .cat (.num .anonymous lo) hi
abbrev gt_name (r : Nat) : gt_T := .parser (.num .anonymous r)
abbrev gt_pt : gt_T := .const .anonymous
abbrev gt_cap (a : gt_T) : gt_T := .unary .anonymous a
/-- 0: star, 1: plus, 2: maybe -/
abbrev gt_rep (k : Nat) (a : gt_T) : gt_T := .node .anonymous k a
/-- 1: is wanted, 0: is not -/
abbrev gt_look (b : Nat) (a : gt_T) : gt_T := .trailingNode .anonymous b 0 a
abbrev gt_seq (a b : gt_T) : gt_T := .sepBy a "" b false
abbrev gt_ch (a b : gt_T) : gt_T := .sepBy1 a "" b false
/-- a whole sequence (9) or a whole choice (10) -/
abbrev gt_w (k : Nat) (a : gt_T) : gt_T := .nodeWithAntiquot "" (.num .anonymous k) a
/-- empty-able, where of the rules those of E are -/
def gt_emp (E : Nat → Bool) : gt_T → Bool
  | .cat _ _ => false
  | .parser n => E (gt_nm n)
  | .const _ => true
  | .unary _ a => gt_emp E a
  | .nodeWithAntiquot _ _ a => gt_emp E a
  | .node _ k a => !(k == 1) || gt_emp E a
  | .trailingNode _ _ _ _ => true
  | .sepBy a _ b _ => gt_emp E a && gt_emp E b
  | .sepBy1 a _ b _ => gt_emp E a || gt_emp E b
  | _ => false
/-- starts with -/
def gt_sts (E : Nat → Bool) : gt_T → Nat → Bool
  | .parser n, r => r == gt_nm n
  | .unary _ a, r => gt_sts E a r
  | .nodeWithAntiquot _ _ a, r => gt_sts E a r
  | .node _ _ a, r => gt_sts E a r
  | .trailingNode _ _ _ a, r => gt_sts E a r
  | .sepBy a _ b _, r => gt_sts E a r || (gt_emp E a && gt_sts E b r)
  | .sepBy1 a _ b _, r => gt_sts E a r || gt_sts E b r
  | _, _ => false
/-- has a p* or p+ with p empty-able -/
def gt_grd (E : Nat → Bool) : gt_T → Bool
  | .unary _ a => gt_grd E a
  | .nodeWithAntiquot _ _ a => gt_grd E a
  | .node _ k a => (!(k == 2) && gt_emp E a) || gt_grd E a
  | .trailingNode _ _ _ a => gt_grd E a
  | .sepBy a _ b _ => gt_grd E a || gt_grd E b
  | .sepBy1 a _ b _ => gt_grd E a || gt_grd E b
  | _ => false
/-- the names in it -/
def gt_nms : gt_T → Nat → Bool
  | .parser n, r => r == gt_nm n
  | .unary _ a, r => gt_nms a r
  | .nodeWithAntiquot _ _ a, r => gt_nms a r
  | .node _ _ a, r => gt_nms a r
  | .trailingNode _ _ _ a, r => gt_nms a r
  | .sepBy a _ b _, r => gt_nms a r || gt_nms b r
  | .sepBy1 a _ b _, r => gt_nms a r || gt_nms b r
  | _, _ => false
/-- turns of m, n at most; where one fails it ends there if 'enough' -/
def gt_tn (m : Nat → Option Nat) : Nat → Bool → Nat → Option Nat
  | 0, _, p => some p
  | n + 1, enough, p => match m p with
    | none => if enough then some p else none
    | some q => gt_tn m n true q
/-- the places at which m is tried by these turns -/
def gt_tp (m : Nat → Option Nat) : Nat → Nat → List Nat
  | 0, _ => []
  | n + 1, p => p :: (match m p with
    | none => []
    | some q => gt_tp m n q)
def gt_most (k : Nat) : Nat := if k = 2 then 1 else 10
/-- where a match ends; e: where the rules do -/
def gt_en (L : Nat) (x : Nat → Nat) (e : Nat → Nat → Option Nat) : gt_T → Nat → Option Nat
  | .cat n hi, p => if p < L ∧ gt_nm n ≤ x p ∧ x p ≤ hi then some (p + 1) else none
  | .parser n, p => e (gt_nm n) p
  | .const _, p => some p
  | .unary _ a, p => gt_en L x e a p
  | .nodeWithAntiquot _ _ a, p => gt_en L x e a p
  | .node _ k a, p => gt_tn (gt_en L x e a) (gt_most k) (!(k == 1)) p
  | .trailingNode _ b _ a, p => if (gt_en L x e a p).isSome = (b == 1) then some p else none
  | .sepBy a _ b _, p => match gt_en L x e a p with
    | none => none
    | some q => gt_en L x e b q
  | .sepBy1 a _ b _, p => match gt_en L x e a p with
    | none => gt_en L x e b p
    | some q => some q
  | _, _ => none
/-- what is met on the way: places that were tried in vain, and rules at places -/
def gt_ev (L : Nat) (x : Nat → Nat) (e : Nat → Nat → Option Nat) : gt_T → Nat → List (Nat ⊕ (Nat × Nat))
  | .cat n hi, p => if p < L ∧ gt_nm n ≤ x p ∧ x p ≤ hi then [] else [.inl p]
  | .parser n, p => [.inr (gt_nm n, p)]
  | .unary _ a, p => gt_ev L x e a p
  | .nodeWithAntiquot _ _ a, p => gt_ev L x e a p
  | .node _ k a, p => (gt_tp (gt_en L x e a) (gt_most k) p).flatMap (gt_ev L x e a)
  | .trailingNode _ _ _ a, p => gt_ev L x e a p
  | .sepBy a _ b _, p => gt_ev L x e a p ++ (match gt_en L x e a p with
    | none => []
    | some q => gt_ev L x e b q)
  | .sepBy1 a _ b _, p => gt_ev L x e a p ++ (match gt_en L x e a p with
    | none => gt_ev L x e b p
    | some _ => [])
  | _, _ => []
/-- the captures of a match that doesn't fail; c: those of the rules -/
def gt_ca (L : Nat) (x : Nat → Nat) (e : Nat → Nat → Option Nat) (c : Nat → Nat → List (Nat × Nat)) : gt_T → Nat → List (Nat × Nat)
  | .parser n, p => c (gt_nm n) p
  | .const _, p => [(p, p)]
  | .unary _ a, p => (p, (gt_en L x e a p).getD 0) :: gt_ca L x e c a p
  | .nodeWithAntiquot _ _ a, p => gt_ca L x e c a p
  | .node _ k a, p => (gt_tp (gt_en L x e a) (gt_most k) p).flatMap (fun q => if (gt_en L x e a q).isSome then gt_ca L x e c a q else [])
  | .sepBy a _ b _, p => gt_ca L x e c a p ++ (match gt_en L x e a p with
    | none => []
    | some q => gt_ca L x e c b q)
  | .sepBy1 a _ b _, p => match gt_en L x e a p with
    | none => gt_ca L x e c b p
    | some _ => gt_ca L x e c a p
  | _, _ => []
section GT
variable {L : Nat} {x : Nat → Nat} {e e' : Nat → Nat → Option Nat} {c c' : Nat → Nat → List (Nat × Nat)} {Em : Nat → Bool} {A : Nat → Prop}
theorem gt_tn_ok {m : Nat → Option Nat} (hm : ∀ p q, p ≤ L → m p = some q → p ≤ q ∧ q ≤ L) : ∀ (n : Nat) (b : Bool) (p q : Nat), p ≤ L → gt_tn m n b p = some q → p ≤ q ∧ q ≤ L
  | 0, b, p, q, hp, h => by
    cases h
    exact ⟨Nat.le_refl _, hp⟩
  | n + 1, b, p, q, hp, h => by
    unfold gt_tn at h
    cases h1 : m p with
    | none =>
      rw [h1] at h
      cases b <;> simp at h
      omega
    | some q1 =>
      rw [h1] at h
      have h2 := hm p q1 hp h1
      have h3 := gt_tn_ok hm n true q1 q h2.2 h
      omega
theorem gt_tp_ok {m : Nat → Option Nat} (hm : ∀ p q, p ≤ L → m p = some q → p ≤ q ∧ q ≤ L) : ∀ (n p q : Nat), p ≤ L → q ∈ gt_tp m n p → p ≤ q ∧ q ≤ L
  | 0, p, q, hp, h => by cases h
  | n + 1, p, q, hp, h => by
    unfold gt_tp at h
    rcases List.mem_cons.mp h with h | h
    · omega
    · cases h1 : m p with
      | none => rw [h1] at h; cases h
      | some q1 =>
        rw [h1] at h
        have h2 := hm p q1 hp h1
        have h3 := gt_tp_ok hm n q1 q h2.2 h
        omega
/-- rules of A end at a place of the text, not before they begin, and behind it unless they are empty-able -/
def gt_okE (L : Nat) (Em : Nat → Bool) (A : Nat → Prop) (e : Nat → Nat → Option Nat) : Prop := ∀ r p q, A r → p ≤ L → e r p = some q → p ≤ q ∧ q ≤ L ∧ (Em r = false → p < q)
theorem gt_en_ok (he : gt_okE L Em A e) (t : gt_T) : (∀ r, gt_nms t r = true → A r) → ∀ p q, p ≤ L → gt_en L x e t p = some q → p ≤ q ∧ q ≤ L ∧ (gt_emp Em t = false → p < q) := by
  induction t with
  | cat n hi =>
    intro _ p q hp h
    unfold gt_en at h
    split at h
    · cases h; omega
    · cases h
  | parser n =>
    intro hA p q hp h
    exact he _ p q (hA _ (by simp [gt_nms])) hp h
  | const n =>
    intro hA p q hp h
    cases h
    exact ⟨Nat.le_refl _, hp, fun h => by cases h⟩
  | unary n a ih => exact ih
  | nodeWithAntiquot s n a ih => exact ih
  | node n k a ih =>
    intro hA p q hp h
    have hm : ∀ p q, p ≤ L → gt_en L x e a p = some q → p ≤ q ∧ q ≤ L := fun p q hp h => ⟨(ih hA p q hp h).1, (ih hA p q hp h).2.1⟩
    have h1 := gt_tn_ok hm _ _ p q hp h
    refine ⟨h1.1, h1.2, fun hE => ?_⟩
    have hk : k = 1 ∧ gt_emp Em a = false := by simpa [gt_emp] using hE
    obtain ⟨rfl, hE⟩ := hk
    have h2 : gt_tn (gt_en L x e a) (9 + 1) false p = some q := h
    unfold gt_tn at h2
    cases h3 : gt_en L x e a p with
    | none => rw [h3] at h2; cases h2
    | some q1 =>
      rw [h3] at h2
      have h4 := ih hA p q1 hp h3
      have h5 := h4.2.2 hE
      have h6 := gt_tn_ok hm 9 true q1 q h4.2.1 h2
      omega
  | trailingNode n b _ a ih =>
    intro hA p q hp h
    unfold gt_en at h
    split at h
    · cases h
      exact ⟨Nat.le_refl _, hp, fun h => by cases h⟩
    · cases h
  | sepBy a _ b _ iha ihb =>
    intro hA p q hp h
    unfold gt_en at h
    cases h1 : gt_en L x e a p with
    | none => rw [h1] at h; cases h
    | some q1 =>
      rw [h1] at h
      have h2 := iha (fun r hr => hA r (by simp [gt_nms, hr])) p q1 hp h1
      have h3 := ihb (fun r hr => hA r (by simp [gt_nms, hr])) q1 q h2.2.1 h
      refine ⟨by omega, h3.2.1, fun hE => ?_⟩
      cases hEa : gt_emp Em a with
      | false => have := h2.2.2 hEa; omega
      | true =>
        have hEb : gt_emp Em b = false := by simpa [gt_emp, hEa] using hE
        have := h3.2.2 hEb
        omega
  | sepBy1 a _ b _ iha ihb =>
    intro hA p q hp h
    unfold gt_en at h
    cases h1 : gt_en L x e a p with
    | none =>
      rw [h1] at h
      have h3 := ihb (fun r hr => hA r (by simp [gt_nms, hr])) p q hp h
      exact ⟨h3.1, h3.2.1, fun hE => h3.2.2 (by simp [gt_emp] at hE; exact hE.2)⟩
    | some q1 =>
      rw [h1] at h
      cases h
      have h2 := iha (fun r hr => hA r (by simp [gt_nms, hr])) p _ hp h1
      exact ⟨h2.1, h2.2.1, fun hE => h2.2.2 (by simp [gt_emp] at hE; exact hE.1)⟩
  | _ =>
    intro _ p q hp h
    cases h
/-- which rules are met, and where -/
theorem gt_ev_in (he : gt_okE L Em A e) (t : gt_T) : (∀ r, gt_nms t r = true → A r) → ∀ p, p ≤ L → ∀ r' p', .inr (r', p') ∈ gt_ev L x e t p → gt_nms t r' = true ∧ p ≤ p' ∧ p' ≤ L ∧ (p' = p → gt_sts Em t r' = true) := by
  induction t with
  | cat n hi =>
    intro _ p hp r' p' h
    unfold gt_ev at h
    split at h
    · cases h
    · simp at h
  | parser n =>
    intro hA p hp r' p' h
    simp [gt_ev] at h
    obtain ⟨rfl, rfl⟩ := h
    exact ⟨by simp [gt_nms], Nat.le_refl _, hp, fun _ => by simp [gt_sts]⟩
  | unary n a ih => exact ih
  | nodeWithAntiquot s n a ih => exact ih
  | trailingNode n b _ a ih => exact ih
  | node n k a ih =>
    intro hA p hp r' p' h
    have hm : ∀ p q, p ≤ L → gt_en L x e a p = some q → p ≤ q ∧ q ≤ L := fun p q hp h => ⟨(gt_en_ok he a hA p q hp h).1, (gt_en_ok he a hA p q hp h).2.1⟩
    obtain ⟨q, hq, h⟩ := List.mem_flatMap.mp h
    have h1 := gt_tp_ok hm _ p q hp hq
    have h2 := ih hA q h1.2 r' p' h
    exact ⟨h2.1, by omega, h2.2.2.1, fun h3 => h2.2.2.2 (by omega)⟩
  | sepBy a _ b _ iha ihb =>
    intro hA p hp r' p' h
    have hAa : ∀ r, gt_nms a r = true → A r := fun r hr => hA r (by simp [gt_nms, hr])
    have hAb : ∀ r, gt_nms b r = true → A r := fun r hr => hA r (by simp [gt_nms, hr])
    unfold gt_ev at h
    rcases List.mem_append.mp h with h | h
    · have h2 := iha hAa p hp r' p' h
      exact ⟨by simp [gt_nms, h2.1], h2.2.1, h2.2.2.1, fun h3 => by simp [gt_sts, h2.2.2.2 h3]⟩
    · cases h1 : gt_en L x e a p with
      | none => rw [h1] at h; cases h
      | some q =>
        rw [h1] at h
        have h3 := gt_en_ok he a hAa p q hp h1
        have h2 := ihb hAb q h3.2.1 r' p' h
        refine ⟨by simp [gt_nms, h2.1], by omega, h2.2.2.1, fun h4 => ?_⟩
        cases hE : gt_emp Em a with
        | false => have := h3.2.2 hE; omega
        | true =>
          have : gt_sts Em b r' = true := h2.2.2.2 (by omega)
          simp [gt_sts, hE, this]
  | sepBy1 a _ b _ iha ihb =>
    intro hA p hp r' p' h
    have hAa : ∀ r, gt_nms a r = true → A r := fun r hr => hA r (by simp [gt_nms, hr])
    have hAb : ∀ r, gt_nms b r = true → A r := fun r hr => hA r (by simp [gt_nms, hr])
    unfold gt_ev at h
    rcases List.mem_append.mp h with h | h
    · have h2 := iha hAa p hp r' p' h
      exact ⟨by simp [gt_nms, h2.1], h2.2.1, h2.2.2.1, fun h3 => by simp [gt_sts, h2.2.2.2 h3]⟩
    · cases h1 : gt_en L x e a p with
      | some q => rw [h1] at h; cases h
      | none =>
        rw [h1] at h
        have h2 := ihb hAb p hp r' p' h
        exact ⟨by simp [gt_nms, h2.1], h2.2.1, h2.2.2.1, fun h3 => by simp [gt_sts, h2.2.2.2 h3]⟩
  | _ =>
    intro _ p hp r' p' h
    cases h
/-- places that were tried in vain lie between where the match begins and the end of the text -/
theorem gt_ev_le (he : gt_okE L Em A e) (t : gt_T) : (∀ r, gt_nms t r = true → A r) → ∀ p, p ≤ L → ∀ q, .inl q ∈ gt_ev L x e t p → p ≤ q ∧ q ≤ L := by
  induction t with
  | cat n hi =>
    intro _ p hp r h
    unfold gt_ev at h
    split at h
    · cases h
    · simp at h
      omega
  | parser n =>
    intro hA p hp r h
    simp [gt_ev] at h
  | unary n a ih => exact ih
  | nodeWithAntiquot s n a ih => exact ih
  | trailingNode n b _ a ih => exact ih
  | node n k a ih =>
    intro hA p hp r h
    have hm : ∀ p q, p ≤ L → gt_en L x e a p = some q → p ≤ q ∧ q ≤ L := fun p q hp h => ⟨(gt_en_ok he a hA p q hp h).1, (gt_en_ok he a hA p q hp h).2.1⟩
    obtain ⟨q, hq, h⟩ := List.mem_flatMap.mp h
    have h1 := gt_tp_ok hm _ p q hp hq
    have h2 := ih hA q h1.2 r h
    omega
  | sepBy a _ b _ iha ihb =>
    intro hA p hp r h
    have hAa : ∀ r, gt_nms a r = true → A r := fun r hr => hA r (by simp [gt_nms, hr])
    have hAb : ∀ r, gt_nms b r = true → A r := fun r hr => hA r (by simp [gt_nms, hr])
    unfold gt_ev at h
    rcases List.mem_append.mp h with h | h
    · exact iha hAa p hp r h
    · cases h1 : gt_en L x e a p with
      | none => rw [h1] at h; cases h
      | some q =>
        rw [h1] at h
        have h3 := gt_en_ok he a hAa p q hp h1
        have h2 := ihb hAb q h3.2.1 r h
        omega
  | sepBy1 a _ b _ iha ihb =>
    intro hA p hp r h
    have hAa : ∀ r, gt_nms a r = true → A r := fun r hr => hA r (by simp [gt_nms, hr])
    have hAb : ∀ r, gt_nms b r = true → A r := fun r hr => hA r (by simp [gt_nms, hr])
    unfold gt_ev at h
    rcases List.mem_append.mp h with h | h
    · exact iha hAa p hp r h
    · cases h1 : gt_en L x e a p with
      | some q => rw [h1] at h; cases h
      | none =>
        rw [h1] at h
        exact ihb hAb p hp r h
  | _ =>
    intro _ p hp r h
    cases h
theorem gt_tn_congr {m m' : Nat → Option Nat} : ∀ (n : Nat) (b : Bool) (p : Nat), (∀ q, q ∈ gt_tp m n p → m q = m' q) → gt_tn m n b p = gt_tn m' n b p ∧ gt_tp m n p = gt_tp m' n p
  | 0, b, p, h => ⟨rfl, rfl⟩
  | n + 1, b, p, h => by
    have h1 : m p = m' p := h p (by unfold gt_tp; exact List.mem_cons_self)
    unfold gt_tn gt_tp
    rw [← h1]
    cases h2 : m p with
    | none => exact ⟨rfl, rfl⟩
    | some q =>
      have h3 := gt_tn_congr n true q (fun q' hq' => h q' (by unfold gt_tp; rw [h2]; exact List.mem_cons_of_mem _ hq'))
      exact ⟨h3.1, by simp only [h3.2]⟩
theorem gt_flatMap_congr {α β : Type} {f g : α → List β} : ∀ (l : List α), (∀ a, a ∈ l → f a = g a) → l.flatMap f = l.flatMap g
  | [], _ => rfl
  | a :: l, h => by
    rw [List.flatMap_cons, List.flatMap_cons, h a List.mem_cons_self, gt_flatMap_congr l (fun b hb => h b (List.mem_cons_of_mem _ hb))]
/-- only the rules that are met count -/
theorem gt_en_congr (t : gt_T) : ∀ p, (∀ r' p', .inr (r', p') ∈ gt_ev L x e t p → e r' p' = e' r' p') → gt_en L x e t p = gt_en L x e' t p ∧ gt_ev L x e t p = gt_ev L x e' t p := by
  induction t with
  | cat n hi => exact fun p _ => ⟨rfl, rfl⟩
  | parser n => exact fun p h => ⟨h _ _ (by simp [gt_ev]), rfl⟩
  | unary n a ih => exact ih
  | nodeWithAntiquot s n a ih => exact ih
  | trailingNode n b _ a ih =>
    intro p h
    have h1 := ih p h
    exact ⟨by simp only [gt_en, h1.1], h1.2⟩
  | node n k a ih =>
    intro p h
    have h1 : ∀ q, q ∈ gt_tp (gt_en L x e a) (gt_most k) p → gt_en L x e a q = gt_en L x e' a q ∧ gt_ev L x e a q = gt_ev L x e' a q := fun q hq => ih q (fun r' p' h' => h r' p' (List.mem_flatMap.mpr ⟨q, hq, h'⟩))
    have h2 := gt_tn_congr (gt_most k) (!(k == 1)) p (fun q hq => (h1 q hq).1)
    refine ⟨h2.1, ?_⟩
    unfold gt_ev
    rw [← h2.2]
    exact gt_flatMap_congr _ (fun q hq => (h1 q hq).2)
  | sepBy a _ b _ iha ihb =>
    intro p h
    have h1 := iha p (fun r' p' h' => h r' p' (by unfold gt_ev; exact List.mem_append_left _ h'))
    cases h2 : gt_en L x e a p with
    | none =>
      have h3 := h1.1
      rw [h2] at h3
      exact ⟨by simp only [gt_en, h2, ← h3], by simp only [gt_ev, h2, ← h3, h1.2]⟩
    | some q =>
      have h3 := h1.1
      rw [h2] at h3
      have h4 := ihb q (fun r' p' h' => h r' p' (by unfold gt_ev; rw [h2]; exact List.mem_append_right _ h'))
      exact ⟨by simp only [gt_en, h2, ← h3, h4.1], by simp only [gt_ev, h2, ← h3, h1.2, h4.2]⟩
  | sepBy1 a _ b _ iha ihb =>
    intro p h
    have h1 := iha p (fun r' p' h' => h r' p' (by unfold gt_ev; exact List.mem_append_left _ h'))
    cases h2 : gt_en L x e a p with
    | some q =>
      have h3 := h1.1
      rw [h2] at h3
      exact ⟨by simp only [gt_en, h2, ← h3], by simp only [gt_ev, h2, ← h3, h1.2]⟩
    | none =>
      have h3 := h1.1
      rw [h2] at h3
      have h4 := ihb p (fun r' p' h' => h r' p' (by unfold gt_ev; rw [h2]; exact List.mem_append_right _ h'))
      exact ⟨by simp only [gt_en, h2, ← h3, h4.1], by simp only [gt_ev, h2, ← h3, h1.2, h4.2]⟩
  | _ => exact fun p _ => ⟨rfl, rfl⟩
theorem gt_ca_congr (t : gt_T) : ∀ p, (∀ r' p', .inr (r', p') ∈ gt_ev L x e t p → e r' p' = e' r' p' ∧ c r' p' = c' r' p') → gt_ca L x e c t p = gt_ca L x e' c' t p := by
  induction t with
  | parser n => exact fun p h => (h _ _ (by simp [gt_ev])).2
  | nodeWithAntiquot s n a ih => exact ih
  | unary n a ih =>
    intro p h
    simp only [gt_ca, ih p h, (gt_en_congr a p (fun r' p' h' => (h r' p' h').1)).1]
  | node n k a ih =>
    intro p h
    have h1 : ∀ q, q ∈ gt_tp (gt_en L x e a) (gt_most k) p → gt_en L x e a q = gt_en L x e' a q ∧ gt_ca L x e c a q = gt_ca L x e' c' a q := fun q hq => ⟨(gt_en_congr a q (fun r' p' h' => (h r' p' (List.mem_flatMap.mpr ⟨q, hq, h'⟩)).1)).1, ih q (fun r' p' h' => h r' p' (List.mem_flatMap.mpr ⟨q, hq, h'⟩))⟩
    have h2 := gt_tn_congr (gt_most k) true p (fun q hq => (h1 q hq).1)
    unfold gt_ca
    rw [← h2.2]
    exact gt_flatMap_congr _ (fun q hq => by simp only [(h1 q hq).1, (h1 q hq).2])
  | sepBy a _ b _ iha ihb =>
    intro p h
    have h0 : ∀ r' p', .inr (r', p') ∈ gt_ev L x e a p → e r' p' = e' r' p' ∧ c r' p' = c' r' p' := fun r' p' h' => h r' p' (by unfold gt_ev; exact List.mem_append_left _ h')
    have h1 := gt_en_congr a p (fun r' p' h' => (h0 r' p' h').1)
    have h5 := iha p h0
    cases h2 : gt_en L x e a p with
    | none =>
      have h3 := h1.1
      rw [h2] at h3
      simp only [gt_ca, h2, ← h3, h5]
    | some q =>
      have h3 := h1.1
      rw [h2] at h3
      have h4 := ihb q (fun r' p' h' => h r' p' (by unfold gt_ev; rw [h2]; exact List.mem_append_right _ h'))
      simp only [gt_ca, h2, ← h3, h5, h4]
  | sepBy1 a _ b _ iha ihb =>
    intro p h
    have h0 : ∀ r' p', .inr (r', p') ∈ gt_ev L x e a p → e r' p' = e' r' p' ∧ c r' p' = c' r' p' := fun r' p' h' => h r' p' (by unfold gt_ev; exact List.mem_append_left _ h')
    have h1 := gt_en_congr a p (fun r' p' h' => (h0 r' p' h').1)
    have h5 := iha p h0
    cases h2 : gt_en L x e a p with
    | some q =>
      have h3 := h1.1
      rw [h2] at h3
      simp only [gt_ca, h2, ← h3, h5]
    | none =>
      have h3 := h1.1
      rw [h2] at h3
      have h4 := ihb p (fun r' p' h' => h r' p' (by unfold gt_ev; rw [h2]; exact List.mem_append_right _ h'))
      simp only [gt_ca, h2, ← h3, h4]
  | _ => exact fun p _ => rfl
end GT
