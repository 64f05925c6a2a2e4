/-! Captures by a stack of cells. -/
/-- how many leaves -/
def gt_sz : gt_T → Nat
  | .unary _ a => gt_sz a
  | .node _ _ a => gt_sz a
  | .trailingNode _ _ _ a => gt_sz a
  | .nodeWithAntiquot _ _ a => gt_sz a
  | .sepBy a _ c _ => gt_sz a + gt_sz c
  | .sepBy1 a _ c _ => gt_sz a + gt_sz c
  | _ => 1
theorem gt_sz_pos (t : gt_T) : 1 ≤ gt_sz t := by
  induction t with
  | unary n a ih => exact ih
  | node n k a ih => exact ih
  | trailingNode n k l a ih => exact ih
  | nodeWithAntiquot s k a ih => exact ih
  | sepBy a s c b iha ihc => have : gt_sz (.sepBy a s c b) = gt_sz a + gt_sz c := rfl; omega
  | sepBy1 a s c b iha ihc => have : gt_sz (.sepBy1 a s c b) = gt_sz a + gt_sz c := rfl; omega
  | _ => exact Nat.le_refl _
def gn_kseq (L : Nat) (x : Nat → Nat) (e : Nat → Nat → Option Nat) (nx : Nat → Option Nat) : gt_T → Nat → Nat → List (gt_T × Nat × Nat)
  | .sepBy a _ c _, n, p => (a, n, p) :: (match gt_en L x e a p with
    | none => []
    | some q => match nx n with
      | none => []
      | some m => gn_kseq L x e nx c m q)
  | t, n, p => [(t, n, p)]
def gn_kch (L : Nat) (x : Nat → Nat) (e : Nat → Nat → Option Nat) (nx : Nat → Option Nat) : gt_T → Nat → Nat → List (gt_T × Nat × Nat)
  | .sepBy1 a _ c _, n, p => match gt_en L x e a p with
    | some _ => [(a, n, p)]
    | none => match nx n with
      | none => []
      | some m => gn_kch L x e nx c m p
  | t, n, p => [(t, n, p)]
def gn_kt (L : Nat) (x : Nat → Nat) (e : Nat → Nat → Option Nat) (a : gt_T) (n : Nat) : Nat → Nat → List (gt_T × Nat × Nat)
  | 0, _ => []
  | k + 1, p => match gt_en L x e a p with
    | none => []
    | some q => (a, n, p) :: gn_kt L x e a n k q
/-- the cells whose captures make those of a cell -/
def gn_k (L : Nat) (x : Nat → Nat) (R : Nat → Option gt_T) (e : Nat → Nat → Option Nat) (wi : Nat → Nat) (nx : Nat → Option Nat) : gt_T → Nat → Nat → List (gt_T × Nat × Nat)
  | .parser r, _, p => match R (gt_nm r) with
    | some t => [(t, 40 * gt_nm r, p)]
    | none => []
  | .unary _ a, n, p => [(a, wi n, p)]
  | .node _ k a, n, p => gn_kt L x e a (wi n) (gt_most k) p
  | .nodeWithAntiquot _ k a, n, p => if gt_nm k = 9 then gn_kseq L x e nx a (wi n) p else gn_kch L x e nx a (wi n) p
  | _, _, _ => []
/-- its own one -/
def gn_own (L : Nat) (x : Nat → Nat) (e : Nat → Nat → Option Nat) : gt_T → Nat → List (Nat × Nat)
  | .const _, p => [(p, p)]
  | .unary _ a, p => [(p, (gt_en L x e a p).getD 0)]
  | _, _ => []
section GP
variable {L : Nat} {x : Nat → Nat} {Em : Nat → Bool} {A : Nat → Prop} {D : Nat → Prop} {kd wi mo : Nat → Nat} {nx : Nat → Option Nat} {R : Nat → Option gt_T} {o : Nat → Nat}
theorem gn_kt_ca {e : Nat → Nat → Option Nat} {c : Nat → Nat → List (Nat × Nat)} {a : gt_T} {n : Nat} : ∀ (k p : Nat), (gt_tp (gt_en L x e a) k p).flatMap (fun q => if (gt_en L x e a q).isSome then gt_ca L x e c a q else []) = (gn_kt L x e a n k p).flatMap (fun d => gt_ca L x e c d.1 d.2.2)
  | 0, p => rfl
  | k + 1, p => by
    unfold gt_tp gn_kt
    rw [List.flatMap_cons]
    cases h : gt_en L x e a p with
    | none => simp
    | some q =>
      simp
      exact gn_kt_ca k q
/-- captures by a stack: enough to know what one cell does -/
theorem gn_run (hg : gt_good R Em A o) (hL : L ≤ 9) (hrt : ∀ r t, A r → R r = some t → gn_tr D kd wi mo nx t false (40 * r)) (hsz : ∀ r t, R r = some t → gt_sz t ≤ 20) {Lp : List (gt_T × Nat × Nat) → List (Nat × Nat) → Prop} {T : List (Nat × Nat)}
    (hfull : ∀ st, 40 ≤ T.length → Lp st (T.take 40))
    (hstep : ∀ t n p rest c, gn_tr D kd wi mo nx t false n → gn_nd Em A t → p ≤ L → (gt_en L x (gt_Ed L x R) t p).isSome = true → c.length < 40 → rest.length + (gn_k L x R (gt_Ed L x R) wi nx t n p).length ≤ 2600 → Lp (gn_k L x R (gt_Ed L x R) wi nx t n p ++ rest) (c ++ gn_own L x (gt_Ed L x R) t p) → Lp ((t, n, p) :: rest) c) :
    ∀ (k : Nat) (t : gt_T),
      (∀ n p q rest u v, gn_tr D kd wi mo nx t false n → gn_nd Em A t → p ≤ L → gt_en L x (gt_Ed L x R) t p = some q → (∀ d, .inr d ∈ gt_ev L x (gt_Ed L x R) t p → 4 * (L - d.2) + o d.1 < k) → rest.length + (gt_sz t + (q - p) + 40 * k) ≤ 2600 → u ++ (gt_ca L x (gt_Ed L x R) (gt_Cd L x R) t p ++ v) = T → Lp rest ((u ++ gt_ca L x (gt_Ed L x R) (gt_Cd L x R) t p).take 40) → Lp ((t, n, p) :: rest) (u.take 40)) ∧
      (∀ n p q rest u v, gn_tr D kd wi mo nx t true n → gt_isl 10 t = false → gn_nd Em A t → p ≤ L → gt_en L x (gt_Ed L x R) t p = some q → (∀ d, .inr d ∈ gt_ev L x (gt_Ed L x R) t p → 4 * (L - d.2) + o d.1 < k) → rest.length + (gt_sz t + (q - p) + 40 * k) ≤ 2600 → u ++ (gt_ca L x (gt_Ed L x R) (gt_Cd L x R) t p ++ v) = T → Lp rest ((u ++ gt_ca L x (gt_Ed L x R) (gt_Cd L x R) t p).take 40) → Lp (gn_kseq L x (gt_Ed L x R) nx t n p ++ rest) (u.take 40) ∧ (gn_kseq L x (gt_Ed L x R) nx t n p).length ≤ gt_sz t) ∧
      (∀ n p q rest u v, gn_tr D kd wi mo nx t true n → gt_isl 9 t = false → gn_nd Em A t → p ≤ L → gt_en L x (gt_Ed L x R) t p = some q → (∀ d, .inr d ∈ gt_ev L x (gt_Ed L x R) t p → 4 * (L - d.2) + o d.1 < k) → rest.length + (gt_sz t + (q - p) + 40 * k) ≤ 2600 → u ++ (gt_ca L x (gt_Ed L x R) (gt_Cd L x R) t p ++ v) = T → Lp rest ((u ++ gt_ca L x (gt_Ed L x R) (gt_Cd L x R) t p).take 40) → Lp (gn_kch L x (gt_Ed L x R) nx t n p ++ rest) (u.take 40) ∧ (gn_kch L x (gt_Ed L x R) nx t n p).length ≤ 1) := by
  have he := gt_Ed_ok (L := L) (x := x) hg
  -- a full row, or a step
  have go : ∀ (t : gt_T) (n p : Nat) (rest : List (gt_T × Nat × Nat)) (u w v : List (Nat × Nat)), gn_tr D kd wi mo nx t false n → gn_nd Em A t → p ≤ L → (gt_en L x (gt_Ed L x R) t p).isSome = true → u ++ (gn_own L x (gt_Ed L x R) t p ++ w ++ v) = T → (40 ≤ u.length ∨ (rest.length + (gn_k L x R (gt_Ed L x R) wi nx t n p).length ≤ 2600 ∧ Lp (gn_k L x R (gt_Ed L x R) wi nx t n p ++ rest) ((u ++ gn_own L x (gt_Ed L x R) t p).take 40))) → Lp ((t, n, p) :: rest) (u.take 40) := by
    intro t n p rest u w v ht hn hp hs hT h
    by_cases hu : 40 ≤ u.length
    · have e1 : u.take 40 = T.take 40 := by rw [← hT, List.take_append_of_le_length hu]
      rw [e1]
      exact hfull _ (by rw [← hT, List.length_append]; omega)
    · rcases h with h | ⟨h1, h2⟩
      · exact absurd h hu
      · have hl : (gn_own L x (gt_Ed L x R) t p).length ≤ 1 := by cases t <;> simp [gn_own]
        rw [List.take_of_length_le (by omega)]
        rw [List.take_of_length_le (by rw [List.length_append]; omega)] at h2
        exact hstep t n p rest u ht hn hp hs (by omega) h1 h2
  -- all trees, where names are right
  have body : ∀ (k : Nat), (∀ r n p q rest u v, gn_nd Em A (.parser r) → gn_tr D kd wi mo nx (.parser r) false n → p ≤ L → gt_Ed L x R (gt_nm r) p = some q → 4 * (L - p) + o (gt_nm r) < k → rest.length + (1 + (q - p) + 40 * k) ≤ 2600 → u ++ (gt_Cd L x R (gt_nm r) p ++ v) = T → Lp rest ((u ++ gt_Cd L x R (gt_nm r) p).take 40) → Lp ((.parser r, n, p) :: rest) (u.take 40)) → ∀ (t : gt_T),
      (∀ n p q rest u v, gn_tr D kd wi mo nx t false n → gn_nd Em A t → p ≤ L → gt_en L x (gt_Ed L x R) t p = some q → (∀ d, .inr d ∈ gt_ev L x (gt_Ed L x R) t p → 4 * (L - d.2) + o d.1 < k) → rest.length + (gt_sz t + (q - p) + 40 * k) ≤ 2600 → u ++ (gt_ca L x (gt_Ed L x R) (gt_Cd L x R) t p ++ v) = T → Lp rest ((u ++ gt_ca L x (gt_Ed L x R) (gt_Cd L x R) t p).take 40) → Lp ((t, n, p) :: rest) (u.take 40)) ∧
      (∀ n p q rest u v, gn_tr D kd wi mo nx t true n → gt_isl 10 t = false → gn_nd Em A t → p ≤ L → gt_en L x (gt_Ed L x R) t p = some q → (∀ d, .inr d ∈ gt_ev L x (gt_Ed L x R) t p → 4 * (L - d.2) + o d.1 < k) → rest.length + (gt_sz t + (q - p) + 40 * k) ≤ 2600 → u ++ (gt_ca L x (gt_Ed L x R) (gt_Cd L x R) t p ++ v) = T → Lp rest ((u ++ gt_ca L x (gt_Ed L x R) (gt_Cd L x R) t p).take 40) → Lp (gn_kseq L x (gt_Ed L x R) nx t n p ++ rest) (u.take 40) ∧ (gn_kseq L x (gt_Ed L x R) nx t n p).length ≤ gt_sz t) ∧
      (∀ n p q rest u v, gn_tr D kd wi mo nx t true n → gt_isl 9 t = false → gn_nd Em A t → p ≤ L → gt_en L x (gt_Ed L x R) t p = some q → (∀ d, .inr d ∈ gt_ev L x (gt_Ed L x R) t p → 4 * (L - d.2) + o d.1 < k) → rest.length + (gt_sz t + (q - p) + 40 * k) ≤ 2600 → u ++ (gt_ca L x (gt_Ed L x R) (gt_Cd L x R) t p ++ v) = T → Lp rest ((u ++ gt_ca L x (gt_Ed L x R) (gt_Cd L x R) t p).take 40) → Lp (gn_kch L x (gt_Ed L x R) nx t n p ++ rest) (u.take 40) ∧ (gn_kch L x (gt_Ed L x R) nx t n p).length ≤ 1) := by
    intro k hname t
    have lst : ∀ {t : gt_T}, (∀ n p q rest u v, gn_tr D kd wi mo nx t false n → gn_nd Em A t → p ≤ L → gt_en L x (gt_Ed L x R) t p = some q → (∀ d, .inr d ∈ gt_ev L x (gt_Ed L x R) t p → 4 * (L - d.2) + o d.1 < k) → rest.length + (gt_sz t + (q - p) + 40 * k) ≤ 2600 → u ++ (gt_ca L x (gt_Ed L x R) (gt_Cd L x R) t p ++ v) = T → Lp rest ((u ++ gt_ca L x (gt_Ed L x R) (gt_Cd L x R) t p).take 40) → Lp ((t, n, p) :: rest) (u.take 40)) →
        gt_isl 9 t = false → gt_isl 10 t = false → (∀ n p, gn_kseq L x (gt_Ed L x R) nx t n p = [(t, n, p)]) → (∀ n p, gn_kch L x (gt_Ed L x R) nx t n p = [(t, n, p)]) →
      (∀ n p q rest u v, gn_tr D kd wi mo nx t true n → gt_isl 10 t = false → gn_nd Em A t → p ≤ L → gt_en L x (gt_Ed L x R) t p = some q → (∀ d, .inr d ∈ gt_ev L x (gt_Ed L x R) t p → 4 * (L - d.2) + o d.1 < k) → rest.length + (gt_sz t + (q - p) + 40 * k) ≤ 2600 → u ++ (gt_ca L x (gt_Ed L x R) (gt_Cd L x R) t p ++ v) = T → Lp rest ((u ++ gt_ca L x (gt_Ed L x R) (gt_Cd L x R) t p).take 40) → Lp (gn_kseq L x (gt_Ed L x R) nx t n p ++ rest) (u.take 40) ∧ (gn_kseq L x (gt_Ed L x R) nx t n p).length ≤ gt_sz t) ∧
      (∀ n p q rest u v, gn_tr D kd wi mo nx t true n → gt_isl 9 t = false → gn_nd Em A t → p ≤ L → gt_en L x (gt_Ed L x R) t p = some q → (∀ d, .inr d ∈ gt_ev L x (gt_Ed L x R) t p → 4 * (L - d.2) + o d.1 < k) → rest.length + (gt_sz t + (q - p) + 40 * k) ≤ 2600 → u ++ (gt_ca L x (gt_Ed L x R) (gt_Cd L x R) t p ++ v) = T → Lp rest ((u ++ gt_ca L x (gt_Ed L x R) (gt_Cd L x R) t p).take 40) → Lp (gn_kch L x (gt_Ed L x R) nx t n p ++ rest) (u.take 40) ∧ (gn_kch L x (gt_Ed L x R) nx t n p).length ≤ 1) :=
      fun {t} h h9 h10 hs hc => ⟨fun n p q rest u v ht _ hn hp hq hev hb hT hr => by
        rw [hs n p]
        exact ⟨h n p q rest u v (gn_tr_list ht h9 h10).1 hn hp hq hev hb hT hr, gt_sz_pos t⟩, fun n p q rest u v ht _ hn hp hq hev hb hT hr => by
        rw [hc n p]
        exact ⟨h n p q rest u v (gn_tr_list ht h9 h10).1 hn hp hq hev hb hT hr, Nat.le_refl _⟩⟩
    induction t with
    | cat l hi =>
      refine ⟨?g0, lst ?g0 rfl rfl (fun _ _ => rfl) (fun _ _ => rfl)⟩
      intro n p q rest u v ht hn hp hq hev hb hT hr
      exact go _ n p rest u [] v ht hn hp (by rw [hq]; rfl) (by simpa [gn_own, gt_ca] using hT) (.inr ⟨by simp [gn_k]; omega, by simpa [gn_k, gn_own, gt_ca] using hr⟩)
    | parser r =>
      refine ⟨?g1, lst ?g1 rfl rfl (fun _ _ => rfl) (fun _ _ => rfl)⟩
      intro n p q rest u v ht hn hp hq hev hb hT hr
      exact hname r n p q rest u v hn ht hp hq (hev (gt_nm r, p) (by simp [gt_ev])) hb hT hr
    | const r =>
      refine ⟨?g2, lst ?g2 rfl rfl (fun _ _ => rfl) (fun _ _ => rfl)⟩
      intro n p q rest u v ht hn hp hq hev hb hT hr
      exact go _ n p rest u [] v ht hn hp (by rw [hq]; rfl) (by simpa [gn_own, gt_ca] using hT) (.inr ⟨by simp [gn_k]; omega, by simpa [gn_k, gn_own, gt_ca] using hr⟩)
    | unary m a ih =>
      refine ⟨?g3, lst ?g3 rfl rfl (fun _ _ => rfl) (fun _ _ => rfl)⟩
      intro n p q rest u v ht hn hp hq hev hb hT hr
      have hbb : 1 ≤ gt_sz (.unary m a) := gt_sz_pos _
      refine go _ n p rest u (gt_ca L x (gt_Ed L x R) (gt_Cd L x R) a p) v ht hn hp (by rw [hq]; rfl) (by simpa [gn_own, gt_ca] using hT) (.inr ⟨by simp [gn_k]; omega, ?_⟩)
      refine ih.1 (wi n) p q rest _ v ht.2.2.2 hn hp hq hev hb (by simpa [gn_own, gt_ca] using hT) (by simpa [gn_own, gt_ca] using hr)
    | trailingNode m k' l a ih =>
      refine ⟨?g4, lst ?g4 rfl rfl (fun _ _ => rfl) (fun _ _ => rfl)⟩
      intro n p q rest u v ht hn hp hq hev hb hT hr
      exact go _ n p rest u [] v ht hn hp (by rw [hq]; rfl) (by simpa [gn_own, gt_ca] using hT) (.inr ⟨by simp [gn_k]; omega, by simpa [gn_k, gn_own, gt_ca] using hr⟩)
    | node m k' a ih =>
      refine ⟨?g5, lst ?g5 rfl rfl (fun _ _ => rfl) (fun _ _ => rfl)⟩
      intro n p q rest u v ht hn hp hq hev hb hT hr
      obtain ⟨na, nem⟩ := gn_nd_rep hn
      have hs := gt_sz_pos (.node m k' a)
      have es : gt_sz (.node m k' a) = gt_sz a := rfl
      have hta := ht.2.2.2.2
      have e1 : gt_ca L x (gt_Ed L x R) (gt_Cd L x R) (.node m k' a) p = (gn_kt L x (gt_Ed L x R) a (wi n) (gt_most k') p).flatMap (fun d => gt_ca L x (gt_Ed L x R) (gt_Cd L x R) d.1 d.2.2) := gn_kt_ca _ _
      rw [e1] at hT hr
      have key : Lp (gn_kt L x (gt_Ed L x R) a (wi n) (gt_most k') p ++ rest) (u.take 40) ∧ (gn_kt L x (gt_Ed L x R) a (wi n) (gt_most k') p).length ≤ 1 + (q - p) := by
        by_cases k2 : k' = 2
        · subst k2
          have e2 : gt_most 2 = 0 + 1 := rfl
          rw [e2] at hT hr ⊢
          have hq1 : (match gt_en L x (gt_Ed L x R) a p with | none => some p | some q => some q) = some q := hq
          unfold gn_kt at hT hr ⊢
          cases h1 : gt_en L x (gt_Ed L x R) a p with
          | none =>
            rw [h1] at hT hr
            exact ⟨by simpa using hr, by simp⟩
          | some q1 =>
            rw [h1] at hT hr hq1
            cases hq1
            refine ⟨?_, by simp [gn_kt]⟩
            exact ih.1 (wi n) p q rest u v hta na hp h1 (fun d hd => hev d (List.mem_flatMap.mpr ⟨p, List.mem_cons_self, hd⟩)) (by omega) (by simpa [gn_kt] using hT) (by simpa [gn_kt] using hr)
        · have hst : ∀ p q, p ≤ L → gt_en L x (gt_Ed L x R) a p = some q → p < q ∧ q ≤ L := fun p q hp h => ⟨(gt_en_ok he a na.1 p q hp h).2.2 (nem k2), (gt_en_ok he a na.1 p q hp h).2.1⟩
          have hle : ∀ p q, p ≤ L → gt_en L x (gt_Ed L x R) a p = some q → p ≤ q ∧ q ≤ L := fun p q hp h => ⟨Nat.le_of_lt (hst p q hp h).1, (hst p q hp h).2⟩
          have kt : ∀ (j : Nat) (b : Bool) (p' : Nat) (u : List (Nat × Nat)), p' ≤ L → gt_tn (gt_en L x (gt_Ed L x R) a) j b p' = some q → (∀ d, .inr d ∈ (gt_tp (gt_en L x (gt_Ed L x R) a) j p').flatMap (gt_ev L x (gt_Ed L x R) a) → 4 * (L - d.2) + o d.1 < k) → rest.length + (gt_sz a + (q - p') + 40 * k) ≤ 2600 → u ++ ((gn_kt L x (gt_Ed L x R) a (wi n) j p').flatMap (fun d => gt_ca L x (gt_Ed L x R) (gt_Cd L x R) d.1 d.2.2) ++ v) = T → Lp rest ((u ++ (gn_kt L x (gt_Ed L x R) a (wi n) j p').flatMap (fun d => gt_ca L x (gt_Ed L x R) (gt_Cd L x R) d.1 d.2.2)).take 40) → Lp (gn_kt L x (gt_Ed L x R) a (wi n) j p' ++ rest) (u.take 40) ∧ (gn_kt L x (gt_Ed L x R) a (wi n) j p').length ≤ q - p' := by
            intro j
            induction j with
            | zero =>
              intro b p' u hp' hq' _ _ hT hr
              exact ⟨by simpa [gn_kt] using hr, by simp [gn_kt]⟩
            | succ j ihj =>
              intro b p' u hp' hq' hev' hb' hT hr
              rw [gt_tn_s] at hq'
              rw [gt_tp_s] at hev'
              unfold gn_kt at hT hr ⊢
              cases h1 : gt_en L x (gt_Ed L x R) a p' with
              | none =>
                rw [h1] at hT hr
                exact ⟨by simpa using hr, by simp⟩
              | some q1 =>
                rw [h1] at hT hr hq' hev'
                have h2 := hst p' q1 hp' h1
                have h3 := gt_tn_ok hle j true q1 q h2.2 hq'
                simp only [List.flatMap_cons] at hT hr hev'
                obtain ⟨g1, g2⟩ := ihj true q1 (u ++ gt_ca L x (gt_Ed L x R) (gt_Cd L x R) a p') h2.2 hq' (fun d hd => hev' d (List.mem_append_right _ hd)) (by omega) (by simpa using hT) (by simpa using hr)
                refine ⟨?_, by simp only [List.length_cons]; omega⟩
                refine ih.1 (wi n) p' q1 (gn_kt L x (gt_Ed L x R) a (wi n) j q1 ++ rest) u ((gn_kt L x (gt_Ed L x R) a (wi n) j q1).flatMap (fun d => gt_ca L x (gt_Ed L x R) (gt_Cd L x R) d.1 d.2.2) ++ v) hta na hp' h1 (fun d hd => hev' d (List.mem_append_left _ hd)) ?_ (by simpa using hT) g1
                rw [List.length_append]
                omega
          obtain ⟨g1, g2⟩ := kt _ _ p u hp hq hev (by omega) hT hr
          exact ⟨g1, by omega⟩
      refine go _ n p rest u ((gn_kt L x (gt_Ed L x R) a (wi n) (gt_most k') p).flatMap (fun d => gt_ca L x (gt_Ed L x R) (gt_Cd L x R) d.1 d.2.2)) v ht hn hp (by rw [hq]; rfl) (by simpa [gn_own] using hT) (.inr ⟨?_, ?_⟩)
      · have e2 : gn_k L x R (gt_Ed L x R) wi nx (.node m k' a) n p = gn_kt L x (gt_Ed L x R) a (wi n) (gt_most k') p := rfl
        rw [e2]
        omega
      · simpa [gn_k, gn_own] using key.1
    | nodeWithAntiquot s k' a ih =>
      refine ⟨?g6, lst ?g6 rfl rfl (fun _ _ => rfl) (fun _ _ => rfl)⟩
      intro n p q rest u v ht hn hp hq hev hb hT hr
      have es : gt_sz (.nodeWithAntiquot s k' a) = gt_sz a := rfl
      have hs := gt_sz_pos a
      obtain ⟨_, _, _, hta, hk⟩ := id ht
      rcases hk with ⟨hk, hl⟩ | ⟨hk, hl⟩
      · obtain ⟨g1, g2⟩ := ih.2.1 (wi n) p q rest u v hta hl hn hp hq hev (by omega) hT hr
        refine go _ n p rest u (gt_ca L x (gt_Ed L x R) (gt_Cd L x R) a p) v ht hn hp (by rw [hq]; rfl) (by simpa [gn_own, gt_ca] using hT) (.inr ⟨?_, ?_⟩)
        · simp only [gn_k, if_pos hk]
          omega
        · simpa [gn_k, gn_own, hk] using g1
      · obtain ⟨g1, g2⟩ := ih.2.2 (wi n) p q rest u v hta hl hn hp hq hev (by omega) hT hr
        refine go _ n p rest u (gt_ca L x (gt_Ed L x R) (gt_Cd L x R) a p) v ht hn hp (by rw [hq]; rfl) (by simpa [gn_own, gt_ca] using hT) (.inr ⟨?_, ?_⟩)
        · simp only [gn_k, hk]
          simp only [show ¬ (10 : Nat) = 9 by decide, if_false]
          omega
        · simpa [gn_k, gn_own, hk] using g1
    | sepBy a s c b iha ihc =>
      refine ⟨(fun n p q rest u v ht => by cases ht.1), fun n p q rest u v ht _ hn hp hq hev hb hT hr => ?_, (fun n p q rest u v _ h => by cases h)⟩
      obtain ⟨_, h1, h2, m, h3, h4⟩ := ht
      obtain ⟨na, nc⟩ := gn_nd_seq hn
      have es : gt_sz (.sepBy a s c b) = gt_sz a + gt_sz c := rfl
      have hq1 : (match gt_en L x (gt_Ed L x R) a p with | none => none | some q => gt_en L x (gt_Ed L x R) c q) = some q := hq
      have hev1 : ∀ d, .inr d ∈ gt_ev L x (gt_Ed L x R) a p ++ (match gt_en L x (gt_Ed L x R) a p with | none => [] | some q => gt_ev L x (gt_Ed L x R) c q) → 4 * (L - d.2) + o d.1 < k := hev
      unfold gn_kseq
      unfold gt_ca at hT hr
      cases h6 : gt_en L x (gt_Ed L x R) a p with
      | none => rw [h6] at hq1; cases hq1
      | some q1 =>
        rw [h6] at hq1 hT hr hev1
        have h7 := gt_en_ok he a na.1 p q1 hp h6
        have h8 := gt_en_ok he c nc.1 q1 q h7.2.1 hq1
        simp only [h3]
        obtain ⟨g1, g2⟩ := ihc.2.1 m q1 q rest (u ++ gt_ca L x (gt_Ed L x R) (gt_Cd L x R) a p) v h4 h2 nc h7.2.1 hq1 (fun d hd => hev1 d (List.mem_append_right _ hd)) (by omega) (by simpa using hT) (by simpa using hr)
        refine ⟨?_, by have := gt_sz_pos a; simp only [List.length_cons]; omega⟩
        refine iha.1 n p q1 (gn_kseq L x (gt_Ed L x R) nx c m q1 ++ rest) u (gt_ca L x (gt_Ed L x R) (gt_Cd L x R) c q1 ++ v) h1 na hp h6 (fun d hd => hev1 d (List.mem_append_left _ hd)) ?_ (by simpa using hT) g1
        rw [List.length_append]
        omega
    | sepBy1 a s c b iha ihc =>
      refine ⟨(fun n p q rest u v ht => by cases ht.1), (fun n p q rest u v _ h => by cases h), fun n p q rest u v ht _ hn hp hq hev hb hT hr => ?_⟩
      obtain ⟨_, h1, h2, m, h3, h4⟩ := ht
      obtain ⟨na, nc⟩ := gn_nd_ch hn
      have es : gt_sz (.sepBy1 a s c b) = gt_sz a + gt_sz c := rfl
      have hq1 : (match gt_en L x (gt_Ed L x R) a p with | none => gt_en L x (gt_Ed L x R) c p | some q => some q) = some q := hq
      have hev1 : ∀ d, .inr d ∈ gt_ev L x (gt_Ed L x R) a p ++ (match gt_en L x (gt_Ed L x R) a p with | none => gt_ev L x (gt_Ed L x R) c p | some _ => []) → 4 * (L - d.2) + o d.1 < k := hev
      unfold gn_kch
      unfold gt_ca at hT hr
      cases h6 : gt_en L x (gt_Ed L x R) a p with
      | some q1 =>
        rw [h6] at hq1 hT hr hev1
        cases hq1
        refine ⟨?_, Nat.le_refl _⟩
        exact iha.1 n p q rest u v h1 na hp h6 (fun d hd => hev1 d (List.mem_append_left _ hd)) (by omega) hT hr
      | none =>
        rw [h6] at hq1 hT hr hev1
        simp only [h3]
        exact ihc.2.2 m p q rest u v h4 h2 nc hp hq1 (fun d hd => hev1 d (List.mem_append_right _ hd)) (by omega) hT hr
    | _ =>
      exact ⟨fun n p q rest u v ht => False.elim ht, fun n p q rest u v ht => False.elim ht, fun n p q rest u v ht => False.elim ht⟩
  intro k
  induction k with
  | zero => exact body 0 (fun r n p q rest u v _ _ _ _ h => absurd h (Nat.not_lt_zero _))
  | succ k ihk =>
    refine body (k + 1) (fun r n p q rest u v hn ht hp hq hk hb hT hr => ?_)
    have hA : A (gt_nm r) := hn.1 _ (by simp [gt_nms])
    obtain ⟨_, t, htR, _, h2, h3, _⟩ := hg _ hA
    have hfix := gt_Ed_fix (x := x) hg hL hA hp htR
    have hC := gt_Cd_fix (x := x) hg hL hA hp htR
    rw [hq] at hC
    simp only [Option.isSome_some, if_true] at hC
    rw [hC] at hT hr
    have hs := hsz _ t htR
    have hqL := (he _ p q hA hp hq).2.1
    refine go _ n p rest u (gt_ca L x (gt_Ed L x R) (gt_Cd L x R) t p) v ht hn hp (by rw [show gt_en L x (gt_Ed L x R) (.parser r) p = gt_Ed L x R (gt_nm r) p from rfl, hq]; rfl) (by simpa [gn_own] using hT) (.inr ⟨?_, ?_⟩)
    · simp only [gn_k, htR, List.length_cons, List.length_nil]
      omega
    · have e1 : gn_k L x R (gt_Ed L x R) wi nx (.parser r) n p = [(t, 40 * gt_nm r, p)] := by simp only [gn_k, htR]
      rw [e1]
      have := (ihk t).1 (40 * gt_nm r) p q rest u v (hrt _ t hA htR) (gn_nd_rule hg hA htR) hp (by rw [← hfix]; exact hq) (fun d hd => ?_) (by omega) hT hr
      · simpa [gn_own] using this
      · have h4 := gt_ev_in he t h2 p hp d.1 d.2 hd
        have hA' := h2 d.1 h4.1
        by_cases hpp : d.2 = p
        · have := h3 d.1 (h4.2.2.2 hpp)
          omega
        · have := (hg d.1 hA').1
          omega
end GP
