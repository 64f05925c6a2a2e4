/-! Patterns as the model holds them: nodes by number; D: which are nodes, kd their kind, wi what is within, mo, nx the next one. -/
/-- a list of items (9), of sequences (10) -/
def gt_isl (k : Nat) : gt_T → Bool
  | .sepBy _ _ _ _ => k == 9
  | .sepBy1 _ _ _ _ => k == 10
  | _ => false
/-- node n is the tree t; b: it stands in a list, from n on -/
def gn_tr (D : Nat → Prop) (kd wi mo : Nat → Nat) (nx : Nat → Option Nat) : gt_T → Bool → Nat → Prop
  | .cat l hi, b, n => D n ∧ (b = true → nx n = none) ∧ kd n = 0 ∧ wi n = gt_nm l ∧ (mo n = hi ∨ (hi = 255 ∧ mo n = 127)) ∧ gt_nm l ≤ 255 ∧ hi ≤ 255
  | .parser r, b, n => D n ∧ (b = true → nx n = none) ∧ kd n = 1 ∧ wi n = gt_nm r
  | .const _, b, n => D n ∧ (b = true → nx n = none) ∧ kd n = 2
  | .unary _ a, b, n => D n ∧ (b = true → nx n = none) ∧ kd n = 3 ∧ gn_tr D kd wi mo nx a false (wi n)
  | .node _ k a, b, n => D n ∧ (b = true → nx n = none) ∧ k < 3 ∧ kd n = 4 + k ∧ gn_tr D kd wi mo nx a false (wi n)
  | .trailingNode _ k _ a, b, n => D n ∧ (b = true → nx n = none) ∧ kd n = (if k = 1 then 7 else 8) ∧ gn_tr D kd wi mo nx a false (wi n)
  | .nodeWithAntiquot _ k a, b, n => D n ∧ (b = true → nx n = none) ∧ kd n = gt_nm k ∧ gn_tr D kd wi mo nx a true (wi n) ∧ (gt_nm k = 9 ∧ gt_isl 10 a = false ∨ gt_nm k = 10 ∧ gt_isl 9 a = false)
  | .sepBy a _ c _, b, n => b = true ∧ gn_tr D kd wi mo nx a false n ∧ gt_isl 10 c = false ∧ ∃ m, nx n = some m ∧ gn_tr D kd wi mo nx c true m
  | .sepBy1 a _ c _, b, n => b = true ∧ gn_tr D kd wi mo nx a false n ∧ gt_isl 9 c = false ∧ ∃ m, nx n = some m ∧ gn_tr D kd wi mo nx c true m
  | _, _, _ => False
/-- the items one after the other, by the ends found so far (none: open) -/
def gn_sq (nx : Nat → Option Nat) (tab : Nat → Nat → Option (Option Nat)) : gt_T → Nat → Nat → Option (Option Nat)
  | .sepBy _ _ c _, n, p => match tab n p with
    | none => none
    | some none => some none
    | some (some q) => match nx n with
      | none => some (some q)
      | some m => gn_sq nx tab c m q
  | _, n, p => tab n p
/-- the first that doesn't fail -/
def gn_cs (nx : Nat → Option Nat) (tab : Nat → Nat → Option (Option Nat)) : gt_T → Nat → Nat → Option (Option Nat)
  | .sepBy1 _ _ c _, n, p => match tab n p with
    | none => none
    | some (some q) => some (some q)
    | some none => match nx n with
      | none => some none
      | some m => gn_cs nx tab c m p
  | _, n, p => tab n p
/-- again and again, as long as it goes on -/
def gn_rd (tab : Nat → Nat → Option (Option Nat)) (c : Nat) : Nat → Nat → Option (Option Nat)
  | 0, p => some (some p)
  | f + 1, p => match tab c p with
    | none => none
    | some none => some (some p)
    | some (some q) => if p < q then gn_rd tab c f q else some (some p)
/-- the end of node n, which is t, at p, by the ends found so far -/
def gn_now (L : Nat) (x : Nat → Nat) (dfn : Nat → Bool) (wi : Nat → Nat) (nx : Nat → Option Nat) (tab : Nat → Nat → Option (Option Nat)) : gt_T → Nat → Nat → Option (Option Nat)
  | .cat l hi, _, p => some (if p < L ∧ gt_nm l ≤ x p ∧ x p ≤ hi then some (p + 1) else none)
  | .parser r, _, p => if dfn (gt_nm r) then tab (40 * gt_nm r) p else none
  | .const _, _, p => some (some p)
  | .unary _ _, n, p => tab (wi n) p
  | .node _ k _, n, p => if k = 0 then gn_rd tab (wi n) (L + 1 - p) p else match tab (wi n) p with
    | none => none
    | some none => if k = 1 then some none else some (some p)
    | some (some q) => if k = 1 then gn_rd tab (wi n) (L + 1 - q) q else some (some q)
  | .trailingNode _ k _ _, n, p => match tab (wi n) p with
    | none => none
    | some v => some (if v.isSome = (k == 1) then some p else none)
  | .nodeWithAntiquot _ k a, n, p => if gt_nm k = 9 then gn_sq nx tab a (wi n) p else gn_cs nx tab a (wi n) p
  | _, _, _ => none
section GN
variable {L : Nat} {x : Nat → Nat} {e : Nat → Nat → Option Nat} {Em : Nat → Bool} {A : Nat → Prop} {D : Nat → Prop} {kd wi mo : Nat → Nat} {nx : Nat → Option Nat} {dfn : Nat → Bool} {tab : Nat → Nat → Option (Option Nat)}
/-- a pattern of rules that are good for matching -/
def gn_nd (Em : Nat → Bool) (A : Nat → Prop) (t : gt_T) : Prop := (∀ r, gt_nms t r = true → A r) ∧ gt_grd Em t = false
theorem gn_nd_seq {a c : gt_T} {s : String} {b : Bool} (h : gn_nd Em A (.sepBy a s c b)) : gn_nd Em A a ∧ gn_nd Em A c := by
  obtain ⟨h1, h2⟩ := h
  have h2 : gt_grd Em a = false ∧ gt_grd Em c = false := by simpa [gt_grd] using h2
  exact ⟨⟨fun r hr => h1 r (by simp [gt_nms, hr]), h2.1⟩, ⟨fun r hr => h1 r (by simp [gt_nms, hr]), h2.2⟩⟩
theorem gn_nd_ch {a c : gt_T} {s : String} {b : Bool} (h : gn_nd Em A (.sepBy1 a s c b)) : gn_nd Em A a ∧ gn_nd Em A c := by
  obtain ⟨h1, h2⟩ := h
  have h2 : gt_grd Em a = false ∧ gt_grd Em c = false := by simpa [gt_grd] using h2
  exact ⟨⟨fun r hr => h1 r (by simp [gt_nms, hr]), h2.1⟩, ⟨fun r hr => h1 r (by simp [gt_nms, hr]), h2.2⟩⟩
theorem gn_nd_rep {a : gt_T} {n : Lean.Name} {k : Nat} (h : gn_nd Em A (.node n k a)) : gn_nd Em A a ∧ (k ≠ 2 → gt_emp Em a = false) := by
  obtain ⟨h1, h2⟩ := h
  have h2 : (k = 2 ∨ gt_emp Em a = false) ∧ gt_grd Em a = false := by
    simp only [gt_grd, Bool.or_eq_false_iff, Bool.and_eq_false_iff] at h2
    refine ⟨?_, h2.2⟩
    rcases h2.1 with h | h
    · exact .inl (by simpa using h)
    · exact .inr h
  exact ⟨⟨h1, h2.2⟩, fun hk => h2.1.resolve_left hk⟩
/-- the ends found so far are right -/
def gn_snd (L : Nat) (x : Nat → Nat) (e : Nat → Nat → Option Nat) (Em : Nat → Bool) (A : Nat → Prop) (D : Nat → Prop) (kd wi mo : Nat → Nat) (nx : Nat → Option Nat) (tab : Nat → Nat → Option (Option Nat)) : Prop :=
  ∀ t n p v, gn_tr D kd wi mo nx t false n → gn_nd Em A t → p ≤ L → tab n p = some v → v = gt_en L x e t p
theorem gn_tr_list {t : gt_T} {n : Nat} (h : gn_tr D kd wi mo nx t true n) (h9 : gt_isl 9 t = false) (h10 : gt_isl 10 t = false) : gn_tr D kd wi mo nx t false n ∧ nx n = none := by
  cases t with
  | sepBy a s c b => cases h9
  | sepBy1 a s c b => cases h10
  | cat l hi => exact ⟨⟨h.1, (fun h => by cases h), h.2.2⟩, h.2.1 rfl⟩
  | parser r => exact ⟨⟨h.1, (fun h => by cases h), h.2.2⟩, h.2.1 rfl⟩
  | const r => exact ⟨⟨h.1, (fun h => by cases h), h.2.2⟩, h.2.1 rfl⟩
  | unary n a => exact ⟨⟨h.1, (fun h => by cases h), h.2.2⟩, h.2.1 rfl⟩
  | node n k a => exact ⟨⟨h.1, (fun h => by cases h), h.2.2⟩, h.2.1 rfl⟩
  | trailingNode n k l a => exact ⟨⟨h.1, (fun h => by cases h), h.2.2⟩, h.2.1 rfl⟩
  | nodeWithAntiquot s k a => exact ⟨⟨h.1, (fun h => by cases h), h.2.2⟩, h.2.1 rfl⟩
  | _ => exact False.elim h
theorem gn_sq_snd (hs : gn_snd L x e Em A D kd wi mo nx tab) (he : gt_okE L Em A e) (t : gt_T) : ∀ n p v, gn_tr D kd wi mo nx t true n → gt_isl 10 t = false → gn_nd Em A t → p ≤ L → gn_sq nx tab t n p = some v → v = gt_en L x e t p := by
  induction t with
  | sepBy a s c b iha ihc =>
    intro n p v ht _ hn hp h
    obtain ⟨_, h1, h2, m, h3, h4⟩ := ht
    obtain ⟨na, nc⟩ := gn_nd_seq hn
    unfold gn_sq at h
    cases h5 : tab n p with
    | none => rw [h5] at h; cases h
    | some w =>
      rw [h5] at h
      have h6 := hs a n p w h1 na hp h5
      cases w with
      | none =>
        cases h
        simp only [gt_en, ← h6]
      | some q =>
        rw [h3] at h
        have h7 := gt_en_ok he a na.1 p q hp h6.symm
        have h8 := ihc m q v h4 h2 nc h7.2.1 h
        rw [h8]
        simp only [gt_en, ← h6]
  | sepBy1 a s c b iha ihc => intro n p v _ h; cases h
  | _ =>
    intro n p v ht h10 hn hp h
    exact hs _ n p v (gn_tr_list ht rfl h10).1 hn hp h
theorem gn_cs_snd (hs : gn_snd L x e Em A D kd wi mo nx tab) (t : gt_T) : ∀ n p v, gn_tr D kd wi mo nx t true n → gt_isl 9 t = false → gn_nd Em A t → p ≤ L → gn_cs nx tab t n p = some v → v = gt_en L x e t p := by
  induction t with
  | sepBy1 a s c b iha ihc =>
    intro n p v ht _ hn hp h
    obtain ⟨_, h1, h2, m, h3, h4⟩ := ht
    obtain ⟨na, nc⟩ := gn_nd_ch hn
    unfold gn_cs at h
    cases h5 : tab n p with
    | none => rw [h5] at h; cases h
    | some w =>
      rw [h5] at h
      have h6 := hs a n p w h1 na hp h5
      cases w with
      | some q =>
        cases h
        simp only [gt_en, ← h6]
      | none =>
        rw [h3] at h
        have h8 := ihc m p v h4 h2 nc hp h
        rw [h8]
        simp only [gt_en, ← h6]
  | sepBy a s c b iha ihc => intro n p v _ h; cases h
  | _ =>
    intro n p v ht h9 hn hp h
    exact hs _ n p v (gn_tr_list ht h9 rfl).1 hn hp h
theorem gn_rd_snd (hs : gn_snd L x e Em A D kd wi mo nx tab) (he : gt_okE L Em A e) {a : gt_T} (hn : gn_nd Em A a) (hem : gt_emp Em a = false) {c : Nat} (ht : gn_tr D kd wi mo nx a false c) (hL : L ≤ 9) : ∀ (f p : Nat) (v : Option Nat), p ≤ L → L < f + p → gn_rd tab c f p = some v → v = gt_tn (gt_en L x e a) 10 true p
  | 0, p, v, hp, hf, h => by omega
  | f + 1, p, v, hp, hf, h => by
    have hst : ∀ p q, p ≤ L → gt_en L x e a p = some q → p < q ∧ q ≤ L := fun p q hp h => ⟨(gt_en_ok he a hn.1 p q hp h).2.2 hem, (gt_en_ok he a hn.1 p q hp h).2.1⟩
    rw [(gt_tn_roll hst true hp (by omega)).1]
    unfold gn_rd at h
    cases h5 : tab c p with
    | none => rw [h5] at h; cases h
    | some w =>
      rw [h5] at h
      have h6 := hs a c p w ht hn hp h5
      rw [← h6]
      cases w with
      | none => cases h; rfl
      | some q =>
        have h7 := hst p q hp h6.symm
        simp only [h7.1, if_true] at h
        exact gn_rd_snd hs he hn hem ht hL f q v h7.2 (by omega) h
/-- what is found by right ends is right -/
theorem gn_now_snd (hs : gn_snd L x e Em A D kd wi mo nx tab) (he : gt_okE L Em A e) (hL : L ≤ 9) (hroot : ∀ r p v, A r → p ≤ L → tab (40 * r) p = some v → v = e r p)
    {t : gt_T} {n p : Nat} {v : Option Nat} (ht : gn_tr D kd wi mo nx t false n) (hn : gn_nd Em A t) (hp : p ≤ L) (h : gn_now L x dfn wi nx tab t n p = some v) : v = gt_en L x e t p := by
  cases t with
  | cat l hi => cases h; rfl
  | parser r =>
    simp only [gn_now] at h
    split at h
    · exact hroot _ p v (hn.1 _ (by simp [gt_nms])) hp h
    · cases h
  | const r => cases h; rfl
  | unary m a => exact hs a (wi n) p v ht.2.2.2 hn hp h
  | node m k a =>
    obtain ⟨_, _, hk3, hk, hta⟩ := ht
    obtain ⟨na, nem⟩ := gn_nd_rep hn
    have hst : k ≠ 2 → ∀ p q, p ≤ L → gt_en L x e a p = some q → p < q ∧ q ≤ L := fun hk p q hp h => ⟨(gt_en_ok he a na.1 p q hp h).2.2 (nem hk), (gt_en_ok he a na.1 p q hp h).2.1⟩
    have e0 : gt_en L x e (.node m k a) p = gt_tn (gt_en L x e a) (gt_most k) (!(k == 1)) p := rfl
    rw [e0]
    simp only [gn_now] at h
    by_cases k0 : k = 0
    · subst k0
      exact gn_rd_snd hs he na (nem (by decide)) hta hL _ p v hp (by omega) h
    · rw [if_neg k0] at h
      cases h5 : tab (wi n) p with
      | none => rw [h5] at h; cases h
      | some w =>
        rw [h5] at h
        have h6 := hs a (wi n) p w hta na hp h5
        by_cases k1 : k = 1
        · subst k1
          have e1 : gt_most 1 = 10 := rfl
          rw [e1, (gt_tn_roll (hst (by decide)) _ hp (by omega)).1, ← h6]
          cases w with
          | none => cases h; rfl
          | some q =>
            have h7 := hst (by decide) p q hp h6.symm
            exact gn_rd_snd hs he na (nem (by decide)) hta hL _ q v h7.2 (by omega) h
        · have k2 : k = 2 := by omega
          subst k2
          have e1 : gt_tn (gt_en L x e a) (gt_most 2) (!(2 == 1)) p = (match gt_en L x e a p with | none => some p | some q => some q) := rfl
          rw [e1, ← h6]
          cases w with
          | none => cases h; rfl
          | some q => cases h; rfl
  | trailingNode m k l a =>
    obtain ⟨_, _, hk, hta⟩ := ht
    simp only [gn_now] at h
    cases h5 : tab (wi n) p with
    | none => rw [h5] at h; cases h
    | some w =>
      rw [h5] at h
      have h6 := hs a (wi n) p w hta hn hp h5
      cases h
      simp only [gt_en, ← h6]
  | nodeWithAntiquot s k a =>
    obtain ⟨_, _, _, hta, hk⟩ := ht
    simp only [gn_now] at h
    rcases hk with ⟨hk, hl⟩ | ⟨hk, hl⟩
    · rw [if_pos hk] at h
      exact gn_sq_snd hs he a (wi n) p v hta hl hn hp h
    · rw [if_neg (by omega)] at h
      exact gn_cs_snd hs a (wi n) p v hta hl hn hp h
  | sepBy a s c b => cases ht.1
  | sepBy1 a s c b => cases ht.1
  | _ => exact False.elim ht
/-- nothing more is found -/
def gn_fix (L : Nat) (x : Nat → Nat) (dfn : Nat → Bool) (D : Nat → Prop) (kd wi mo : Nat → Nat) (nx : Nat → Option Nat) (tab : Nat → Nat → Option (Option Nat)) : Prop :=
  ∀ t n p, gn_tr D kd wi mo nx t false n → p ≤ L → tab n p = none → gn_now L x dfn wi nx tab t n p = none
theorem gn_rd_cmp (hs : gn_snd L x e Em A D kd wi mo nx tab) (he : gt_okE L Em A e) {a : gt_T} (hn : gn_nd Em A a) (hem : gt_emp Em a = false) {c : Nat} (ht : gn_tr D kd wi mo nx a false c) (hL : L ≤ 9) : ∀ (f p : Nat), p ≤ L → L < f + p → (∀ q, q ∈ gt_tp (gt_en L x e a) 10 p → tab c q ≠ none) → gn_rd tab c f p ≠ none
  | 0, p, hp, hf, h => by omega
  | f + 1, p, hp, hf, h => by
    have hst : ∀ p q, p ≤ L → gt_en L x e a p = some q → p < q ∧ q ≤ L := fun p q hp h => ⟨(gt_en_ok he a hn.1 p q hp h).2.2 hem, (gt_en_ok he a hn.1 p q hp h).2.1⟩
    rw [(gt_tn_roll hst true hp (by omega)).2] at h
    have h0 := h p List.mem_cons_self
    unfold gn_rd
    cases h5 : tab c p with
    | none => exact absurd h5 h0
    | some w =>
      have h6 := hs a c p w ht hn hp h5
      cases w with
      | none => exact fun h => by cases h
      | some q =>
        have h7 := hst p q hp h6.symm
        simp only [h7.1, if_true]
        exact gn_rd_cmp hs he hn hem ht hL f q h7.2 (by omega) (fun q' hq' => h q' (by rw [← h6]; exact List.mem_cons_of_mem _ hq'))
/-- where nothing more is found, all that is met by rules whose ends are found is found -/
theorem gn_cmp (hs : gn_snd L x e Em A D kd wi mo nx tab) (he : gt_okE L Em A e) (hL : L ≤ 9) (hd : ∀ r, A r → dfn r = true) (hfix : gn_fix L x dfn D kd wi mo nx tab) (t : gt_T) :
    (∀ n p, gn_tr D kd wi mo nx t false n → gn_nd Em A t → p ≤ L → (∀ d, .inr d ∈ gt_ev L x e t p → tab (40 * d.1) d.2 ≠ none) → tab n p ≠ none) ∧
    (∀ n p, gn_tr D kd wi mo nx t true n → gt_isl 10 t = false → gn_nd Em A t → p ≤ L → (∀ d, .inr d ∈ gt_ev L x e t p → tab (40 * d.1) d.2 ≠ none) → gn_sq nx tab t n p ≠ none) ∧
    (∀ n p, gn_tr D kd wi mo nx t true n → gt_isl 9 t = false → gn_nd Em A t → p ≤ L → (∀ d, .inr d ∈ gt_ev L x e t p → tab (40 * d.1) d.2 ≠ none) → gn_cs nx tab t n p ≠ none) := by
  have lst : ∀ {t : gt_T}, (∀ n p, gn_tr D kd wi mo nx t false n → gn_nd Em A t → p ≤ L → (∀ d, .inr d ∈ gt_ev L x e t p → tab (40 * d.1) d.2 ≠ none) → tab n p ≠ none) → gt_isl 9 t = false → gt_isl 10 t = false → ∀ n p, gn_tr D kd wi mo nx t true n → gn_nd Em A t → p ≤ L → (∀ d, .inr d ∈ gt_ev L x e t p → tab (40 * d.1) d.2 ≠ none) → tab n p ≠ none :=
    fun h h9 h10 n p ht hn hp hd => h n p (gn_tr_list ht h9 h10).1 hn hp hd
  induction t with
  | cat l hi =>
    have h : ∀ n p, gn_tr D kd wi mo nx (.cat l hi) false n → gn_nd Em A (.cat l hi) → p ≤ L → (∀ d, .inr d ∈ gt_ev L x e (.cat l hi) p → tab (40 * d.1) d.2 ≠ none) → tab n p ≠ none := fun n p ht hn hp _ h0 => by
      have := hfix _ n p ht hp h0
      cases this
    exact ⟨h, fun n p ht _ => lst h rfl rfl n p ht, fun n p ht _ => lst h rfl rfl n p ht⟩
  | parser r =>
    have h : ∀ n p, gn_tr D kd wi mo nx (.parser r) false n → gn_nd Em A (.parser r) → p ≤ L → (∀ d, .inr d ∈ gt_ev L x e (.parser r) p → tab (40 * d.1) d.2 ≠ none) → tab n p ≠ none := fun n p ht hn hp hev h0 => by
      have h1 := hfix _ n p ht hp h0
      simp only [gn_now] at h1
      rw [if_pos (hd _ (hn.1 _ (by simp [gt_nms])))] at h1
      exact hev (gt_nm r, p) (by simp [gt_ev]) h1
    exact ⟨h, fun n p ht _ => lst h rfl rfl n p ht, fun n p ht _ => lst h rfl rfl n p ht⟩
  | const r =>
    have h : ∀ n p, gn_tr D kd wi mo nx (.const r) false n → gn_nd Em A (.const r) → p ≤ L → (∀ d, .inr d ∈ gt_ev L x e (.const r) p → tab (40 * d.1) d.2 ≠ none) → tab n p ≠ none := fun n p ht hn hp _ h0 => by
      have := hfix _ n p ht hp h0
      cases this
    exact ⟨h, fun n p ht _ => lst h rfl rfl n p ht, fun n p ht _ => lst h rfl rfl n p ht⟩
  | unary m a ih =>
    have h : ∀ n p, gn_tr D kd wi mo nx (.unary m a) false n → gn_nd Em A (.unary m a) → p ≤ L → (∀ d, .inr d ∈ gt_ev L x e (.unary m a) p → tab (40 * d.1) d.2 ≠ none) → tab n p ≠ none := fun n p ht hn hp hev h0 => by
      have h1 := hfix _ n p ht hp h0
      exact ih.1 (wi n) p ht.2.2.2 hn hp hev h1
    exact ⟨h, fun n p ht _ => lst h rfl rfl n p ht, fun n p ht _ => lst h rfl rfl n p ht⟩
  | trailingNode m k l a ih =>
    have h : ∀ n p, gn_tr D kd wi mo nx (.trailingNode m k l a) false n → gn_nd Em A (.trailingNode m k l a) → p ≤ L → (∀ d, .inr d ∈ gt_ev L x e (.trailingNode m k l a) p → tab (40 * d.1) d.2 ≠ none) → tab n p ≠ none := fun n p ht hn hp hev h0 => by
      have h1 := hfix _ n p ht hp h0
      have h2 := ih.1 (wi n) p ht.2.2.2 hn hp hev
      simp only [gn_now] at h1
      cases h5 : tab (wi n) p with
      | none => exact h2 h5
      | some w => rw [h5] at h1; cases h1
    exact ⟨h, fun n p ht _ => lst h rfl rfl n p ht, fun n p ht _ => lst h rfl rfl n p ht⟩
  | node m k a ih =>
    have h : ∀ n p, gn_tr D kd wi mo nx (.node m k a) false n → gn_nd Em A (.node m k a) → p ≤ L → (∀ d, .inr d ∈ gt_ev L x e (.node m k a) p → tab (40 * d.1) d.2 ≠ none) → tab n p ≠ none := fun n p ht hn hp hev h0 => by
      have h1 := hfix _ n p ht hp h0
      obtain ⟨_, _, hk3, hk, hta⟩ := ht
      obtain ⟨na, nem⟩ := gn_nd_rep hn
      have hst : k ≠ 2 → ∀ p q, p ≤ L → gt_en L x e a p = some q → p < q ∧ q ≤ L := fun hk p q hp h => ⟨(gt_en_ok he a na.1 p q hp h).2.2 (nem hk), (gt_en_ok he a na.1 p q hp h).2.1⟩
      have hm : ∀ p q, p ≤ L → gt_en L x e a p = some q → p ≤ q ∧ q ≤ L := fun p q hp h => ⟨(gt_en_ok he a na.1 p q hp h).1, (gt_en_ok he a na.1 p q hp h).2.1⟩
      have htp : ∀ q, q ∈ gt_tp (gt_en L x e a) (gt_most k) p → tab (wi n) q ≠ none := fun q hq => ih.1 (wi n) q hta na (gt_tp_ok hm _ p q hp hq).2 (fun d hd => hev d (List.mem_flatMap.mpr ⟨q, hq, hd⟩))
      simp only [gn_now] at h1
      by_cases k0 : k = 0
      · subst k0
        exact gn_rd_cmp hs he na (nem (by decide)) hta hL _ p hp (by omega) htp h1
      · rw [if_neg k0] at h1
        have hp0 : tab (wi n) p ≠ none := htp p (by
          by_cases k1 : k = 2
          · subst k1; exact List.mem_cons_self
          · rw [gt_most, if_neg k1]; exact List.mem_cons_self)
        cases h5 : tab (wi n) p with
        | none => exact hp0 h5
        | some w =>
          rw [h5] at h1
          have h6 := hs a (wi n) p w hta na hp h5
          by_cases k1 : k = 1
          · subst k1
            cases w with
            | none => cases h1
            | some q =>
              have h7 := hst (by decide) p q hp h6.symm
              have e1 : gt_most 1 = 10 := rfl
              rw [e1, (gt_tn_roll (hst (by decide)) true hp (by omega)).2, ← h6] at htp
              exact gn_rd_cmp hs he na (nem (by decide)) hta hL _ q h7.2 (by omega) (fun q' hq' => htp q' (List.mem_cons_of_mem _ hq')) h1
          · cases w with
            | none => simp only [k1, if_false] at h1; cases h1
            | some q => simp only [k1, if_false] at h1; cases h1
    exact ⟨h, fun n p ht _ => lst h rfl rfl n p ht, fun n p ht _ => lst h rfl rfl n p ht⟩
  | nodeWithAntiquot s k a ih =>
    have h : ∀ n p, gn_tr D kd wi mo nx (.nodeWithAntiquot s k a) false n → gn_nd Em A (.nodeWithAntiquot s k a) → p ≤ L → (∀ d, .inr d ∈ gt_ev L x e (.nodeWithAntiquot s k a) p → tab (40 * d.1) d.2 ≠ none) → tab n p ≠ none := fun n p ht hn hp hev h0 => by
      have h1 := hfix _ n p ht hp h0
      obtain ⟨_, _, _, hta, hk⟩ := ht
      simp only [gn_now] at h1
      rcases hk with ⟨hk, hl⟩ | ⟨hk, hl⟩
      · rw [if_pos hk] at h1
        exact ih.2.1 (wi n) p hta hl hn hp hev h1
      · rw [if_neg (by omega)] at h1
        exact ih.2.2 (wi n) p hta hl hn hp hev h1
    exact ⟨h, fun n p ht _ => lst h rfl rfl n p ht, fun n p ht _ => lst h rfl rfl n p ht⟩
  | sepBy a s c b iha ihc =>
    refine ⟨(fun n p ht => by cases ht.1), fun n p ht _ hn hp hev => ?_, (fun n p _ h => by cases h)⟩
    obtain ⟨_, h1, h2, m, h3, h4⟩ := ht
    obtain ⟨na, nc⟩ := gn_nd_seq hn
    have ha := iha.1 n p h1 na hp (fun d hd => hev d (by unfold gt_ev; exact List.mem_append_left _ hd))
    unfold gn_sq
    cases h5 : tab n p with
    | none => exact absurd h5 ha
    | some w =>
      have h6 := hs a n p w h1 na hp h5
      cases w with
      | none => exact fun h => by cases h
      | some q =>
        rw [h3]
        have h7 := gt_en_ok he a na.1 p q hp h6.symm
        exact ihc.2.1 m q h4 h2 nc h7.2.1 (fun d hd => hev d (by unfold gt_ev; rw [← h6]; exact List.mem_append_right _ hd))
  | sepBy1 a s c b iha ihc =>
    refine ⟨(fun n p ht => by cases ht.1), (fun n p _ h => by cases h), fun n p ht _ hn hp hev => ?_⟩
    obtain ⟨_, h1, h2, m, h3, h4⟩ := ht
    obtain ⟨na, nc⟩ := gn_nd_ch hn
    have ha := iha.1 n p h1 na hp (fun d hd => hev d (by unfold gt_ev; exact List.mem_append_left _ hd))
    unfold gn_cs
    cases h5 : tab n p with
    | none => exact absurd h5 ha
    | some w =>
      have h6 := hs a n p w h1 na hp h5
      cases w with
      | some q => exact fun h => by cases h
      | none =>
        rw [h3]
        exact ihc.2.2 m p h4 h2 nc hp (fun d hd => hev d (by unfold gt_ev; rw [← h6]; exact List.mem_append_right _ hd))
  | _ =>
    exact ⟨fun n p ht => False.elim ht, fun n p ht => False.elim ht, fun n p ht => False.elim ht⟩
end GN
section GNR
variable {L : Nat} {x : Nat → Nat} {D : Nat → Prop} {kd wi mo : Nat → Nat} {nx : Nat → Option Nat} {dfn : Nat → Bool} {tab : Nat → Nat → Option (Option Nat)}
/-- ends lie behind where they begin, in the text -/
def gn_rng (L : Nat) (tab : Nat → Nat → Option (Option Nat)) : Prop := ∀ n p q, p ≤ L → tab n p = some (some q) → p ≤ q ∧ q ≤ L
theorem gn_sq_rng (h : gn_rng L tab) (t : gt_T) : ∀ n p q, p ≤ L → gn_sq nx tab t n p = some (some q) → p ≤ q ∧ q ≤ L := by
  induction t with
  | sepBy a s c b iha ihc =>
    intro n p q hp hq
    unfold gn_sq at hq
    cases h1 : tab n p with
    | none => rw [h1] at hq; cases hq
    | some v =>
      rw [h1] at hq
      cases v with
      | none => cases hq
      | some q1 =>
        have h2 := h n p q1 hp h1
        cases h3 : nx n with
        | none => rw [h3] at hq; cases hq; exact h2
        | some m =>
          rw [h3] at hq
          have := ihc m q1 q h2.2 hq
          omega
  | _ => exact fun n p q hp hq => h n p q hp hq
theorem gn_cs_rng (h : gn_rng L tab) (t : gt_T) : ∀ n p q, p ≤ L → gn_cs nx tab t n p = some (some q) → p ≤ q ∧ q ≤ L := by
  induction t with
  | sepBy1 a s c b iha ihc =>
    intro n p q hp hq
    unfold gn_cs at hq
    cases h1 : tab n p with
    | none => rw [h1] at hq; cases hq
    | some v =>
      rw [h1] at hq
      cases v with
      | some q1 => cases hq; exact h n p q hp h1
      | none =>
        cases h3 : nx n with
        | none => rw [h3] at hq; cases hq
        | some m =>
          rw [h3] at hq
          exact ihc m p q hp hq
  | _ => exact fun n p q hp hq => h n p q hp hq
theorem gn_rd_rng (h : gn_rng L tab) {c : Nat} : ∀ (f p q : Nat), p ≤ L → gn_rd tab c f p = some (some q) → p ≤ q ∧ q ≤ L
  | 0, p, q, hp, hq => by
    cases hq
    exact ⟨Nat.le_refl _, hp⟩
  | f + 1, p, q, hp, hq => by
    unfold gn_rd at hq
    cases h1 : tab c p with
    | none => rw [h1] at hq; cases hq
    | some v =>
      rw [h1] at hq
      cases v with
      | none => cases hq; exact ⟨Nat.le_refl _, hp⟩
      | some q1 =>
        have h2 := h c p q1 hp h1
        simp only at hq
        split at hq
        · have := gn_rd_rng h f q1 q h2.2 hq
          omega
        · cases hq; exact ⟨Nat.le_refl _, hp⟩
theorem gn_now_rng (h : gn_rng L tab) {t : gt_T} {n p q : Nat} (hp : p ≤ L) (hq : gn_now L x dfn wi nx tab t n p = some (some q)) : p ≤ q ∧ q ≤ L := by
  cases t with
  | cat l hi =>
    simp only [gn_now] at hq
    split at hq
    · cases hq; omega
    · cases hq
  | parser r =>
    simp only [gn_now] at hq
    split at hq
    · exact h _ p q hp hq
    · cases hq
  | const r => cases hq; exact ⟨Nat.le_refl _, hp⟩
  | unary m a => exact h _ p q hp hq
  | node m k a =>
    simp only [gn_now] at hq
    split at hq
    · exact gn_rd_rng h _ p q hp hq
    · cases h1 : tab (wi n) p with
      | none => rw [h1] at hq; cases hq
      | some v =>
        rw [h1] at hq
        cases v with
        | none =>
          simp only at hq
          split at hq
          · cases hq
          · cases hq; exact ⟨Nat.le_refl _, hp⟩
        | some q1 =>
          have h2 := h _ p q1 hp h1
          simp only at hq
          split at hq
          · have := gn_rd_rng h _ q1 q h2.2 hq
            omega
          · cases hq; exact h2
  | trailingNode m k l a =>
    simp only [gn_now] at hq
    cases h1 : tab (wi n) p with
    | none => rw [h1] at hq; cases hq
    | some v =>
      rw [h1] at hq
      simp only at hq
      split at hq
      · cases hq; exact ⟨Nat.le_refl _, hp⟩
      · cases hq
  | nodeWithAntiquot s k a =>
    simp only [gn_now] at hq
    split at hq
    · exact gn_sq_rng h a _ p q hp hq
    · exact gn_cs_rng h a _ p q hp hq
  | _ => cases hq
end GNR
