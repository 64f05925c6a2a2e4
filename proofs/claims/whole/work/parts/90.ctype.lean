/-! The class GrammarMachine: type, text, clear, drop, shown; putting a rule. (made by wip/tools/mk90.py) -/
section GCO
variable {d bc bs : Nat} {S : Nat → Nat → Int32} {P : Nat → Option Nat} {R : Nat → Int64} {E : gx_H} {Q : gx_R → Prop} {T : Nat → Option gt_T} {ch : Nat → Nat → Nat}

theorem gc_lwaL {x : Int32} {l : List Nat} {n : Nat} {S0 : Nat → Nat → Int32} (hcs : gp_cs x = some l) (hle : n + l.length ≤ 20)
    (hq : ∀ S', (∀ k j, k ≠ 1 → S' k j = S0 k j) → (∀ i, i < n → S' 1 i = S0 1 i) → (∀ i c, l[i]? = some c → S' 1 (n + i) = nI c) → Q (.inl (some (.int (nI (n + l.length)))), gc_h S' P R E)) :
    ∀ (f j : Nat) (S : Nat → Nat → Int32), j + f = l.length → (∀ k j, k ≠ 1 → S k j = S0 k j) → (∀ i, i < n → S 1 i = S0 1 i) → (∀ i c, i < j → l[i]? = some c → S 1 (n + i) = nI c) →
    gx_X gc_P (d + 2) 15 (18, [some (.ref 1), some (.int (nI n)), some (.int x), some (.int (nI l.length)), some (.int (nI j))], [], gc_h S P R E, bc, bs) Q := by
  have hl4 := gp_cs_len hcs
  have ea : ∀ k, nI n + nI k = nI (n + k) := fun k => (Int32.ofNat_add n k).symm
  intro f
  induction f with
  | zero =>
    intro j S hj he hlo hhi
    refine gd_M_lengthWitha_18 ⟨fun _ => ?_, fun h => absurd h (nI_nlt (by omega) (by omega))⟩
    rw [ea]
    exact hq S he hlo (fun i c hc => hhi i c (by have := (List.getElem?_eq_some_iff.mp hc).1; omega) hc)
  | succ f ih =>
    intro j S hj he hlo hhi
    have hjl : j < l.length := by omega
    have hc := gp_cs_at hcs (List.getElem?_eq_getElem hjl)
    refine gd_M_lengthWitha_18 ⟨fun h => absurd (nI_lt hjl (by omega)) h, fun _ => ⟨0, 0, ⟨Nat.zero_le _, Nat.zero_le _⟩, gc_byteOf (by omega) ?_⟩⟩
    rw [ea]
    refine gd_M_lengthWitha_35 ?_
    rw [nI_clamp (show n + j < 2 ^ 31 by omega), show nI j + Int32.ofInt 1 = nI (j + 1) from nI_1 j, ← hc.1, show vp_nar .char (nI l[j]) = nI l[j] from gp_narC _ (by omega)]
    refine ⟨vp_in_nI (by omega) (by decide), ih (j + 1) _ (by omega) (fun k j' hk => ?_) (fun i hi => ?_) (fun i c hi hc' => ?_)⟩
    · rw [gm_u_at, if_neg (by omega)]; exact he k j' hk
    · rw [gm_u_at, if_neg (by omega)]; exact hlo i hi
    · rw [gm_u_at]
      by_cases hij : i = j
      · subst hij
        rw [if_pos ⟨rfl, rfl⟩]
        rw [List.getElem?_eq_getElem hjl] at hc'
        rw [Option.some.inj hc']
      · rw [if_neg (by omega)]
        exact hhi i c (by omega) hc'
theorem gc_lwa {x : Int32} {n : Nat} (hn : n ≤ 20) (hbc : 1 ≤ bc) (hbs : 6 ≤ bs) {o3 o4 : Option Value}
    (hq : match gp_cs x with
      | none => Q (.inr "java/lang/IllegalArgumentException", gc_h S P R E)
      | some l => (20 < n + l.length → Q (.inl (some (.int (-1))), gc_h S P R E)) ∧ (n + l.length ≤ 20 → ∀ S', (∀ k j, k ≠ 1 → S' k j = S k j) → (∀ i, i < n → S' 1 i = S 1 i) → (∀ i c, l[i]? = some c → S' 1 (n + i) = nI c) → Q (.inl (some (.int (nI (n + l.length)))), gc_h S' P R E))) :
    gx_X gc_P (d + 3) 15 (0, [some (.ref 1), some (.int (nI n)), some (.int x), o3, o4], [], gc_h S P R E, bc, bs) Q := by
  refine gd_M_lengthWitha_0 ⟨1, 6, ⟨hbc, hbs⟩, gc_chars (Nat.le_refl _) (Nat.le_refl _) ?_⟩
  cases hcs : gp_cs x with
  | none => rw [hcs] at hq; exact hq
  | some l =>
    rw [hcs] at hq
    have hl4 := gp_cs_len hcs
    have ea : nI n + nI l.length = nI (n + l.length) := (Int32.ofNat_add n l.length).symm
    refine gd_M_lengthWitha_4 ?_
    rw [ea]
    refine ⟨fun h => ?_, fun h => hq.1 ((nI_ltI (a := 20) (by decide) (by omega)).mp h)⟩
    have hle : n + l.length ≤ 20 := Nat.le_of_not_lt (fun z => h (nI_lt (a := 20) z (by omega)))
    exact gc_lwaL (S0 := S) hcs hle (hq.2 hle) l.length 0 S (by omega) (fun _ _ _ => rfl) (fun _ _ => rfl) (fun i c hi => by omega)
/-- type -/
theorem gc_type {x : Int32} {n : Nat} {o2 : Option Value} (hs : S 0 5 = nI n) (hn : n ≤ 20) (hbc : 1 ≤ bc) (hbs : 6 ≤ bs)
    (hq : match gp_cs x with
      | none => Q (.inr "java/lang/IllegalArgumentException", gc_h S P R E)
      | some l => (20 < n + l.length → Q (.inl (some (.int 0)), gc_h S P R E)) ∧ (n + l.length ≤ 20 → ∀ S', (∀ k j, k ≠ 1 → (k = 0 → j ≠ 5) → S' k j = S k j) → S' 0 5 = nI (n + l.length) → (∀ i, i < n → S' 1 i = S 1 i) → (∀ i c, l[i]? = some c → S' 1 (n + i) = nI c) → Q (.inl (some (.int 1)), gc_h S' P R E))) :
    gx_X gc_P (d + 4) 14 (0, [some (.ref 0), some (.int x), o2], [], gc_h S P R E, bc, bs) Q := by
  refine gd_M_type_0 ?_
  rw [hs]
  refine ⟨1, 6, ⟨hbc, hbs⟩, gc_lwa hn (Nat.le_refl _) (Nat.le_refl _) ?_⟩
  cases hcs : gp_cs x with
  | none => rw [hcs] at hq; exact hq
  | some l =>
    rw [hcs] at hq
    refine ⟨fun h => gd_M_type_12 ⟨fun h' => absurd rfl h', fun _ => hq.1 h⟩, fun h S' h1 h2 h3 => gd_M_type_12 ⟨fun _ => hq.2 h _ (fun k j k1 k2 => ?_) ?_ (fun i hi => ?_) (fun i c hc => ?_), fun h' => ?_⟩⟩
    · rw [gm_u_at, if_neg (by omega)]; exact h1 k j k1
    · rw [gm_u_at, if_pos ⟨rfl, rfl⟩]
    · rw [gm_u_at, if_neg (by omega)]; exact h2 i hi
    · rw [gm_u_at, if_neg (by omega)]; exact h3 i c hc
    · have := nI_pos (n := n + l.length) (by omega)
      rw [h'] at this
      exact absurd (by decide) this

theorem gc_lwbL {x : Int32} {l : List Nat} {n : Nat} {S0 : Nat → Nat → Int32} (hcs : gp_cs x = some l) (hle : n + l.length ≤ 9)
    (hq : ∀ S', (∀ k j, k ≠ 2 → S' k j = S0 k j) → (∀ i, i < n → S' 2 i = S0 2 i) → (∀ i c, l[i]? = some c → S' 2 (n + i) = nI c) → Q (.inl (some (.int (nI (n + l.length)))), gc_h S' P R E)) :
    ∀ (f j : Nat) (S : Nat → Nat → Int32), j + f = l.length → (∀ k j, k ≠ 2 → S k j = S0 k j) → (∀ i, i < n → S 2 i = S0 2 i) → (∀ i c, i < j → l[i]? = some c → S 2 (n + i) = nI c) →
    gx_X gc_P (d + 2) 15 (18, [some (.ref 2), some (.int (nI n)), some (.int x), some (.int (nI l.length)), some (.int (nI j))], [], gc_h S P R E, bc, bs) Q := by
  have hl4 := gp_cs_len hcs
  have ea : ∀ k, nI n + nI k = nI (n + k) := fun k => (Int32.ofNat_add n k).symm
  intro f
  induction f with
  | zero =>
    intro j S hj he hlo hhi
    refine gd_M_lengthWithb_18 ⟨fun _ => ?_, fun h => absurd h (nI_nlt (by omega) (by omega))⟩
    rw [ea]
    exact hq S he hlo (fun i c hc => hhi i c (by have := (List.getElem?_eq_some_iff.mp hc).1; omega) hc)
  | succ f ih =>
    intro j S hj he hlo hhi
    have hjl : j < l.length := by omega
    have hc := gp_cs_at hcs (List.getElem?_eq_getElem hjl)
    refine gd_M_lengthWithb_18 ⟨fun h => absurd (nI_lt hjl (by omega)) h, fun _ => ⟨0, 0, ⟨Nat.zero_le _, Nat.zero_le _⟩, gc_byteOf (by omega) ?_⟩⟩
    rw [ea]
    refine gd_M_lengthWithb_35 ?_
    rw [nI_clamp (show n + j < 2 ^ 31 by omega), show nI j + Int32.ofInt 1 = nI (j + 1) from nI_1 j, ← hc.1, show vp_nar .char (nI l[j]) = nI l[j] from gp_narC _ (by omega)]
    refine ⟨vp_in_nI (by omega) (by decide), ih (j + 1) _ (by omega) (fun k j' hk => ?_) (fun i hi => ?_) (fun i c hi hc' => ?_)⟩
    · rw [gm_u_at, if_neg (by omega)]; exact he k j' hk
    · rw [gm_u_at, if_neg (by omega)]; exact hlo i hi
    · rw [gm_u_at]
      by_cases hij : i = j
      · subst hij
        rw [if_pos ⟨rfl, rfl⟩]
        rw [List.getElem?_eq_getElem hjl] at hc'
        rw [Option.some.inj hc']
      · rw [if_neg (by omega)]
        exact hhi i c (by omega) hc'
theorem gc_lwb {x : Int32} {n : Nat} (hn : n ≤ 9) (hbc : 1 ≤ bc) (hbs : 6 ≤ bs) {o3 o4 : Option Value}
    (hq : match gp_cs x with
      | none => Q (.inr "java/lang/IllegalArgumentException", gc_h S P R E)
      | some l => (9 < n + l.length → Q (.inl (some (.int (-1))), gc_h S P R E)) ∧ (n + l.length ≤ 9 → ∀ S', (∀ k j, k ≠ 2 → S' k j = S k j) → (∀ i, i < n → S' 2 i = S 2 i) → (∀ i c, l[i]? = some c → S' 2 (n + i) = nI c) → Q (.inl (some (.int (nI (n + l.length)))), gc_h S' P R E))) :
    gx_X gc_P (d + 3) 15 (0, [some (.ref 2), some (.int (nI n)), some (.int x), o3, o4], [], gc_h S P R E, bc, bs) Q := by
  refine gd_M_lengthWithb_0 ⟨1, 6, ⟨hbc, hbs⟩, gc_chars (Nat.le_refl _) (Nat.le_refl _) ?_⟩
  cases hcs : gp_cs x with
  | none => rw [hcs] at hq; exact hq
  | some l =>
    rw [hcs] at hq
    have hl4 := gp_cs_len hcs
    have ea : nI n + nI l.length = nI (n + l.length) := (Int32.ofNat_add n l.length).symm
    refine gd_M_lengthWithb_4 ?_
    rw [ea]
    refine ⟨fun h => ?_, fun h => hq.1 ((nI_ltI (a := 9) (by decide) (by omega)).mp h)⟩
    have hle : n + l.length ≤ 9 := Nat.le_of_not_lt (fun z => h (nI_lt (a := 9) z (by omega)))
    exact gc_lwbL (S0 := S) hcs hle (hq.2 hle) l.length 0 S (by omega) (fun _ _ _ => rfl) (fun _ _ => rfl) (fun i c hi => by omega)
/-- text -/
theorem gc_text {x : Int32} {n : Nat} {o2 : Option Value} (hs : S 0 6 = nI n) (hn : n ≤ 9) (hbc : 1 ≤ bc) (hbs : 6 ≤ bs)
    (hq : match gp_cs x with
      | none => Q (.inr "java/lang/IllegalArgumentException", gc_h S P R E)
      | some l => (9 < n + l.length → Q (.inl (some (.int 0)), gc_h S P R E)) ∧ (n + l.length ≤ 9 → ∀ S', (∀ k j, k ≠ 2 → (k = 0 → j ≠ 6) → S' k j = S k j) → S' 0 6 = nI (n + l.length) → (∀ i, i < n → S' 2 i = S 2 i) → (∀ i c, l[i]? = some c → S' 2 (n + i) = nI c) → Q (.inl (some (.int 1)), gc_h S' P R E))) :
    gx_X gc_P (d + 4) 48 (0, [some (.ref 0), some (.int x), o2], [], gc_h S P R E, bc, bs) Q := by
  refine gd_M_text_0 ?_
  rw [hs]
  refine ⟨1, 6, ⟨hbc, hbs⟩, gc_lwb hn (Nat.le_refl _) (Nat.le_refl _) ?_⟩
  cases hcs : gp_cs x with
  | none => rw [hcs] at hq; exact hq
  | some l =>
    rw [hcs] at hq
    refine ⟨fun h => gd_M_text_12 ⟨fun h' => absurd rfl h', fun _ => hq.1 h⟩, fun h S' h1 h2 h3 => gd_M_text_12 ⟨fun _ => hq.2 h _ (fun k j k1 k2 => ?_) ?_ (fun i hi => ?_) (fun i c hc => ?_), fun h' => ?_⟩⟩
    · rw [gm_u_at, if_neg (by omega)]; exact h1 k j k1
    · rw [gm_u_at, if_pos ⟨rfl, rfl⟩]
    · rw [gm_u_at, if_neg (by omega)]; exact h2 i hi
    · rw [gm_u_at, if_neg (by omega)]; exact h3 i c hc
    · have := nI_pos (n := n + l.length) (by omega)
      rw [h'] at this
      exact absurd (by decide) this

/-- remove: from the k-th character on -/
theorem gc_removeL {r : Nat} (hr : r < 4) {a2 : Int32} (hb : narrow .boolean (.int a2) = .int a2) {S0 : Nat → Nat → Int32} (hq : ∀ S', (∀ k j, (k = 7 → j < 20 * r ∨ 20 * r + 20 ≤ j) → S' k j = S0 k j) → (∀ j, j < 20 → S' 7 (20 * r + j) = 0) → Q (.inl (some (.int a2)), gc_h S' P R E)) :
    ∀ (f n : Nat) (S : Nat → Nat → Int32), n + f = 20 → (∀ k j, (k = 7 → j < 20 * r ∨ 20 * r + 20 ≤ j) → S k j = S0 k j) → (∀ j, j < n → S 7 (20 * r + j) = 0) →
    gx_X gc_P (d + 1) 45 (24, [some (.ref 5), some (.int (nI r)), some (.int a2), some (.int (nI n))], [], gc_h S P R E, bc, bs) Q := by
  intro f
  induction f with
  | zero =>
    intro n S hn he hz
    have e : n = 20 := by omega
    subst e
    exact gd_G_remove_24 ⟨fun _ => ⟨hb, hq S he hz⟩, fun h => absurd h (by decide)⟩
  | succ f ih =>
    intro n S hn he hz
    refine gd_G_remove_24 ⟨fun h => absurd (nI_lt (b := 20) (by omega) (by decide)) h, fun _ => ?_⟩
    rw [gc_ix, nI_clamp (show 20 * r + n < 2 ^ 31 by omega), show nI n + Int32.ofInt 1 = nI (n + 1) from nI_1 n]
    refine ⟨vp_in_nI (by omega) (by decide), ih (n + 1) _ (by omega) (fun k j hk => ?_) (fun j hj => ?_)⟩
    · rw [gm_u_at, if_neg (by omega)]; exact he k j hk
    · rw [gm_u_at]
      by_cases hjn : j = n
      · rw [if_pos ⟨rfl, by omega⟩]; rfl
      · rw [if_neg (by omega)]; exact hz j (by omega)
theorem gc_remove (hg : gc_gr S P E T ch) {r : Nat} (hr : r < 4) {o2 o3 : Option Value}
    (hq : ∀ S', (∀ k j, (k = 7 → j < 20 * r ∨ 20 * r + 20 ≤ j) → S' k j = S k j) → (∀ j, j < 20 → S' 7 (20 * r + j) = 0) → Q (.inl (some (.int (gp_b (T r).isSome))), gc_h S' (va_up P r none) R E)) :
    gx_X gc_P (d + 1) 45 (0, [some (.ref 5), some (.int (nI r)), o2, o3], [], gc_h S P R E, bc, bs) Q := by
  have hin : vp_in (nI r) 4 := vp_in_nI hr (by decide)
  have go : ∀ b : Bool, (T r).isSome = b → gx_X gc_P (d + 1) 45 (14, [some (.ref 5), some (.int (nI r)), o2, o3], [.int (gp_b b)], gc_h S P R E, bc, bs) Q := fun b hb => by
    refine gd_G_remove_14 ?_
    rw [nI_clamp (show r < 2 ^ 31 by omega)]
    refine ⟨hin, gc_removeL (S0 := S) hr (gp_b_nar b) (fun S' h1 h2 => ?_) 20 0 S rfl (fun _ _ _ => rfl) (fun j hj => by omega)⟩
    have := hq S' h1 h2
    rw [hb] at this
    exact this
  refine gd_G_remove_0 ?_
  rw [nI_clamp (show r < 2 ^ 31 by omega)]
  refine ⟨hin, fun hp => go false ?_, fun p hp => go true ?_⟩
  · cases ht : T r with
    | none => rfl
    | some t =>
      obtain ⟨w, hw, _⟩ := hg.2.1 r t ht
      rw [hw] at hp
      cases hp
  · cases ht : T r with
    | none => rw [hg.1 r hr ht] at hp; cases hp
    | some t => rfl
theorem gc_up_same {α : Type} (f : Nat → α) (k : Nat) (v : α) : va_up f k v k = v := if_pos rfl
theorem gc_up_ne {α : Type} (f : Nat → α) {k j : Nat} (v : α) (h : j ≠ k) : va_up f k v j = f j := if_neg h
theorem gc_gr_drop (hg : gc_gr S P E T ch) {r : Nat} (hr : r < 4) {S' : Nat → Nat → Int32} (h1 : ∀ k j, (k = 7 → j < 20 * r ∨ 20 * r + 20 ≤ j) → S' k j = S k j) (h2 : ∀ j, j < 20 → S' 7 (20 * r + j) = 0) :
    gc_gr S' (va_up P r none) E (va_up T r none) (va_up ch r (fun _ => 0)) := by
  obtain ⟨g1, g2, g3, g4, g5⟩ := hg
  refine ⟨fun r' hr' ht => ?_, fun r' t ht => ?_, fun r' t ht => ?_, fun r' j hr' hj => ?_, fun r' k hr' hk => ?_⟩
  · by_cases e : r' = r
    · subst e; exact gc_up_same _ _ _
    · rw [gc_up_ne _ _ e] at ht ⊢; exact g1 r' hr' ht
  · by_cases e : r' = r
    · subst e; rw [gc_up_same] at ht; cases ht
    · rw [gc_up_ne _ _ e] at ht ⊢; exact g2 r' t ht
  · by_cases e : r' = r
    · subst e; rw [gc_up_same] at ht; cases ht
    · rw [gc_up_ne _ _ e] at ht; exact g3 r' t ht
  · by_cases e : r' = r
    · subst e; rw [gc_up_same]; exact ⟨h2 j hj, Nat.zero_le _⟩
    · rw [gc_up_ne _ _ e, h1 7 _ (fun _ => by omega)]; exact g4 r' j hr' hj
  · by_cases e : r' = r
    · subst e
      rw [gc_up_same]
      unfold gt_U
      rw [gc_up_same]
      exact ⟨(fun h => by cases h), fun ⟨j, _, _, h⟩ => by omega⟩
    · rw [gc_up_ne _ _ e]
      have : gt_U (va_up T r none) r' = gt_U T r' := by funext k; unfold gt_U; rw [gc_up_ne _ _ e]
      rw [this]
      exact g5 r' k hr' hk
/-- drop -/
theorem gc_drop (hg : gc_gr S P E T ch) {a : Int32} (hbc : 1 ≤ bc) (hbs : 6 ≤ bs) (h1 : ¬ (¬ a < 0 ∧ a < 4) → Q (.inr "java/lang/IndexOutOfBoundsException", gc_h S P R E))
    (h0 : ∀ r, r < 4 → a = nI r → ∀ S', (∀ k j, k ≠ 7 → S' k j = S k j) → gc_gr S' (va_up P r none) E (va_up T r none) (va_up ch r (fun _ => 0)) → Q (.inl (some (.int (gp_b (T r).isSome))), gc_h S' (va_up P r none) R E)) :
    gx_X gc_P (d + 3) 46 (0, [some (.ref 0), some (.int a)], [], gc_h S P R E, bc, bs) Q := by
  refine gd_M_drop_0 ⟨1, 6, ⟨hbc, hbs⟩, gc_refuse (d := d) (Nat.le_refl _) (Nat.le_refl _) h1 (fun hr => gd_M_drop_4 ⟨0, 0, ⟨Nat.zero_le _, Nat.zero_le _⟩, ?_⟩)⟩
  obtain ⟨r, hr4, rfl⟩ := gp_rule hr
  exact gc_remove hg hr4 (fun S' e1 e2 => gd_M_drop_12 ⟨gp_b_nar _, h0 r hr4 rfl S' (fun k j hk => e1 k j (fun h => absurd h hk)) (gc_gr_drop hg hr4 e1 e2)⟩)
/-- shown -/
theorem gc_shown (hg : gc_gr S P E T ch) {a1 a2 : Int32}
    (h0 : ¬ (∃ r k, r < 4 ∧ k < 20 ∧ a1 = nI r ∧ a2 = nI k) → Q (.inl (some (.int 0)), gc_h S P R E))
    (h1 : ∀ r k, r < 4 → k < 20 → a1 = nI r → a2 = nI k → Q (.inl (some (.int (nI (ch r k)))), gc_h S P R E)) :
    gx_X gc_P (d + 2) 4 (0, [some (.ref 0), some (.int a1), some (.int a2)], [], gc_h S P R E, bc, bs) Q := by
  have nz : narrow .char (.int 0) = .int 0 := rfl
  refine gd_M_shown_0 ⟨0, 0, ⟨Nat.zero_le _, Nat.zero_le _⟩, gc_isRule (gd_M_shown_4 ⟨fun h => gd_M_shown_20 ⟨nz, h0 ?_⟩, fun h => ⟨0, 0, ⟨Nat.zero_le _, Nat.zero_le _⟩, ?_⟩⟩)⟩
  · rintro ⟨r, k, hr, hk, rfl, rfl⟩
    rw [if_pos ⟨nI_pos (by omega), nI_lt (b := 4) hr (by decide)⟩] at h
    exact absurd h (by decide)
  · have hr' : ¬ a1 < 0 ∧ a1 < 4 := by
      by_cases hr : ¬ a1 < 0 ∧ a1 < 4
      · exact hr
      · rw [if_neg hr] at h; exact absurd rfl h
    obtain ⟨r, hr, rfl⟩ := gp_rule hr'
    have no : ¬ (∃ k, k < 20 ∧ a2 = nI k) → gx_X gc_P (d + 1) 6 (24, [some (.ref 5), some (.int (nI r)), some (.int a2)], [], gc_h S P R E, 0, 0) (gx_k [some (.ref 0), some (.int (nI r)), some (.int a2)] [] 16 (bc - 0) (bs - 0) (fun S9 => gx_X gc_P (d + 1 + 1) 4 S9 Q) Q) := fun hn =>
      gd_G_lineCharacter_24 (gd_G_lineCharacter_25 ⟨nz, gd_M_shown_16 (gd_M_shown_20 ⟨nz, h0 (fun ⟨r', k, hr2, hk, e1, e2⟩ => hn ⟨k, hk, e2⟩)⟩)⟩)
    refine gd_G_lineCharacter_0 ⟨fun h2 => no ?_, fun h2 => ⟨fun h3 => no ?_, fun h3 => ?_⟩⟩
    · rintro ⟨k, hk, rfl⟩
      exact absurd h2 (nI_pos (by omega))
    · rintro ⟨k, hk, rfl⟩
      exact h3 (nI_lt (b := 20) hk (by decide))
    · obtain ⟨k, hk31, rfl⟩ := nI_of h2
      have hk : k < 20 := (nI_ltI (b := 20) hk31 (by decide)).mp h3
      obtain ⟨c1, c2⟩ := hg.2.2.2.1 r k hr hk
      rw [gc_ix, nI_clamp (show 20 * r + k < 2 ^ 31 by omega), c1]
      have nc : narrow .char (.int (nI (ch r k))) = .int (nI (ch r k)) := congrArg Value.int (gp_nar16 _ (by omega))
      exact ⟨vp_in_nI (by omega) (by decide), gd_G_lineCharacter_25 ⟨nc, gd_M_shown_16 (gd_M_shown_20 ⟨nc, h1 r k hr hk rfl rfl⟩)⟩⟩
/-- put: a rule's line and pattern -/
theorem gc_put (hg : gc_gr S P E T ch) {r w nn : Nat} {t : gt_T} {c : Nat → Nat} (hr : r < 4) (hnn : nn ≤ 20) (hc : ∀ i, i < nn → S 1 i = nI (c i) ∧ c i ≤ 126) (hc0 : ∀ i, nn ≤ i → c i = 0) (htr : gc_tr E t (.inl none) w) (hht : gt_ht t ≤ 100) (hwf : ∀ k, gt_nms t k = true → k < 4) (hnm : ∀ k, k < 4 → (gt_nms t k = true ↔ ∃ j, 1 ≤ j ∧ j < 20 ∧ c j = 65 + k))
    (hq : ∀ S', (∀ k j, k ≠ 7 → S' k j = S k j) → gc_gr S' (va_up P r (some w)) E (va_up T r (some t)) (va_up ch r c) → Q (.inl none, gc_h S' (va_up P r (some w)) R E)) :
    gx_X gc_P (d + 2) 44 (0, [some (.ref 5), some (.int (nI r)), some (.ref w), some (.ref 1), some (.int (nI nn))], [], gc_h S P R E, bc, bs) Q := by
  refine gd_G_put_0 ⟨0, 0, ⟨Nat.zero_le _, Nat.zero_le _⟩, gc_remove hg hr (fun S1 e1 e2 => gd_G_put_5 ?_)⟩
  have g1 := gc_gr_drop hg hr e1 e2
  have e3 : nI r * 20 = nI (20 * r) := by rw [show nI r * 20 = nI (r * 20) from (Int32.ofNat_mul r 20).symm, Nat.mul_comm]
  have h0 : (0 : Int32).toNatClampNeg = 0 := rfl
  have h1 : ∀ j, S1 1 j = S 1 j := fun j => e1 1 j (by omega)
  rw [e3, h0, nI_clamp (show nn < 2 ^ 31 by omega), nI_clamp (show 20 * r < 2 ^ 31 by omega), nI_clamp (show r < 2 ^ 31 by omega)]
  have hup : va_up (va_up P r none) r (some w) = va_up P r (some w) := by
    funext j
    unfold va_up
    split <;> rfl
  rw [hup]
  refine ⟨?_, vp_in_nI hr (by decide), ⟨⟨by decide, nI_pos (by omega), nI_pos (by omega)⟩, by omega, by omega, fun i hi => ?_⟩, hq _ (fun k j hk => ?_) ?_⟩
  · exact gc_an_cls ((gc_emptyable (Em := fun _ => false) t).1 w 100 htr hht)
  · rw [Nat.zero_add, h1, (hc i hi).1]
    exact gp_fits _ (by have := (hc i hi).2; omega)
  · rw [gc_v_at, if_neg hk]
    exact e1 k j (fun h => absurd h hk)
  · obtain ⟨g1, g2, g3, g4, g5⟩ := g1
    refine ⟨fun r' hr' ht => ?_, fun r' t' ht => ?_, fun r' t' ht => ?_, fun r' j hr' hj => ?_, fun r' k hr' hk => ?_⟩
    · by_cases e : r' = r
      · subst e; rw [gc_up_same] at ht; cases ht
      · have := g1 r' hr' (by rw [gc_up_ne _ _ e] at ht ⊢; exact ht)
        rw [gc_up_ne _ _ e] at this ⊢; exact this
    · by_cases e : r' = r
      · subst e
        rw [gc_up_same] at ht ⊢
        cases ht
        exact ⟨w, rfl, htr, hht⟩
      · have := g2 r' t' (by rw [gc_up_ne _ _ e] at ht ⊢; exact ht)
        rw [gc_up_ne _ _ e] at this ⊢; exact this
    · by_cases e : r' = r
      · subst e
        rw [gc_up_same] at ht
        cases ht
        exact ⟨hr, hwf⟩
      · exact g3 r' t' (by rw [gc_up_ne _ _ e] at ht ⊢; exact ht)
    · rw [gc_v_at, if_pos rfl]
      simp only [va_cpy]
      by_cases e : r' = r
      · subst e
        rw [gc_up_same]
        rcases Nat.lt_or_ge j nn with hl | hl
        · rw [if_pos (by omega), show 0 + (20 * r' + j - 20 * r') = j by omega, h1]
          exact hc j hl
        · rw [if_neg (by omega), e2 j hj, hc0 j hl]
          exact ⟨rfl, Nat.zero_le _⟩
      · rw [if_neg (by omega), gc_up_ne _ _ e]
        have := g4 r' j hr' hj
        rw [gc_up_ne _ _ e] at this
        exact this
    · by_cases e : r' = r
      · subst e
        rw [gc_up_same]
        unfold gt_U
        rw [gc_up_same]
        exact hnm k hk
      · rw [gc_up_ne _ _ e]
        have := g5 r' k hr' hk
        rw [gc_up_ne _ _ e] at this
        unfold gt_U at this ⊢
        rw [gc_up_ne _ _ e] at this ⊢
        exact this
end GCO
