/-! Class Chart: one row being filled; trying a place, captures, following a rule. -/
def gc_e : Option Nat → Int32
  | none => -1
  | some q => nI q
/-- a set of rows as bits of a long -/
def gp_L (x : Int64) (v : Nat → Bool) : Prop := ∀ k, k < 64 → x.toBitVec.getLsbD k = (decide (k < 40) && v k)
theorem gp_L_or {x y : Int64} {v w : Nat → Bool} (h : gp_L x v) (h' : gp_L y w) : gp_L (x ||| y) (fun k => v k || w k) := fun k hk => by
  rw [Int64.toBitVec_or, BitVec.getLsbD_or, h k hk, h' k hk]
  cases decide (k < 40) <;> simp
theorem gp_L_one : ∀ k, k < 40 → ∀ j, j < 64 → ((1 : Int64) <<< ((nI k).toInt64 &&& 63)).toBitVec.getLsbD j = (decide (j < 40) && (j == k)) := by decide +kernel
theorem gp_mx : ∀ f, f < 11 → ∀ g, g < 11 → (if nI f + -1 < nI g + -1 then nI g + -1 else nI f + -1) = nI (max f g) + -1 := by decide +kernel
theorem gp_p1 (p : Nat) : nI p = nI (p + 1) + -1 := by
  rw [show nI (p + 1) = nI p + 1 from Int32.ofNat_add p 1, Int32.add_assoc, show (1 : Int32) + -1 = 0 by decide, Int32.add_zero]
/-- the text that the chart has -/
def gc_tx (S : Nat → Nat → Int32) (L : Nat) (x : Nat → Nat) : Prop := S 9 1 = nI L ∧ L ≤ 9 ∧ ∀ p, p < L → S 10 p = nI (x p) ∧ x p ≤ 126
/-- the row that is being filled -/
def gc_st (S : Nat → Nat → Int32) (R : Nat → Int64) (i f : Nat) (v : Nat → Bool) (n : Nat) : Prop := S 9 2 = nI i ∧ i < 40 ∧ S 12 i = nI f + -1 ∧ f ≤ 10 ∧ gp_L (R i) v ∧ S 14 i = nI n ∧ n ≤ 40
/-- captures of row i from the n-th on -/
def gc_cp (S : Nat → Nat → Int32) (i n : Nat) (c : List (Nat × Nat)) : Prop := ∀ j a b, c[j]? = some (a, b) → n + j < 40 → S 15 (40 * i + (n + j)) = nI a ∧ S 16 (40 * i + (n + j)) = nI b
/-- only row i may differ, its first n captures are kept -/
def gc_to (S : Nat → Nat → Int32) (R : Nat → Int64) (S' : Nat → Nat → Int32) (R' : Nat → Int64) (i n : Nat) : Prop :=
  (∀ k j, (k = 12 → j ≠ i) → (k = 14 → j ≠ i) → (k = 15 ∨ k = 16 → j < 40 * i + n ∨ 40 * i + 40 ≤ j) → S' k j = S k j) ∧ ∀ j, j ≠ i → R' j = R j
/-- a row that is filled -/
def gc_row (S : Nat → Nat → Int32) (R : Nat → Int64) (w : Nat) (e : Option Nat) (f : Nat) (v : Nat → Bool) (c : List (Nat × Nat)) : Prop := S 11 w = gc_e e ∧ S 12 w = nI f + -1 ∧ f ≤ 10 ∧ gp_L (R w) v ∧ S 14 w = nI (min 40 c.length) ∧ gc_cp S w 0 c
theorem gc_to.rfl {S : Nat → Nat → Int32} {R : Nat → Int64} {i n : Nat} : gc_to S R S R i n := ⟨fun _ _ _ _ _ => Eq.refl _, fun _ _ => Eq.refl _⟩
theorem gc_to.trans {S S' S2 : Nat → Nat → Int32} {R R' R2 : Nat → Int64} {i n m : Nat} (h : gc_to S R S' R' i n) (h' : gc_to S' R' S2 R2 i m) (hm : n ≤ m) : gc_to S R S2 R2 i n :=
  ⟨fun k j h1 h2 h3 => by rw [h'.1 k j h1 h2 (fun h => by have := h3 h; omega), h.1 k j h1 h2 h3], fun j hj => by rw [h'.2 j hj, h.2 j hj]⟩
theorem gc_to.tx {S S' : Nat → Nat → Int32} {R R' : Nat → Int64} {i n L : Nat} {x : Nat → Nat} (h : gc_to S R S' R' i n) (hx : gc_tx S L x) : gc_tx S' L x :=
  ⟨by rw [h.1 9 1 (by omega) (by omega) (by omega)]; exact hx.1, hx.2.1, fun p hp => by rw [h.1 10 p (by omega) (by omega) (by omega)]; exact hx.2.2 p hp⟩
theorem gc_to.row {S S' : Nat → Nat → Int32} {R R' : Nat → Int64} {i n w f : Nat} {e : Option Nat} {v : Nat → Bool} {c : List (Nat × Nat)} (h : gc_to S R S' R' i n) (hw : w ≠ i) (hr : gc_row S R w e f v c) : gc_row S' R' w e f v c := by
  obtain ⟨h1, h2, h3, h4, h5, h6⟩ := hr
  refine ⟨?_, ?_, h3, ?_, ?_, fun j a b hj hj' => ?_⟩
  · rw [h.1 11 w (by omega) (by omega) (by omega)]; exact h1
  · rw [h.1 12 w (by omega) (by omega) (by omega)]; exact h2
  · rw [h.2 w hw]; exact h4
  · rw [h.1 14 w (by omega) (by omega) (by omega)]; exact h5
  · rw [h.1 15 _ (by omega) (by omega) (by omega), h.1 16 _ (by omega) (by omega) (by omega)]
    exact h6 j a b hj hj'
theorem gc_cp.to {S S' : Nat → Nat → Int32} {R R' : Nat → Int64} {i n m : Nat} {c : List (Nat × Nat)} (h : gc_to S R S' R' i m) (hc : gc_cp S i n c) (hm : min 40 (n + c.length) ≤ m) : gc_cp S' i n c := fun j a b hj hj' => by
  have hl := (List.getElem?_eq_some_iff.mp hj).1
  rw [h.1 15 _ (by omega) (by omega) (by omega), h.1 16 _ (by omega) (by omega) (by omega)]
  exact hc j a b hj hj'
theorem gc_cp.append {S : Nat → Nat → Int32} {i n : Nat} {c c' : List (Nat × Nat)} (h : gc_cp S i n c) (h' : gc_cp S i (n + c.length) c') : gc_cp S i n (c ++ c') := fun j a b hj hj' => by
  rcases Nat.lt_or_ge j c.length with hl | hl
  · rw [List.getElem?_append_left hl] at hj
    exact h j a b hj hj'
  · rw [List.getElem?_append_right hl] at hj
    have := h' (j - c.length) a b hj (by omega)
    rw [show n + c.length + (j - c.length) = n + j by omega] at this
    exact this
/-- where no more is kept, any captures do -/
theorem gc_cp.full {S : Nat → Nat → Int32} {i n : Nat} {c : List (Nat × Nat)} (h : 40 ≤ n) : gc_cp S i n c := fun j a b hj hj' => by omega
section GCI
variable {d bc bs : Nat} {S : Nat → Nat → Int32} {P : Nat → Option Nat} {R : Nat → Int64} {E : gx_H} {Q : gx_R → Prop} {L i f n : Nat} {x : Nat → Nat} {v : Nat → Bool}
/-- tryPlace -/
theorem gc_try (h : gc_st S R i f v n) (hx : gc_tx S L x) {lo hi p : Nat} (hlo : lo ≤ 255) (hhi : hi ≤ 255) (hp : p ≤ L)
    (q1 : p < L ∧ lo ≤ x p ∧ x p ≤ hi → Q (.inl (some (.int (nI (p + 1)))), gc_h S P R E))
    (q2 : ¬ (p < L ∧ lo ≤ x p ∧ x p ≤ hi) → ∀ S', gc_st S' R i (max f (p + 1)) v n → gc_to S R S' R i n → Q (.inl (some (.int (-1))), gc_h S' P R E)) :
    gx_X gc_P (d + 1) 97 (0, [some (.ref 9), some (.int (nI p)), some (.int (nI lo)), some (.int (nI hi))], [], gc_h S P R E, bc, bs) Q := by
  obtain ⟨h1, h2, h3, h4, h5, h6, h7⟩ := h
  obtain ⟨x1, x2, x3⟩ := hx
  have hcl : (nI p).toNatClampNeg = p := nI_clamp (by omega)
  have hci : (nI i).toNatClampNeg = i := nI_clamp (by omega)
  have no : ¬ (p < L ∧ lo ≤ x p ∧ x p ≤ hi) → gx_X gc_P (d + 1) 97 (32, [some (.ref 9), some (.int (nI p)), some (.int (nI lo)), some (.int (nI hi))], [], gc_h S P R E, bc, bs) Q := fun hn => by
    refine gd_C_tryPlace_32 ?_
    rw [h1, hci, h3, gp_p1 p, gp_mx f (by omega) (p + 1) (by omega)]
    refine ⟨vp_in_nI h2 (by decide), vp_in_nI h2 (by decide), q2 hn _ ⟨?_, h2, ?_, by omega, h5, ?_, h7⟩ ⟨fun k j g1 g2 g3 => ?_, fun j _ => rfl⟩⟩
    · rw [gm_u_at, if_neg (by omega)]; exact h1
    · rw [gm_u_at, if_pos ⟨rfl, rfl⟩]
    · rw [gm_u_at, if_neg (by omega)]; exact h6
    · rw [gm_u_at, if_neg (by omega)]
  refine gd_C_tryPlace_0 ?_
  rw [x1, hcl]
  refine ⟨fun h => no (fun hh => h (nI_lt hh.1 (by omega))), fun h => ?_⟩
  have hpL : p < L := (nI_ltI (by omega) (by omega)).mp h
  obtain ⟨c1, c2⟩ := x3 p hpL
  rw [c1]
  refine ⟨vp_in_nI (by omega) (by decide), fun h => no (fun hh => ?_), fun h => ⟨vp_in_nI (by omega) (by decide), fun h' => no (fun hh => ?_), fun h' => ?_⟩⟩
  · have : x p < lo := (nI_ltI (by omega) (by omega)).mp h
    omega
  · have : hi < x p := (nI_ltI (by omega) (by omega)).mp h'
    omega
  · have e : nI p + 1 = nI (p + 1) := (Int32.ofNat_add p 1).symm
    rw [e]
    refine q1 ⟨hpL, ?_, ?_⟩
    · rcases Nat.lt_or_ge (x p) lo with hh | hh
      · exact absurd (nI_lt hh (by omega)) h
      · exact hh
    · rcases Nat.lt_or_ge hi (x p) with hh | hh
      · exact absurd (nI_lt hh (by omega)) h'
      · exact hh
/-- openCapture -/
theorem gc_open (h : gc_st S R i f v n) {a : Int32} {o2 : Option Value}
    (q1 : n < 40 → ∀ S', gc_st S' R i f v (n + 1) → gc_to S R S' R i n → S' 15 (40 * i + n) = a → Q (.inl (some (.int (nI n))), gc_h S' P R E))
    (q2 : n = 40 → Q (.inl (some (.int (-1))), gc_h S P R E)) :
    gx_X gc_P (d + 1) 85 (0, [some (.ref 9), some (.int a), o2], [], gc_h S P R E, bc, bs) Q := by
  obtain ⟨h1, h2, h3, h4, h5, h6, h7⟩ := h
  have hci : (nI i).toNatClampNeg = i := nI_clamp (by omega)
  have e : nI i * 40 + nI n = nI (40 * i + n) := by
    rw [show nI i * 40 = nI (i * 40) from (Int32.ofNat_mul i 40).symm, show nI (i * 40) + nI n = nI (i * 40 + n) from (Int32.ofNat_add (i * 40) n).symm, Nat.mul_comm]
  have hc2 : (nI (40 * i + n)).toNatClampNeg = 40 * i + n := nI_clamp (by omega)
  refine gd_C_openCapture_0 ?_
  rw [h1, hci, h6, e, hc2]
  refine ⟨vp_in_nI h2 (by decide), fun h => ?_, fun h => q2 ?_⟩
  · have hn : n < 40 := (nI_ltI (b := 40) (by omega) (by decide)).mp h
    refine ⟨vp_in_nI (by omega) (by decide), vp_in_nI h2 (by decide), q1 hn _ ⟨?_, h2, ?_, h4, h5, ?_, by omega⟩ ⟨fun k j g1 g2 g3 => ?_, fun j _ => rfl⟩ ?_⟩
    · rw [gm_u_at, if_neg (by omega), gm_u_at, if_neg (by omega)]; exact h1
    · rw [gm_u_at, if_neg (by omega), gm_u_at, if_neg (by omega)]; exact h3
    · rw [gm_u_at, if_pos ⟨rfl, rfl⟩]
      exact (Int32.ofNat_add n 1).symm
    · rw [gm_u_at, if_neg (by omega), gm_u_at, if_neg (by omega)]
    · rw [gm_u_at, if_neg (by omega), gm_u_at, if_pos ⟨rfl, rfl⟩]
  · rcases Nat.lt_or_ge n 40 with hh | hh
    · exact absurd (nI_lt (b := 40) hh (by decide)) h
    · omega
/-- closeCapture -/
theorem gc_close {s : Nat} {a : Int32} (h1 : S 9 2 = nI i) (h2 : i < 40) (hs : s < 40) (q : Q (.inl none, gc_h (gm_u S 16 (40 * i + s) a) P R E)) :
    gx_X gc_P (d + 1) 93 (0, [some (.ref 9), some (.int (nI s)), some (.int a)], [], gc_h S P R E, bc, bs) Q := by
  have e : nI i * 40 + nI s = nI (40 * i + s) := by
    rw [show nI i * 40 = nI (i * 40) from (Int32.ofNat_mul i 40).symm, show nI (i * 40) + nI s = nI (i * 40 + s) from (Int32.ofNat_add (i * 40) s).symm, Nat.mul_comm]
  have hc2 : (nI (40 * i + s)).toNatClampNeg = 40 * i + s := nI_clamp (by omega)
  refine gd_C_closeCapture_0 ?_
  rw [h1, e, hc2]
  refine ⟨fun h => absurd h ?_, fun _ => ⟨vp_in_nI (by omega) (by decide), gd_C_closeCapture_20 q⟩⟩
  intro h
  have := nI_pos (n := s) (by omega)
  rw [h] at this
  exact this (by decide)
theorem gc_close0 {a : Int32} (q : Q (.inl none, gc_h S P R E)) :
    gx_X gc_P (d + 1) 93 (0, [some (.ref 9), some (.int (-1)), some (.int a)], [], gc_h S P R E, bc, bs) Q :=
  gd_C_closeCapture_0 ⟨fun _ => gd_C_closeCapture_20 q, fun h => absurd rfl h⟩
/-- captureCount, takeBackTo -/
theorem gc_count (h : gc_st S R i f v n) (q : Q (.inl (some (.int (nI n))), gc_h S P R E)) : gx_X gc_P (d + 1) 87 (0, [some (.ref 9)], [], gc_h S P R E, bc, bs) Q := by
  refine gd_C_captureCount_0 ?_
  rw [h.1, nI_clamp (show i < 2 ^ 31 by have := h.2.1; omega), h.2.2.2.2.2.1]
  exact ⟨vp_in_nI h.2.1 (by decide), q⟩
theorem gc_back (h : gc_st S R i f v n) {m : Nat} (hm : m ≤ n) (q : ∀ S', gc_st S' R i f v m → (∀ k, gc_to S R S' R i k) → Q (.inl none, gc_h S' P R E)) : gx_X gc_P (d + 1) 98 (0, [some (.ref 9), some (.int (nI m))], [], gc_h S P R E, bc, bs) Q := by
  obtain ⟨h1, h2, h3, h4, h5, h6, h7⟩ := h
  refine gd_C_takeBackTo_0 ?_
  rw [h1, nI_clamp (show i < 2 ^ 31 by omega)]
  refine ⟨vp_in_nI h2 (by decide), q _ ⟨?_, h2, ?_, h4, h5, ?_, by omega⟩ (fun k => ⟨fun k j g1 g2 g3 => ?_, fun j _ => rfl⟩)⟩
  · rw [gm_u_at, if_neg (by omega)]; exact h1
  · rw [gm_u_at, if_neg (by omega)]; exact h3
  · rw [gm_u_at, if_pos ⟨rfl, rfl⟩]
  · rw [gm_u_at, if_neg (by omega)]
/-- follow -/
theorem gc_followL {S0 : Nat → Nat → Int32} {R0 : Nat → Int64} {w n0 f' : Nat} {v' : Nat → Bool} {e : Option Nat} {c : List (Nat × Nat)} (hw : w < 40) (hwi : w ≠ i) (hr : gc_row S0 R0 w e f' v' c) {o1 o2 : Option Value}
    (hq : ∀ S' R', gc_st S' R' i f v (min 40 (n0 + c.length)) → gc_to S0 R0 S' R' i n0 → gc_cp S' i n0 c → Q (.inl (some (.int (gc_e e))), gc_h S' P R' E)) :
    ∀ (g j : Nat) (o5 : Option Value) (S : Nat → Nat → Int32) (R : Nat → Int64), j + g = min 40 c.length → gc_st S R i f v (min 40 (n0 + j)) → gc_to S0 R0 S R i n0 → gc_cp S i n0 (c.take j) →
    gx_X gc_P (d + 2) 90 (54, [some (.ref 9), o1, o2, some (.int (nI w)), some (.int (nI j)), o5], [], gc_h S P R E, bc, bs) Q := by
  have hcw : (nI w).toNatClampNeg = w := nI_clamp (by omega)
  intro g
  induction g with
  | zero =>
    intro j o5 S R hj hs ht hc
    obtain ⟨r1, r2, r3, r4, r5, r6⟩ := ht.row hwi hr
    refine gd_C_follow_54 ?_
    rw [hcw, r1, r5]
    refine ⟨vp_in_nI hw (by decide), fun _ => ⟨vp_in_nI hw (by decide), hq S R ?_ ht ?_⟩, fun h => absurd h (nI_nlt (by omega) (by omega))⟩
    · rw [show min 40 (n0 + c.length) = min 40 (n0 + j) by omega]; exact hs
    · intro k a b hk hk'
      refine hc k a b ?_ hk'
      have hl := (List.getElem?_eq_some_iff.mp hk).1
      rw [List.getElem?_take, if_pos (by omega)]
      exact hk
  | succ g ih =>
    intro j o5 S R hj hs ht hc
    obtain ⟨r1, r2, r3, r4, r5, r6⟩ := ht.row hwi hr
    have hjl : j < c.length := by omega
    obtain ⟨c1, c2⟩ := r6 j _ _ (List.getElem?_eq_getElem hjl) (by omega)
    rw [Nat.zero_add] at c1 c2
    have ew : nI w * 40 + nI j = nI (40 * w + j) := by
      rw [show nI w * 40 = nI (w * 40) from (Int32.ofNat_mul w 40).symm, show nI (w * 40) + nI j = nI (w * 40 + j) from (Int32.ofNat_add (w * 40) j).symm, Nat.mul_comm]
    have hcj : (nI (40 * w + j)).toNatClampNeg = 40 * w + j := nI_clamp (by omega)
    have e1 : nI j + Int32.ofInt 1 = nI (j + 1) := nI_1 j
    refine gd_C_follow_54 ?_
    rw [hcw, r5]
    refine ⟨vp_in_nI hw (by decide), fun h => absurd (nI_lt (by omega) (by omega)) h, fun _ => ⟨0, 0, ⟨Nat.zero_le _, Nat.zero_le _⟩, gd_C_captureBegin_0 ?_⟩⟩
    rw [ew, hcj, c1]
    refine ⟨vp_in_nI (by omega) (by decide), gd_C_follow_73 ⟨0, 0, ⟨Nat.zero_le _, Nat.zero_le _⟩, gc_open hs (fun hn S1 s1 t1 b1 => gd_C_follow_76 ⟨0, 0, ⟨Nat.zero_le _, Nat.zero_le _⟩, gd_C_captureEnd_0 ?_⟩) (fun hn => gd_C_follow_76 ⟨0, 0, ⟨Nat.zero_le _, Nat.zero_le _⟩, gd_C_captureEnd_0 ?_⟩)⟩⟩
    · have c2' : S1 16 (40 * w + j) = nI (c[j]).2 := by rw [t1.1 16 _ (by omega) (by omega) (by omega)]; exact c2
      rw [ew, hcj, c2']
      refine ⟨vp_in_nI (by omega) (by decide), gd_C_follow_88 ⟨0, 0, ⟨Nat.zero_le _, Nat.zero_le _⟩, gc_close s1.1 s1.2.1 hn (gd_C_follow_91 ?_)⟩⟩
      rw [e1]
      have hn0 : min 40 (n0 + j) = n0 + j := by omega
      have hn1 : min 40 (n0 + (j + 1)) = n0 + j + 1 := by omega
      rw [hn0] at s1 t1 b1
      refine ih (j + 1) _ _ _ (by omega) ?_ ?_ (fun k a b hk hk' => ?_)
      · obtain ⟨h1, h2, h3, h4, h5, h6, h7⟩ := s1
        rw [hn1]
        refine ⟨?_, h2, ?_, h4, h5, ?_, h7⟩
        · rw [gm_u_at, if_neg (by omega)]; exact h1
        · rw [gm_u_at, if_neg (by omega)]; exact h3
        · rw [gm_u_at, if_neg (by omega)]; exact h6
      · refine (ht.trans t1 (by omega)).trans (m := n0) ⟨fun k j' g1 g2 g3 => ?_, fun _ _ => rfl⟩ (Nat.le_refl _)
        rw [gm_u_at, if_neg (by omega)]
      · rw [List.getElem?_take] at hk
        split at hk
        · rcases Nat.lt_or_ge k j with hl | hl
          · have := hc k a b (by rw [List.getElem?_take, if_pos hl]; exact hk) hk'
            rw [gm_u_at, if_neg (by omega), gm_u_at, if_neg (by omega), t1.1 15 _ (by omega) (by omega) (by omega), t1.1 16 _ (by omega) (by omega) (by omega)]
            exact this
          · have e : k = j := by omega
            subst e
            rw [List.getElem?_eq_getElem hjl] at hk
            have hk : c[k] = (a, b) := Option.some.inj hk
            have b1 : S1 15 (40 * i + (n0 + k)) = nI (c[k]).1 := b1
            rw [hk] at b1
            rw [gm_u_at, if_neg (by omega), gm_u_at, if_pos ⟨rfl, by omega⟩, hk]
            exact ⟨b1, rfl⟩
        · cases hk
    · rw [ew, hcj, c2]
      refine ⟨vp_in_nI (by omega) (by decide), gd_C_follow_88 ⟨0, 0, ⟨Nat.zero_le _, Nat.zero_le _⟩, gc_close0 (gd_C_follow_91 ?_)⟩⟩
      rw [e1]
      refine ih (j + 1) _ _ _ (by omega) ?_ ht (fun k a b hk hk' => ?_)
      · rw [show min 40 (n0 + (j + 1)) = min 40 (n0 + j) by omega]; exact hs
      · rw [List.getElem?_take] at hk
        split at hk
        · exact hc k a b (by rw [List.getElem?_take, if_pos (by omega)]; exact hk) hk'
        · cases hk
theorem gc_follow (h : gc_st S R i f v n) {r p f' : Nat} {v' : Nat → Bool} {e : Option Nat} {c : List (Nat × Nat)} (hr : r < 4) (hp : p ≤ 9) (hwi : 10 * r + p ≠ i) (hrow : gc_row S R (10 * r + p) e f' v' c) {o3 o4 o5 : Option Value}
    (hq : ∀ S' R', gc_st S' R' i (max f f') (fun k => v k || v' k) (min 40 (n + c.length)) → gc_to S R S' R' i n → gc_cp S' i n c → Q (.inl (some (.int (gc_e e))), gc_h S' P R' E)) :
    gx_X gc_P (d + 2) 90 (0, [some (.ref 9), some (.int (nI r)), some (.int (nI p)), o3, o4, o5], [], gc_h S P R E, bc, bs) Q := by
  have ew : nI r * 10 + nI p = nI (10 * r + p) := by
    rw [show nI r * 10 = nI (r * 10) from (Int32.ofNat_mul r 10).symm, show nI (r * 10) + nI p = nI (r * 10 + p) from (Int32.ofNat_add (r * 10) p).symm, Nat.mul_comm]
  obtain ⟨h1, h2, h3, h4, h5, h6, h7⟩ := h
  have hcw : (nI (10 * r + p)).toNatClampNeg = 10 * r + p := nI_clamp (by omega)
  have hci : (nI i).toNatClampNeg = i := nI_clamp (by omega)
  refine gd_C_follow_0 ⟨0, 0, ⟨Nat.zero_le _, Nat.zero_le _⟩, gd_C_rowOf_0 (gd_C_follow_5 ?_)⟩
  rw [ew, h1, hci, hcw, h3, hrow.2.1, gp_mx f (by omega) f' (by have := hrow.2.2.1; omega)]
  have hii : vp_in (nI i) 40 := vp_in_nI h2 (by decide)
  have hiw : vp_in (nI (10 * r + p)) 40 := vp_in_nI (by omega) (by decide)
  have hup : ∀ y, vp_updL R i y i = y := fun y => by simp [vp_updL]
  have hup' : ∀ y j, j ≠ i → vp_updL R i y j = R j := fun y j hj => by simp [vp_updL, hj]
  refine ⟨hii, hiw, hii, hii, hiw, hii, ?_⟩
  have ht : gc_to S R (gm_u S 12 i (nI (max f f') + -1)) (vp_updL R i (R i ||| R (10 * r + p))) i n := ⟨fun k j g1 g2 g3 => by rw [gm_u_at, if_neg (by omega)], fun j hj => hup' _ j hj⟩
  refine gc_followL (S0 := S) (R0 := R) (n0 := n) (by omega) hwi hrow hq (min 40 c.length) 0 _ _ _ (by omega) ⟨?_, h2, ?_, ?_, ?_, ?_, by omega⟩ ht (fun j a b hj _ => ?_)
  · rw [gm_u_at, if_neg (by omega)]; exact h1
  · rw [gm_u_at, if_pos ⟨rfl, rfl⟩]
  · have := hrow.2.2.1; omega
  · rw [hup]; exact gp_L_or h5 hrow.2.2.2.1
  · rw [gm_u_at, if_neg (by omega), h6, Nat.add_zero, Nat.min_eq_right h7]
  · simp at hj
end GCI
