/-! The law's heap: the class's 17 cells, the model's 26, a long[1], what the class made. -/
def gl_s (k : Nat) : Nat := if k < 17 then k else k + 27
def gl_si (j : Nat) : Nat := if j < 17 then j else j - 27
def gl_t (k : Nat) : Nat := k + 17
def gl_ti (j : Nat) : Nat := j - 17
theorem gl_s_i (k : Nat) : gl_si (gl_s k) = k := by
  unfold gl_si gl_s
  by_cases h : k < 17
  · rw [if_pos h, if_pos h]
  · rw [if_neg h, if_neg (by omega)]; omega
theorem gl_t_i (k : Nat) : gl_ti (gl_t k) = k := by unfold gl_ti gl_t; omega
def gl_o (f : Nat → Int64) : gx_E := .inl (3, 1, .inr (.inl f))
def gl_h (hC hM : gx_H) (f : Nat → Int64) : gx_H := (hC.take 17).map (gy_e gl_s) ++ (hM.map (gy_e gl_t) ++ (gl_o f :: (hC.drop 17).map (gy_e gl_s)))
section GLH
variable {hC hM hC2 hM2 : gx_H} {f g : Nat → Int64}
theorem gl_len (h1 : 17 ≤ hC.length) (h2 : hM.length = 26) : (gl_h hC hM f).length = hC.length + 27 := by
  unfold gl_h
  rw [List.length_append, List.length_append, List.length_cons, List.length_map, List.length_map, List.length_map, List.length_take, List.length_drop, h2]
  omega
theorem gl_c0 (h1 : 17 ≤ hC.length) {j : Nat} (hj : j < 17) : (gl_h hC hM f)[j]? = (hC[j]?).map (gy_e gl_s) := by
  unfold gl_h
  rw [List.getElem?_append_left (by rw [List.length_map, List.length_take]; omega), List.getElem?_map, List.getElem?_take, if_pos hj]
theorem gl_m0 (h1 : 17 ≤ hC.length) (h2 : hM.length = 26) {j : Nat} (hj : 17 ≤ j) (hj2 : j < 43) : (gl_h hC hM f)[j]? = (hM[j - 17]?).map (gy_e gl_t) := by
  unfold gl_h
  rw [List.getElem?_append_right (by rw [List.length_map, List.length_take]; omega), List.length_map, List.length_take, show j - min 17 hC.length = j - 17 by omega, List.getElem?_append_left (by rw [List.length_map]; omega), List.getElem?_map]
theorem gl_o0 (h1 : 17 ≤ hC.length) (h2 : hM.length = 26) : (gl_h hC hM f)[43]? = some (gl_o f) := by
  unfold gl_h
  rw [List.getElem?_append_right (by rw [List.length_map, List.length_take]; omega), List.length_map, List.length_take, show 43 - min 17 hC.length = 26 by omega, List.getElem?_append_right (by rw [List.length_map]; omega), List.length_map, h2]
  rfl
theorem gl_c1 (h1 : 17 ≤ hC.length) (h2 : hM.length = 26) {j : Nat} (hj : 43 < j) : (gl_h hC hM f)[j]? = (hC[j - 27]?).map (gy_e gl_s) := by
  unfold gl_h
  rw [List.getElem?_append_right (by rw [List.length_map, List.length_take]; omega), List.length_map, List.length_take, show j - min 17 hC.length = j - 17 by omega, List.getElem?_append_right (by rw [List.length_map]; omega), List.length_map, h2, show j - 17 - 26 = (j - 44) + 1 by omega, List.getElem?_cons_succ, List.getElem?_map, List.getElem?_drop, show 17 + (j - 44) = j - 27 by omega]
theorem gl_inC (h1 : 17 ≤ hC.length) (h2 : hM.length = 26) : gy_in gl_s hC (gl_h hC hM f) := fun k e he => by
  unfold gl_s
  by_cases h : k < 17
  · rw [if_pos h, gl_c0 h1 h, he]; rfl
  · rw [if_neg h, gl_c1 h1 h2 (by omega), show k + 27 - 27 = k by omega, he]; rfl
theorem gl_inM (h1 : 17 ≤ hC.length) (h2 : hM.length = 26) : gy_in gl_t hM (gl_h hC hM f) := fun k e he => by
  have hk : k < hM.length := (List.getElem?_eq_some_iff.mp he).1
  unfold gl_t
  rw [gl_m0 h1 h2 (by omega) (by omega), show k + 17 - 17 = k by omega, he]; rfl
theorem gy_okE {sg : Nat → Nat} {n n' : Nat} {e : gx_E} (h : gx_okE n e) (hs : ∀ k, k < n → sg k < n') : gx_okE n' (gy_e sg e) := by
  obtain ⟨t, k, a | a | a | a | a⟩ | ⟨ci, fs⟩ := e
  · trivial
  · trivial
  · trivial
  · trivial
  · intro j i hj
    have hj' : (a j).map sg = some i := hj
    cases ha : a j with
    | none => rw [ha] at hj'; cases hj'
    | some b =>
      rw [ha] at hj'
      cases hj'
      exact hs b (h j b ha)
  · intro v hv
    obtain ⟨w, hw, rfl⟩ := List.mem_map.mp hv
    have := h w hw
    cases w with
    | ref k => exact hs k this
    | _ => trivial
theorem gl_okH (h1 : 17 ≤ hC.length) (h2 : hM.length = 26) (o1 : gx_okH hC) (o2 : gx_okH hM) : gx_okH (gl_h hC hM f) := fun j e he => by
  rw [gl_len h1 h2]
  have hs : ∀ k, k < hC.length → gl_s k < hC.length + 27 := fun k hk => by unfold gl_s; split <;> omega
  have ht : ∀ k, k < hM.length → gl_t k < hC.length + 27 := fun k hk => by unfold gl_t; omega
  by_cases a1 : j < 17
  · rw [gl_c0 h1 a1] at he
    cases hc : hC[j]? with
    | none => rw [hc] at he; cases he
    | some e' => rw [hc] at he; cases he; exact gy_okE (o1 j e' hc) hs
  · by_cases a2 : j < 43
    · rw [gl_m0 h1 h2 (by omega) a2] at he
      cases hc : hM[j - 17]? with
      | none => rw [hc] at he; cases he
      | some e' => rw [hc] at he; cases he; exact gy_okE (o2 _ e' hc) ht
    · by_cases a3 : j = 43
      · subst a3
        rw [gl_o0 h1 h2] at he
        cases he
        trivial
      · rw [gl_c1 h1 h2 (by omega)] at he
        cases hc : hC[j - 27]? with
        | none => rw [hc] at he; cases he
        | some e' => rw [hc] at he; cases he; exact gy_okE (o1 _ e' hc) hs
theorem gl_toC (h1 : 17 ≤ hC.length) (h2 : hM.length = 26) (hle : hC.length ≤ hC2.length) (o1 : gx_okH hC2) (o2 : gx_okH hM) : gy_to gl_s (gl_h hC hM f) hC hC2 (gl_h hC2 hM f) := by
  refine ⟨by rw [gl_len h1 h2, gl_len (by omega) h2]; omega, gl_inC (by omega) h2, fun j e he => ?_, fun k hk hk2 => ?_, gl_okH (by omega) h2 o1 o2⟩
  · by_cases a1 : j < 17
    · exact .inl ⟨j, by omega, by unfold gl_s; rw [if_pos a1]⟩
    · by_cases a2 : j < 43
      · right
        refine ⟨by rw [gl_m0 (by omega) h2 (by omega) a2] at he; rw [gl_m0 h1 h2 (by omega) a2]; exact he, fun k hk => ?_⟩
        unfold gl_s
        split <;> omega
      · by_cases a3 : j = 43
        · right
          subst a3
          refine ⟨by rw [gl_o0 (by omega) h2] at he; rw [gl_o0 h1 h2]; exact he, fun k hk => ?_⟩
          unfold gl_s
          split <;> omega
        · left
          have hl := (List.getElem?_eq_some_iff.mp he).1
          rw [gl_len (by omega) h2] at hl
          exact ⟨j - 27, by omega, by unfold gl_s; rw [if_neg (by omega)]; omega⟩
  · rw [gl_len h1 h2]
    unfold gl_s
    rw [if_neg (by omega)]
    omega
theorem gl_toM (h1 : 17 ≤ hC.length) (h2 : hM.length = 26) (h3 : hM2.length = 26) (o1 : gx_okH hC) (o2 : gx_okH hM2) : gy_to gl_t (gl_h hC hM f) hM hM2 (gl_h hC hM2 f) := by
  refine ⟨by rw [gl_len h1 h2, gl_len h1 h3]; omega, gl_inM h1 h3, fun j e he => ?_, fun k hk hk2 => by omega, gl_okH h1 h3 o1 o2⟩
  by_cases a1 : j < 17
  · right
    refine ⟨by rw [gl_c0 h1 a1] at he ⊢; exact he, fun k hk => ?_⟩
    unfold gl_t
    omega
  · by_cases a2 : j < 43
    · exact .inl ⟨j - 17, by omega, by unfold gl_t; omega⟩
    · right
      refine ⟨?_, fun k hk => by unfold gl_t; omega⟩
      by_cases a3 : j = 43
      · subst a3
        rw [gl_o0 h1 h3] at he; rw [gl_o0 h1 h2]; exact he
      · rw [gl_c1 h1 h3 (by omega)] at he; rw [gl_c1 h1 h2 (by omega)]; exact he
theorem gl_setO (h1 : 17 ≤ hC.length) (h2 : hM.length = 26) : (gl_h hC hM f).set 43 (gl_o g) = gl_h hC hM g := by
  refine List.ext_getElem? fun j => ?_
  rw [List.getElem?_set]
  by_cases a3 : 43 = j
  · subst a3
    rw [if_pos rfl, if_pos (by rw [gl_len h1 h2]; omega), gl_o0 h1 h2]
  · rw [if_neg a3]
    by_cases a1 : j < 17
    · rw [gl_c0 h1 a1, gl_c0 h1 a1]
    · by_cases a2 : j < 43
      · rw [gl_m0 h1 h2 (by omega) a2, gl_m0 h1 h2 (by omega) a2]
      · rw [gl_c1 h1 h2 (by omega), gl_c1 h1 h2 (by omega)]
-- making them
theorem gl_new1 {x : gx_E} (h : hC.length = 17) (o : gx_okH hC) : gy_to gl_s [x] [x] hC (hC.map (gy_e gl_s)) := by
  have hs : ∀ k, k < 17 → gl_s k = k := fun k hk => if_pos hk
  refine ⟨by rw [List.length_map, h]; show 1 ≤ 17; decide, fun k e he => ?_, fun j e he => .inl ?_, fun k hk hk2 => ?_, fun j e he => ?_⟩
  · have hk : k < hC.length := (List.getElem?_eq_some_iff.mp he).1
    rw [hs k (by omega), List.getElem?_map, he]; rfl
  · have hj := (List.getElem?_eq_some_iff.mp he).1
    rw [List.length_map] at hj
    exact ⟨j, hj, (hs j (by omega)).symm⟩
  · rw [hs k (by omega)]; exact hk
  · rw [List.length_map]
    rw [List.getElem?_map] at he
    cases hc : hC[j]? with
    | none => rw [hc] at he; cases he
    | some e' => rw [hc] at he; cases he; exact gy_okE (o j e' hc) (fun k hk => by rw [hs k (by omega)]; exact hk)
theorem gl_new2 {x x' : gx_E} {a : gx_H} (ha : a.length = 17) (oa : gx_okH a) (h : hM.length = 26) (o : gx_okH hM) : gy_to gl_t (a ++ [x]) [x'] hM (a ++ hM.map (gy_e gl_t)) := by
  refine ⟨by rw [List.length_append, List.length_append, List.length_map, h]; simp, fun k e he => ?_, fun j e he => ?_, fun k hk hk2 => ?_, fun j e he => ?_⟩
  · unfold gl_t
    rw [List.getElem?_append_right (by omega), ha, show k + 17 - 17 = k by omega, List.getElem?_map, he]; rfl
  · by_cases hj : j < 17
    · right
      rw [List.getElem?_append_left (by omega)] at he
      exact ⟨by rw [List.getElem?_append_left (by omega)]; exact he, fun k hk => by unfold gl_t; omega⟩
    · left
      have hl := (List.getElem?_eq_some_iff.mp he).1
      rw [List.length_append, List.length_map] at hl
      exact ⟨j - 17, by omega, by unfold gl_t; omega⟩
  · rw [List.length_append, ha]
    unfold gl_t
    have hk' : 1 ≤ k := hk
    show 17 + 1 ≤ k + 17
    omega
  · rw [List.length_append, List.length_map, ha, h]
    by_cases hj : j < 17
    · rw [List.getElem?_append_left (by omega)] at he
      exact (oa j e he).le (by omega)
    · rw [List.getElem?_append_right (by omega), List.getElem?_map] at he
      cases hc : hM[j - a.length]? with
      | none => rw [hc] at he; cases he
      | some e' => rw [hc] at he; cases he; exact gy_okE (o _ e' hc) (fun k hk => by unfold gl_t; omega)
theorem gl_new3 (h : hC.length = 17) : (hC.map (gy_e gl_s) ++ hM.map (gy_e gl_t)) ++ [gl_o f] = gl_h hC hM f := by
  unfold gl_h
  rw [List.take_of_length_le (by omega), List.drop_of_length_le (by omega), List.append_assoc]
  rfl
end GLH
