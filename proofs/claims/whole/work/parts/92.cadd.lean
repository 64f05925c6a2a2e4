/-! ArrayList.add. -/
theorem gc_sat (E : gx_H) (n : Nat) (y : gx_E) (k : Nat) (hn : n < E.length) : (E.set n y)[k]? = if k = n then some y else E[k]? := by
  rw [List.getElem?_set]
  by_cases h : n = k
  · subst h; rw [if_pos rfl, if_pos rfl, if_pos hn]
  · rw [if_neg h, if_neg (fun e => h e.symm)]
/-- a pattern stands at w -/
def gc_pc (E : gx_H) (w : Nat) : Prop := ∃ c fs, gc_ob E w c fs ∧ c ∈ [5, 6, 7, 8, 9, 10, 11]
/-- a list while it grows: its own cell, its array (if it has one), what it has -/
def gc_ls (E : gx_H) (ln : Nat) (D : Option Nat) (ws : List Nat) : Prop := match D with
  | none => ws = [] ∧ ∃ mc : Int32, E[ln]? = some (.inr (12, [.retAddr 1, .int 0, .int mc]))
  | some Dn => ∃ (mc : Int32) (m : Nat) (f : Nat → Option Nat), E[ln]? = some (.inr (12, [.ref (Dn + 17), .int (nI ws.length), .int mc])) ∧ E[Dn]? = some (.inl (5, m, .inr (.inr (.inr (.inr f))))) ∧ ws.length ≤ m ∧ m ≤ 100 ∧ (∀ i, f i = ws[i]?) ∧ ws.length ≤ 20 ∧ (∀ w, w ∈ ws → gc_pc E w) ∧ 10 ≤ m
theorem gc_ls.li {E : gx_H} {ln Dn : Nat} {ws : List Nat} (h : gc_ls E ln (some Dn) ws) : gc_li E (ln + 17) ws := by
  obtain ⟨mc, m, f, h1, h2, h3, h4, h5, h6, _⟩ := h
  exact ⟨Dn + 17, mc, m, f, Dn, ⟨ln, rfl, h1⟩, rfl, h2, h3, h4, fun i a hi => by rw [h5 i]; exact hi, h6⟩
theorem gc_grow : ∀ m, m < 20 → 1 ≤ m → (0 < nI m + (if (nI m + 1 - nI m) < (nI m >>> ((1 : Int32) &&& 31)) then (nI m >>> ((1 : Int32) &&& 31)) else (nI m + 1 - nI m))) ∧ (¬ 2147483639 < nI m + (if (nI m + 1 - nI m) < (nI m >>> ((1 : Int32) &&& 31)) then (nI m >>> ((1 : Int32) &&& 31)) else (nI m + 1 - nI m))) ∧ (nI m + (if (nI m + 1 - nI m) < (nI m >>> ((1 : Int32) &&& 31)) then (nI m >>> ((1 : Int32) &&& 31)) else (nI m + 1 - nI m))) = nI (m + max 1 (m / 2)) := by decide +kernel
section GCR
variable {d bc bs : Nat} {S : Nat → Nat → Int32} {P : Nat → Option Nat} {R : Nat → Int64} {E : gx_H} {Q : gx_R → Prop}
/-- what it comes to, written into the array -/
theorem gc_add11 {ln Dn w m : Nat} {ws : List Nat} {mc : Int32} {f : Nat → Option Nat} (h1 : E[ln]? = some (.inr (12, [.ref (Dn + 17), .int (nI ws.length), .int mc]))) (h2 : E[Dn]? = some (.inl (5, m, .inr (.inr (.inr (.inr f)))))) (hm : ws.length < m) (hm10 : 10 ≤ m) (hm100 : m ≤ 100) (hf : ∀ i, f i = ws[i]?) (hw20 : ws.length < 20) (hpc : ∀ w, w ∈ ws → gc_pc E w) (hw : gc_pc E w) (hne : ln ≠ Dn)
    (k : ∀ E', gc_ls E' ln (some Dn) (ws ++ [w]) → E'.length = E.length → (∀ n : Nat, n ≠ ln → n ≠ Dn → E'[n]? = E[n]?) → Q (.inl none, gc_h S P R E')) :
    gx_X gc_P (d + 1) 106 (11, [some (.ref (ln + 17)), some (.ref w), some (.ref (Dn + 17)), some (.int (nI ws.length))], [], gc_h S P R E, bc, bs) Q := by
  have hln := (List.getElem?_eq_some_iff.mp h1).1
  have hDn := (List.getElem?_eq_some_iff.mp h2).1
  obtain ⟨c, fs, ho, hcc⟩ := hw
  refine gh_ArrayList_add3d_11 (D := Dn) (gc_n h1) (gc_n h2) ⟨⟨c, fs, gc_ob_at ho, hcc⟩, vp_in_nI hm (by omega), ?_⟩
  rw [gc_hset, gc_hset, nI_clamp (show ws.length < 2 ^ 31 by omega)]
  have hat : ∀ n : Nat, (List.set (List.set E Dn (.inl (5, m, .inr (.inr (.inr (.inr (va_up f ws.length (some w)))))))) ln (.inr (12, [.ref (Dn + 17), .int (nI ws.length + 1), .int mc])))[n]? = if n = ln then some (.inr (12, [.ref (Dn + 17), .int (nI ws.length + 1), .int mc])) else if n = Dn then some (.inl (5, m, .inr (.inr (.inr (.inr (va_up f ws.length (some w))))))) else E[n]? := fun n => by
    rw [gc_sat _ _ _ _ (by rw [List.length_set]; exact hln), gc_sat _ _ _ _ hDn]
  have hkeep : ∀ v, gc_pc E v → gc_pc (List.set (List.set E Dn (.inl (5, m, .inr (.inr (.inr (.inr (va_up f ws.length (some w)))))))) ln (.inr (12, [.ref (Dn + 17), .int (nI ws.length + 1), .int mc]))) v := fun v ⟨c, fs, ⟨n, e, hn⟩, hc⟩ => by
    refine ⟨c, fs, ⟨n, e, ?_⟩, hc⟩
    rw [hat n, if_neg, if_neg]
    · exact hn
    · rintro rfl; rw [h2] at hn; cases hn
    · rintro rfl; rw [h1] at hn; cases hn; exact absurd hc (by decide)
  refine k _ ⟨mc, m, va_up f ws.length (some w), ?_, ?_, ?_, hm100, fun i => ?_, ?_, fun v hv => ?_, hm10⟩ (by simp) (fun n n1 n2 => ?_)
  · rw [hat, if_pos rfl, List.length_append, show nI ws.length + 1 = nI (ws.length + 1) from (Int32.ofNat_add ws.length 1).symm]
    rfl
  · rw [hat, if_neg (fun e => hne e.symm), if_pos rfl]
  · rw [List.length_append]; exact hm
  · unfold va_up
    by_cases hi : i = ws.length
    · rw [if_pos hi, hi]; simp
    · rw [if_neg hi, hf i]
      rcases Nat.lt_or_ge i ws.length with hl | hl
      · rw [List.getElem?_append_left hl]
      · rw [List.getElem?_eq_none hl, List.getElem?_eq_none (by simp; omega)]
  · rw [List.length_append]; exact hw20
  · rcases List.mem_append.mp hv with h | h
    · exact hkeep v (hpc v h)
    · have : v = w := by simpa using h
      rw [this]
      exact hkeep w ⟨c, fs, ho, hcc⟩
  · rw [hat, if_neg n1, if_neg n2]
/-- add -/
theorem gc_add {ln w : Nat} {D : Option Nat} {ws : List Nat} (hl : gc_ls E ln D ws) (hD : ∀ Dn, D = some Dn → ln ≠ Dn) (hw : gc_pc E w) (hw20 : ws.length < 20) (hbc : 1 ≤ bc) (hbs : 30 ≤ bs)
    (k : ∀ E' D', gc_ls E' ln (some D') (ws ++ [w]) → E.length ≤ E'.length → (D = some D' ∨ D' = E.length) → (∀ n : Nat, n < E.length → n ≠ ln → some n ≠ D → E'[n]? = E[n]?) → Q (.inl (some (.int 1)), gc_h S P R E')) :
    gx_X gc_P (d + 6) 105 (0, [some (.ref (ln + 17)), some (.ref w)], [], gc_h S P R E, bc, bs) Q := by
  cases D with
  | none =>
    obtain ⟨rfl, mc, h1⟩ := hl
    have hln := (List.getElem?_eq_some_iff.mp h1).1
    refine gh_ArrayList_adde_0 (gc_n h1) ⟨1, 30, ⟨hbc, hbs⟩, ?_⟩
    rw [gc_hset]
    have a1 : ∀ n : Nat, (E.set ln (.inr (12, [.retAddr 1, .int 0, .int (mc + 1)])))[n]? = if n = ln then some (.inr (12, [.retAddr 1, .int 0, .int (mc + 1)])) else E[n]? := fun n => gc_sat _ _ _ _ hln
    have h1' : (gc_h S P R (E.set ln (.inr (12, [.retAddr 1, .int 0, .int (mc + 1)]))))[ln + 17]? = some (.inr (12, [.retAddr 1, .int 0, .int (mc + 1)])) := by rw [gc_hat, a1, if_pos rfl]
    refine gh_ArrayList_add3e_0 h1' ⟨fun h => absurd rfl h, fun _ => ⟨1, 30, ⟨by omega, by omega⟩, gh_ArrayList_grow0_0 h1' ⟨1, 30, ⟨by omega, by omega⟩, gh_ArrayList_grow1e_0 h1' ⟨fun h => absurd h (by decide), fun _ => ?_⟩⟩⟩⟩
    have e10 : (if (10 : Int32) < 0 + 1 then (0 + 1 : Int32) else 10) = 10 := by decide
    rw [e10]
    refine ⟨⟨by decide, by decide⟩, ⟨by decide, by decide⟩, ?_⟩
    rw [gc_happ, gc_hset, gc_len, List.length_set]
    have hlen : (E.set ln (.inr (12, [.retAddr 1, .int 0, .int (mc + 1)]))).length = E.length := List.length_set
    have a2 : ∀ (c2 y : gx_E) (n : Nat), ((E.set ln (.inr (12, [.retAddr 1, .int 0, .int (mc + 1)])) ++ [y]).set ln c2)[n]? = if n = ln then some c2 else if n = E.length then some y else E[n]? := fun c2 y n => by
      rw [gc_sat _ _ _ _ (by rw [List.length_append, hlen]; omega)]
      by_cases h : n = ln
      · rw [if_pos h, if_pos h]
      · rw [if_neg h, if_neg h]
        rcases Nat.lt_or_ge n E.length with hh | hh
        · rw [List.getElem?_append_left (by rw [hlen]; exact hh), if_neg (by omega), a1, if_neg h]
        · rw [List.getElem?_append_right (by rw [hlen]; exact hh), hlen]
          by_cases h2 : n = E.length
          · rw [if_pos h2, h2, Nat.sub_self]; rfl
          · rw [if_neg h2, List.getElem?_eq_none (by simp; omega), List.getElem?_eq_none hh]
    have hpw : ∀ c2 y, gc_pc ((E.set ln (.inr (12, [.retAddr 1, .int 0, .int (mc + 1)])) ++ [y]).set ln c2) w := fun c2 y => by
      obtain ⟨c, fs, ⟨n, e, hn⟩, hc⟩ := hw
      refine ⟨c, fs, ⟨n, e, ?_⟩, hc⟩
      have hnl := (List.getElem?_eq_some_iff.mp hn).1
      rw [a2, if_neg, if_neg (by omega)]
      · exact hn
      · rintro rfl; rw [h1] at hn; cases hn; exact absurd hc (by decide)
    refine gh_ArrayList_grow0_10 (u0 := .ref (E.length + 17)) (sz := 0) (mc := mc + 1) (by rw [gc_hat, a2, if_pos rfl]) ?_
    refine gh_ArrayList_add3e_10 (u0 := .ref (E.length + 17)) (sz := 0) (mc := mc + 1) (m9 := (10 : Int32).toNatClampNeg) (f9 := fun _ => none) (by rw [gc_hat, a2, if_pos rfl]) (by rw [gc_hat, a2, if_neg (by omega), if_pos rfl]) ?_
    refine gc_add11 (ws := []) (m := 10) (f := fun _ => none) (mc := mc + 1) (by rw [a2, if_pos rfl]; rfl) (by rw [a2, if_neg (by omega), if_pos rfl]; rfl) (by simp) (by omega) (by omega) (fun i => by simp) (by simp) (fun v hv => by cases hv) (hpw _ _) (by omega) (fun E' g1 g2 g3 => ?_)
    obtain ⟨mc', m', f', q1, q2, _⟩ := id g1
    refine gh_ArrayList_addd_23 (gc_n q1) (gc_n q2) (k E' E.length g1 ?_ (.inr rfl) (fun n n1 n2 _ => ?_))
    · rw [g2, List.length_set, List.length_append, List.length_set]; omega
    · rw [g3 n n2 (by omega), a2, if_neg n2, if_neg (by omega)]
  | some Dn =>
    obtain ⟨mc, m, f, h1, h2, h3, h4, h5, h6, h7, h10⟩ := hl
    have hne := hD Dn rfl
    have hln := (List.getElem?_eq_some_iff.mp h1).1
    have hDn := (List.getElem?_eq_some_iff.mp h2).1
    refine gh_ArrayList_addd_0 (gc_n h1) (gc_n h2) ⟨1, 30, ⟨hbc, hbs⟩, ?_⟩
    rw [gc_hset]
    have a1 : ∀ n : Nat, (E.set ln (.inr (12, [.ref (Dn + 17), .int (nI ws.length), .int (mc + 1)])))[n]? = if n = ln then some (.inr (12, [.ref (Dn + 17), .int (nI ws.length), .int (mc + 1)])) else E[n]? := fun n => gc_sat _ _ _ _ hln
    have hlen : (E.set ln (.inr (12, [.ref (Dn + 17), .int (nI ws.length), .int (mc + 1)]))).length = E.length := List.length_set
    have b1 : (E.set ln (.inr (12, [.ref (Dn + 17), .int (nI ws.length), .int (mc + 1)])))[ln]? = some (.inr (12, [.ref (Dn + 17), .int (nI ws.length), .int (mc + 1)])) := by rw [a1, if_pos rfl]
    have b2 : (E.set ln (.inr (12, [.ref (Dn + 17), .int (nI ws.length), .int (mc + 1)])))[Dn]? = some (.inl (5, m, .inr (.inr (.inr (.inr f))))) := by rw [a1, if_neg (fun e => hne e.symm)]; exact h2
    have kp : ∀ v, gc_pc E v → gc_pc (E.set ln (.inr (12, [.ref (Dn + 17), .int (nI ws.length), .int (mc + 1)]))) v := fun v ⟨c, fs, ⟨n, e, hn⟩, hc⟩ => by
      refine ⟨c, fs, ⟨n, e, ?_⟩, hc⟩
      rw [a1, if_neg]
      · exact hn
      · rintro rfl; rw [h1] at hn; cases hn; exact absurd hc (by decide)
    refine gh_ArrayList_add3d_0 (gc_n b1) (gc_n b2) ⟨fun hlt => ?_, fun heq => ?_⟩
    · have hlt : ws.length < m := by
        rcases Nat.lt_or_ge ws.length m with h | h
        · exact h
        · exact absurd (show nI ws.length = Int32.ofNat m by rw [show ws.length = m by omega]; rfl) hlt
      refine gc_add11 b1 b2 hlt h10 h4 h5 hw20 (fun v hv => kp v (h7 v hv)) (kp w hw) hne (fun E' g1 g2 g3 => ?_)
      obtain ⟨mc', m', f', q1, q2, _⟩ := id g1
      refine gh_ArrayList_addd_23 (gc_n q1) (gc_n q2) (k E' Dn g1 (by rw [g2, hlen]; exact Nat.le_refl _) (.inl rfl) (fun n n1 n2 n3 => ?_))
      rw [g3 n n2 (fun e => n3 (by rw [e])), a1, if_neg n2]
    · have hme : ws.length = m := (nI_eq (by omega) (by omega)).mp heq
      subst hme
      have hg := gc_grow ws.length hw20 (by omega)
      have hK : ws.length + max 1 (ws.length / 2) ≤ 28 := by omega
      have hK' : ws.length < ws.length + max 1 (ws.length / 2) := by omega
      generalize hKe : ws.length + max 1 (ws.length / 2) = K at hg hK hK'
      have hcK : (nI K).toNatClampNeg = K := nI_clamp (by omega)
      have hcm : (nI ws.length).toNatClampNeg = ws.length := nI_clamp (by omega)
      have c0 : (0 : Int32).toNatClampNeg = 0 := rfl
      refine ⟨1, 30, ⟨by omega, by omega⟩, gh_ArrayList_grow0_0 (gc_n b1) ⟨1, 30, ⟨by omega, by omega⟩, gh_ArrayList_grow1d_0 (gc_n b1) (gc_n b2) ⟨fun _ => gh_ArrayList_grow1d_20 (gc_n b1) (gc_n b2) ⟨0, 0, ⟨by omega, by omega⟩, gh_ArraysSupport_newLength_0 ⟨fun h => absurd hg.1 h, fun _ => ⟨fun h => absurd h hg.2.1, fun _ => gh_ArrayList_grow1d_30 (gc_n b1) (gc_n b2) ⟨1, 30, ⟨by omega, by omega⟩, gh_Arrays_copyOf2_0 (gc_n b2) ⟨1, 30, ⟨by omega, by omega⟩, gh_Arrays_copyOf3_0 (gc_n b2) ?_⟩⟩⟩⟩⟩, fun h => absurd (nI_lt (a := 0) (b := ws.length) (by omega) (by omega)) h⟩⟩⟩
      have hg2 := hg.2.2
      rw [show Int32.ofNat ws.length = nI ws.length from rfl, hg2, if_neg (nI_nlt (by omega) (by omega)), hcK, hcm, c0]
      refine ⟨⟨nI_pos (by omega), by omega⟩, ⟨by omega, by omega⟩, ⟨⟨by decide, by decide, nI_pos (by omega)⟩, by omega, by omega, fun i hi y hy => ?_⟩, ?_⟩
      · rw [Nat.zero_add, h5 i] at hy
        obtain ⟨c, fs, ⟨n, e, hn⟩, hc⟩ := kp y (h7 y (List.mem_of_getElem? hy))
        refine ⟨c, fs, ?_, hc⟩
        rw [e, gc_happ, gc_hat, List.getElem?_append_left (List.getElem?_eq_some_iff.mp hn).1]
        exact hn
      · rw [gc_happ, gc_len, gc_hset, gc_set_last]
        have a3 : ∀ (y : gx_E) (n : Nat), n < E.length → (E.set ln (.inr (12, [.ref (Dn + 17), .int (nI ws.length), .int (mc + 1)])) ++ [y])[n]? = (E.set ln (.inr (12, [.ref (Dn + 17), .int (nI ws.length), .int (mc + 1)])))[n]? := fun y n hn => List.getElem?_append_left (by rw [hlen]; exact hn)
        refine gh_Arrays_copyOf2_9 (m := ws.length) (f := f) (by rw [gc_hat, a3 _ _ hDn]; exact b2) ?_
        refine gh_ArrayList_grow1d_40 (sz := nI ws.length) (mc := mc + 1) (D := Dn + 17) (m := ws.length) (f := f) (by rw [gc_hat, a3 _ _ hln]; exact b1) (by rw [gc_hat, a3 _ _ hDn]; exact b2) ?_
        rw [gc_hset]
        have a4 : ∀ (y c2 : gx_E) (n : Nat), ((E.set ln (.inr (12, [.ref (Dn + 17), .int (nI ws.length), .int (mc + 1)])) ++ [y]).set ln c2)[n]? = if n = ln then some c2 else if n = E.length then some y else E[n]? := fun y c2 n => by
          rw [gc_sat _ _ _ _ (by rw [List.length_append, hlen]; omega)]
          by_cases h : n = ln
          · rw [if_pos h, if_pos h]
          · rw [if_neg h, if_neg h]
            rcases Nat.lt_or_ge n E.length with hh | hh
            · rw [a3 _ _ hh, if_neg (by omega), a1, if_neg h]
            · rw [List.getElem?_append_right (by rw [hlen]; exact hh), hlen]
              by_cases h2 : n = E.length
              · rw [if_pos h2, h2, Nat.sub_self]; rfl
              · rw [if_neg h2, List.getElem?_eq_none (by simp; omega), List.getElem?_eq_none hh]
        have kp2 : ∀ (y c2 : gx_E) v, gc_pc E v → gc_pc ((E.set ln (.inr (12, [.ref (Dn + 17), .int (nI ws.length), .int (mc + 1)])) ++ [y]).set ln c2) v := fun y c2 v ⟨c, fs, ⟨n, e, hn⟩, hc⟩ => by
          refine ⟨c, fs, ⟨n, e, ?_⟩, hc⟩
          have hnl := (List.getElem?_eq_some_iff.mp hn).1
          rw [a4, if_neg, if_neg (by omega)]
          · exact hn
          · rintro rfl; rw [h1] at hn; cases hn; exact absurd hc (by decide)
        rw [hlen]
        refine gh_ArrayList_grow0_10 (u0 := .ref (E.length + 17)) (sz := nI ws.length) (mc := mc + 1) (by rw [gc_hat, a4, if_pos rfl]) ?_
        refine gh_ArrayList_add3d_10 (u0 := .ref (E.length + 17)) (sz := nI ws.length) (mc := mc + 1) (m9 := K) (f9 := va_cpy f (fun _ => none) 0 0 ws.length) (by rw [gc_hat, a4, if_pos rfl]) (by rw [gc_hat, a4, if_neg (by omega), if_pos rfl]) ?_
        refine gc_add11 (m := K) (f := va_cpy f (fun _ => none) 0 0 ws.length) (mc := mc + 1) (by rw [a4, if_pos rfl]) (by rw [a4, if_neg (by omega), if_pos rfl]) hK' (by omega) (by omega) (fun i => ?_) hw20 (fun v hv => kp2 _ _ v (h7 v hv)) (kp2 _ _ w hw) (by omega) (fun E' g1 g2 g3 => ?_)
        · simp only [va_cpy]
          rcases Nat.lt_or_ge i ws.length with hl | hl
          · rw [if_pos ⟨Nat.zero_le _, by omega⟩, Nat.zero_add, Nat.sub_zero, h5 i]
          · rw [if_neg (by omega), List.getElem?_eq_none hl]
        · obtain ⟨mc', m', f', q1, q2, _⟩ := id g1
          refine gh_ArrayList_addd_23 (gc_n q1) (gc_n q2) (k E' E.length g1 ?_ (.inr rfl) (fun n n1 n2 n3 => ?_))
          · rw [g2, List.length_set, List.length_append, hlen]; omega
          · rw [g3 n n2 (by omega), a4, if_neg n2, if_neg (by omega)]
end GCR
