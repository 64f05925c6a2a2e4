/-! A contract on a part of a heap is one on the whole: cells renamed by sg (rh takes it back). -/
def gy_v (sg : Nat → Nat) : Value → Value
  | .ref k => .ref (sg k)
  | .retAddr k => .retAddr k
  | .int x => .int x
  | .long x => .long x
  | .float x => .float x
  | .double x => .double x
  | .null => .null
def gy_e (sg : Nat → Nat) : gx_E → gx_E
  | .inl (t, x) => .inl (t, gx_a sg x)
  | .inr (ci, fs) => .inr (ci, fs.map (gy_v sg))
theorem gy_v_v (sp ad sg : Nat → Nat) (v : Value) : gx_v sp ad (gy_v sg v) = gx_v sp (fun k => ad (sg k)) v := by cases v <;> rfl
theorem gy_a_a (ad sg : Nat → Nat) (x : vp_A) : gx_a ad (gx_a sg x) = gx_a (fun k => ad (sg k)) x := by
  obtain ⟨k, a | a | a | a | a⟩ := x
  · rfl
  · rfl
  · rfl
  · rfl
  · show (k, Sum.inr (Sum.inr (Sum.inr (Sum.inr (fun j => ((a j).map sg).map ad))))) = (k, Sum.inr (Sum.inr (Sum.inr (Sum.inr (fun j => (a j).map (fun k => ad (sg k)))))))
    have e : (fun j => ((a j).map sg).map ad) = (fun j => (a j).map (fun k => ad (sg k))) := by
      funext j
      cases a j <;> rfl
    rw [e]
theorem gy_c_c (dT : Nat → ClassId) (sp ad sg : Nat → Nat) (e : gx_E) : gx_c dT sp ad (gy_e sg e) = gx_c dT sp (fun k => ad (sg k)) e := by
  obtain ⟨t, x⟩ | ⟨ci, fs⟩ := e
  · show Sum.inl (dT t, gx_a ad (gx_a sg x)) = Sum.inl (dT t, gx_a (fun k => ad (sg k)) x)
    rw [gy_a_a]
  · show Sum.inr (ci, (fs.map (gy_v sg)).map (gx_v sp ad)) = Sum.inr (ci, fs.map (gx_v sp (fun k => ad (sg k))))
    rw [List.map_map]
    congr 2
    exact List.map_congr_left (fun v _ => gy_v_v sp ad sg v)
theorem gy_cat (sg : Nat → Nat) (v : Value) : (gy_v sg v).category = v.category := by cases v <;> rfl
/-- h' lies in h -/
def gy_in (sg : Nat → Nat) (h' h : gx_H) : Prop := ∀ (k : Nat) (e : gx_E), h'[k]? = some e → h[sg k]? = some (gy_e sg e)
theorem gy_in.lt {sg : Nat → Nat} {h' h : gx_H} (hi : gy_in sg h' h) {k : Nat} (hk : k < h'.length) : sg k < h.length := by
  have h1 := hi k _ (List.getElem?_eq_getElem hk)
  exact (List.getElem?_eq_some_iff.mp h1).1
/-- what comes of h when h' in it comes to h2 -/
def gy_to (sg : Nat → Nat) (h h' h2 h1 : gx_H) : Prop := h.length ≤ h1.length ∧ gy_in sg h2 h1 ∧ (∀ (j : Nat) (e : gx_E), h1[j]? = some e → (∃ k, k < h2.length ∧ j = sg k) ∨ (h[j]? = some e ∧ ∀ k, k < h2.length → j ≠ sg k)) ∧ (∀ k, h'.length ≤ k → k < h2.length → h.length ≤ sg k) ∧ gx_okH h1
theorem gy_wat {dT : Nat → ClassId} {sp ad : Nat → Nat} {h : gx_H} {k : Nat} {q : Nat × va_E} (hq : (gx_w dT sp ad h)[k]? = some q) : ∃ e, h[k]? = some e ∧ q = (ad k, gx_c dT sp ad e) := by
  rw [gx_w_get] at hq
  cases he : h[k]? with
  | none => rw [he] at hq; cases hq
  | some e => rw [he] at hq; exact ⟨e, rfl, (Option.some.inj hq).symm⟩
theorem gy_lt {D : va_G} {cl : List vw_C} {q : Nat × va_E} {H : Heap} (h : va_at D cl q H) : q.1 < H.size := by
  obtain ⟨a, e⟩ := q
  cases e with
  | inl x =>
    have h1 : H[a]? = some (vp_cell x.1 x.2) := h
    exact (Array.getElem?_eq_some_iff.mp h1).1
  | inr o =>
    obtain ⟨r, -, ce, h1, -⟩ := h
    exact (Array.getElem?_eq_some_iff.mp h1).1
section GYJ
variable {D : va_G} {cl : List vw_C} {dT : Nat → ClassId} {sp ad ad2 sg rh : Nat → Nat} {A : Nat → Prop} {h h' h2 h1 : gx_H} {H H1 : Heap}
/-- the part's world -/
theorem gy_sub (hP : va_P D cl (gx_w dT sp ad h) H) (hD : va_D A (gx_w dT sp ad h)) (hin : gy_in sg h' h) (hr : ∀ k, rh (sg k) = k) : va_P D cl (gx_w dT sp (fun k => ad (sg k)) h') H ∧ va_D A (gx_w dT sp (fun k => ad (sg k)) h') := by
  have key : ∀ (k : Nat) (q : Nat × va_E), (gx_w dT sp (fun k => ad (sg k)) h')[k]? = some q → (gx_w dT sp ad h)[sg k]? = some q := fun k q hq => by
    obtain ⟨e, he, rfl⟩ := gy_wat hq
    rw [gx_w_at (hin k e he), gy_c_c]
  refine ⟨fun k q hq => hP _ q (key k q hq), fun i j p q hi hj e => ?_, fun k q hq => hD.2 _ q (key k q hq)⟩
  have h1 := hD.1 _ _ p q (key i p hi) (key j q hj) e
  rw [← hr i, ← hr j, h1]
theorem gy_join (hP : va_P D cl (gx_w dT sp ad h) H) (hD : va_D A (gx_w dT sp ad h)) (hok : gx_okH h) (hin : gy_in sg h' h) (hr : ∀ k, rh (sg k) = k)
    (hP2 : va_P D cl (gx_w dT sp ad2 h2) H1) (hD2 : va_D (va_A (gx_w dT sp (fun k => ad (sg k)) h') H.size) (gx_w dT sp ad2 h2)) (hok2 : gx_okH h2) (hle : h'.length ≤ h2.length) (had : ∀ k, k < h'.length → ad2 k = ad (sg k))
    (hk : ∀ q : Nat, q < H.size → ¬ va_A (gx_w dT sp (fun k => ad (sg k)) h') H.size q → H1[q]? = H[q]?) (hF : ∀ q, va_A (gx_w dT sp (fun k => ad (sg k)) h') H.size q → A q) (ht : gy_to sg h h' h2 h1) :
    (va_P D cl (gx_w dT sp (fun j => if j < h.length then ad j else ad2 (rh j)) h1) H1 ∧ va_D A (gx_w dT sp (fun j => if j < h.length then ad j else ad2 (rh j)) h1)) ∧ ∀ k, k < h2.length → (fun j => if j < h.length then ad j else ad2 (rh j)) (sg k) = ad2 k := by
  obtain ⟨hlt, hin1, hcov, hnew, hok1⟩ := ht
  have e1 : ∀ k, k < h2.length → (fun j => if j < h.length then ad j else ad2 (rh j)) (sg k) = ad2 k := fun k hk2 => by
    show (if sg k < h.length then ad (sg k) else ad2 (rh (sg k))) = ad2 k
    by_cases hk1 : k < h'.length
    · rw [if_pos (hin.lt hk1), had k hk1]
    · rw [if_neg (by have := hnew k (by omega) hk2; omega), hr]
  have key : ∀ (j : Nat) (q : Nat × va_E), (gx_w dT sp (fun j => if j < h.length then ad j else ad2 (rh j)) h1)[j]? = some q → (∃ k, k < h2.length ∧ j = sg k ∧ (gx_w dT sp ad2 h2)[k]? = some q) ∨ ((gx_w dT sp ad h)[j]? = some q ∧ ¬ va_A (gx_w dT sp (fun k => ad (sg k)) h') H.size q.1) := fun j q hq => by
    obtain ⟨e, he, rfl⟩ := gy_wat hq
    rcases hcov j e he with ⟨k, hk2, rfl⟩ | ⟨hj, hne⟩
    · left
      have h5 : h2[k]? = some h2[k] := List.getElem?_eq_getElem hk2
      have h6 := hin1 k _ h5
      rw [he] at h6
      have h7 : e = gy_e sg h2[k] := Option.some.inj h6
      refine ⟨k, hk2, rfl, ?_⟩
      rw [gx_w_at h5, h7, gy_c_c, gx_c.ext (hok2 k _ h5) e1]
      have h8 : (if sg k < h.length then ad (sg k) else ad2 (rh (sg k))) = ad2 k := e1 k hk2
      rw [h8]
    · right
      have hjl : j < h.length := (List.getElem?_eq_some_iff.mp hj).1
      have e2 : (gx_w dT sp ad h)[j]? = some (ad j, gx_c dT sp (fun j => if j < h.length then ad j else ad2 (rh j)) e) := by
        rw [gx_w_at hj, gx_c.ext (ad := ad) (hok j e hj) (fun k hk3 => if_pos hk3)]
      have e3 : (if j < h.length then ad j else ad2 (rh j)) = ad j := if_pos hjl
      refine ⟨by rw [e2]; show _ = some (_, _); rw [e3], ?_⟩
      rintro (⟨k, e9, hk9⟩ | hsz)
      · obtain ⟨e8, he8, hq8⟩ := gy_wat hk9
        have h9 := gx_w_at (dT := dT) (sp := sp) (ad := ad) (hin k e8 he8)
        have h10 : ad j = ad (sg k) := by
          have h11 := congrArg Prod.fst hq8
          exact e3.symm.trans h11
        have h12 := hD.1 _ _ _ _ e2 h9 h10
        exact hne k (Nat.lt_of_lt_of_le (List.getElem?_eq_some_iff.mp he8).1 hle) h12
      · have h9 := gy_lt (hP j _ e2)
        have hsz' : H.size ≤ (if j < h.length then ad j else ad2 (rh j)) := hsz
        rw [e3] at hsz'
        exact Nat.lt_irrefl _ (Nat.lt_of_lt_of_le h9 hsz')
  refine ⟨⟨fun j q hq => ?_, fun i j p q hi hj e => ?_, fun j q hq => ?_⟩, e1⟩
  · rcases key j q hq with ⟨k, -, -, h5⟩ | ⟨h5, h6⟩
    · exact hP2 k q h5
    · exact (hP j q h5).kept (hk q.1 (gy_lt (hP j q h5)) h6)
  · rcases key i p hi with ⟨k, -, rfl, h5⟩ | ⟨h5, h6⟩
    · rcases key j q hj with ⟨k', -, rfl, h5'⟩ | ⟨h5', h6'⟩
      · rw [hD2.1 k k' p q h5 h5' e]
      · exact (h6' (e ▸ hD2.2 k p h5)).elim
    · rcases key j q hj with ⟨k', -, rfl, h5'⟩ | ⟨h5', h6'⟩
      · exact (h6 (e.symm ▸ hD2.2 k' q h5')).elim
      · exact hD.1 i j p q h5 h5' e
  · rcases key j q hq with ⟨k, -, -, h5⟩ | ⟨h5, -⟩
    · exact hF _ (hD2.2 k q h5)
    · exact hD.2 j q h5
end GYJ
/-- a result renamed -/
def gy_r (sg : Nat → Nat) : Option Value ⊕ String → Option Value ⊕ String
  | .inl v => .inl (v.map (gy_v sg))
  | .inr E => .inr E
theorem gy_args {A B : List Value} {a b : Nat} (h : A.map some ++ List.replicate a none = B.map some ++ List.replicate b none) : A = B := by
  have h1 := congrArg (List.filterMap id) h
  simpa [List.filterMap_append, List.filterMap_map] using h1
theorem gy_okv {sg : Nat → Nat} {h2 h1 : gx_H} (hin : gy_in sg h2 h1) {v : Value} (h : gx_ok h2.length v) : gx_ok h1.length (gy_v sg v) := by
  cases v with
  | ref k => exact hin.lt h
  | _ => trivial
/-- the frame: a contract on the part h' is one on h -/
theorem gy_frame {l : Launch} {cl : List vw_C} {tyl : List FieldType} {G : (Nat → Nat) → (Nat → Prop) → State → Heap → Prop} {Ts : List Cond} {cc : ByteArray} {my : MethodName} {nL : Nat} {ret : Option FieldType} {D : va_G} {dT : Nat → ClassId} {sp sg rh : Nat → Nat} {d : Nat} {As : List Value} {h h' : gx_H} {kc ks : Nat} {Q' Q : gx_R → Prop}
    (hGo : gx_Gok G) (hM : gx_Mt l (cl, tyl, G, Ts, cc, my, nL, ret) D dT sp d (0, As.map some ++ List.replicate (nL - As.length) none, [], h', kc, ks) Q') (hin : gy_in sg h' h) (hr : ∀ k, rh (sg k) = k) (hok' : gx_okH h') (hAs : ∀ v ∈ As, gx_ok h'.length v)
    (hQ : ∀ r h2, Q' (r, h2) → gx_okH h2 → h'.length ≤ h2.length → ∃ h1, Q (gy_r sg r, h1) ∧ gy_to sg h h' h2 h1) :
    gx_Mt l (cl, tyl, G, Ts, cc, my, nL, ret) D dT sp d (0, (As.map (gy_v sg)).map some ++ List.replicate (nL - As.length) none, [], h, kc, ks) Q := by
  intro Bs hBs hcat hlen ad sz
  have eB : As.map (gy_v sg) = Bs := gy_args hBs
  subst eB
  have hMet := hM As rfl (fun v hv => by rw [← gy_cat sg]; exact hcat _ (List.mem_map_of_mem hv)) (by rw [List.length_map] at hlen; exact hlen) (fun k => ad (sg k)) sz
  intro p e ha hc hk s m args below hf happ hP hK
  obtain ⟨rfl, hsz, hP1, hK1, hD1, hG1, hok, hoka⟩ := hP
  obtain ⟨hP', hD'⟩ := gy_sub hP1 hD1 hin hr
  have hAA : ∀ q, va_A (gx_w dT sp (fun k => ad (sg k)) h') sz q → va_A (gx_w dT sp ad h) sz q := fun q hq => by
    rcases hq with ⟨k, e9, hk9⟩ | hq
    · obtain ⟨e8, he8, hq8⟩ := gy_wat hk9
      left
      refine ⟨sg k, gx_c dT sp ad (gy_e sg e8), ?_⟩
      rw [gx_w_at (hin k e8 he8)]
      have h5 := congrArg Prod.fst hq8
      exact congrArg some (Prod.ext h5.symm rfl)
    · exact Or.inr hq
  have ea : ((As.map (gy_v sg)).map (gx_v sp ad)) = As.map (gx_v sp (fun k => ad (sg k))) := by
    rw [List.map_map]
    exact List.map_congr_left (fun v _ => gy_v_v sp ad sg v)
  obtain ⟨n, o, h1, h2, h3, h4⟩ := hMet p e ha hc hk s m _ below hf happ ⟨by rw [ea], hsz, hP', hK1, hD'.weaken (fun _ _ _ _ => trivial), hGo.2.2 sp _ _ _ _ hAA hG1, hok', hAs⟩ hK
  refine ⟨n, o, h1, h2, h3, ?_⟩
  have hre : ∀ (h2 : gx_H) (ad2 : Nat → Nat) (h1 : gx_H) (t : State), gx_Re cl (D, dT, sp, va_A (gx_w dT sp (fun k => ad (sg k)) h') sz, h'.length, fun k => ad (sg k)) h2 ad2 s t → gy_to sg h h' h2 h1 →
      gx_Re cl (D, dT, sp, va_A (gx_w dT sp ad h) sz, h.length, ad) h1 (fun j => if j < h.length then ad j else ad2 (rh j)) s t ∧ ∀ k, k < h2.length → (fun j => if j < h.length then ad j else ad2 (rh j)) (sg k) = ad2 k := by
    rintro h2 ad2 h1 t ⟨⟨hP2, hD2, hok2, hle, had⟩, hF⟩ ht
    have hD1' : va_D (va_A (gx_w dT sp ad h) sz) (gx_w dT sp ad h) := hD1.self
    rw [← hsz] at hD2 hF hAA hD1' ⊢
    obtain ⟨⟨g1, g2⟩, g3⟩ := gy_join hP1 hD1' hok hin hr hP2 hD2 hok2 hle had (fun q hq hn => hF.2 q hq hn) hAA ht
    exact ⟨⟨⟨g1, g2, ht.2.2.2.2, ht.1, fun k hk9 => if_pos hk9⟩, hF.1, fun q hq hn => hF.2 q hq (fun z => hn (hAA q z))⟩, g3⟩
  rcases h4 with ⟨⟨v, hh, ad2, q1, q2, q3, q4⟩, L, f1, f2⟩ | ⟨q, e9, E, ce, L, ⟨hh, ad2, q1, q4⟩, r⟩
  · obtain ⟨hn, hq, ht⟩ := hQ _ _ q1 q4.1.2.2.1 q4.1.2.2.2.1
    obtain ⟨g1, g2⟩ := hre hh ad2 hn _ q4 ht
    refine Or.inl ⟨⟨v.map (gy_v sg), hn, _, hq, ?_, fun u hu => ?_, g1⟩, L, f1, fun z hz => hAA _ (f2 z hz)⟩
    · rw [q2]
      cases v with
      | none => rfl
      | some u =>
        show Outcome.returned (some (gx_v sp ad2 u)) = Outcome.returned (some (gx_v sp _ (gy_v sg u)))
        rw [gy_v_v, gx_v.ext (q3 u rfl) g2]
    · cases v with
      | none => cases hu
      | some w =>
        cases hu
        exact gy_okv ht.2.1 (q3 w rfl)
  · obtain ⟨hn, hq, ht⟩ := hQ _ _ q1 q4.1.2.2.1 q4.1.2.2.2.1
    obtain ⟨g1, g2⟩ := hre hh ad2 hn _ q4 ht
    obtain ⟨r1, r2, r3, r4, r5, r6⟩ := r
    exact Or.inr ⟨q, e9, E, ce, L, ⟨hn, _, hq, g1⟩, r1, r2, r3, r4, r5, fun z hz => hAA _ (r6 z hz)⟩
