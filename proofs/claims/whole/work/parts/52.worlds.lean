/-! THE SMALL MACHINE'S CELLS AND THE HEAP'S -/
def am_ad (sp : Nat → Nat) (base i : Nat) : Nat := if i < 8 then sp i else base + (i - 8)
def am_rv (sp : Nat → Nat) (base : Nat) (v : Value) : Value := match v with
  | .ref i => .ref (am_ad sp base i)
  | v => v
def am_re (dA : Nat → ClassId) (sp : Nat → Nat) (base : Nat) (x : (Nat × vp_A) ⊕ (Nat × List Value)) : va_E := match x with
  | .inl (t, n, .inl f) => .inl (dA t, n, .inl f)
  | .inl (t, n, .inr (.inl f)) => .inl (dA t, n, .inr (.inl f))
  | .inl (t, n, .inr (.inr (.inl f))) => .inl (dA t, n, .inr (.inr (.inl f)))
  | .inl (t, n, .inr (.inr (.inr (.inl f)))) => .inl (dA t, n, .inr (.inr (.inr (.inl f))))
  | .inl (t, n, .inr (.inr (.inr (.inr f)))) => .inl (dA t, n, .inr (.inr (.inr (.inr (fun j => (f j).map (am_ad sp base))))))
  | .inr (ci, fs) => .inr (ci, fs.map (am_rv sp base))
def am_ws (dA : Nat → ClassId) (sp : Nat → Nat) (base : Nat) (l : List am_E) : va_W := (List.range l.length).filterMap (fun i => match l[i]? with
  | some (some x) => if 8 ≤ i then some (am_ad sp base i, am_re dA sp base x) else none
  | _ => none)
theorem am_ad_ge {sp : Nat → Nat} {base i : Nat} (h : 8 ≤ i) : am_ad sp base i = base + (i - 8) := by
  unfold am_ad
  rw [if_neg (by omega)]
theorem am_ws_mem {dA : Nat → ClassId} {sp : Nat → Nat} {base : Nat} {l : List am_E} {q : Nat × va_E} : q ∈ am_ws dA sp base l ↔ ∃ i x, 8 ≤ i ∧ l[i]? = some (some x) ∧ q = (am_ad sp base i, am_re dA sp base x) := by
  unfold am_ws
  rw [List.mem_filterMap]
  constructor
  · rintro ⟨i, -, h⟩
    cases hl : l[i]? with
    | none => rw [hl] at h; cases h
    | some y =>
      cases y with
      | none => rw [hl] at h; cases h
      | some x =>
        rw [hl] at h
        dsimp only at h
        by_cases h8 : 8 ≤ i
        · rw [if_pos h8] at h
          exact ⟨i, x, h8, hl, (Option.some.inj h).symm⟩
        · rw [if_neg h8] at h; cases h
  · rintro ⟨i, x, h8, hl, rfl⟩
    refine ⟨i, List.mem_range.mpr (List.getElem?_eq_some_iff.mp hl).1, ?_⟩
    rw [hl]
    dsimp only
    rw [if_pos h8]
theorem am_ws_pw {dA : Nat → ClassId} {sp : Nat → Nat} {base : Nat} {l : List am_E} : (am_ws dA sp base l).Pairwise (fun a b => a.1 < b.1) := by
  unfold am_ws
  rw [List.pairwise_filterMap]
  refine List.Pairwise.imp ?_ List.pairwise_lt_range
  intro i j hij a ha b hb
  have key : ∀ (i : Nat) (a : Nat × va_E), (match l[i]? with
      | some (some x) => if 8 ≤ i then some (am_ad sp base i, am_re dA sp base x) else none
      | _ => none) = some a → 8 ≤ i ∧ a.1 = base + (i - 8) := by
    intro i a h
    cases hl : l[i]? with
    | none => rw [hl] at h; cases h
    | some y =>
      cases y with
      | none => rw [hl] at h; cases h
      | some x =>
        rw [hl] at h
        dsimp only at h
        by_cases h8 : 8 ≤ i
        · rw [if_pos h8] at h
          cases h
          exact ⟨h8, am_ad_ge h8⟩
        · rw [if_neg h8] at h; cases h
  obtain ⟨h1, h2⟩ := key i a ha
  obtain ⟨h3, h4⟩ := key j b hb
  omega
theorem am_ws_D {dA : Nat → ClassId} {sp : Nat → Nat} {base : Nat} {l : List am_E} : va_D (fun q => base ≤ q) (am_ws dA sp base l) := by
  refine ⟨fun i j a b ha hb h => ?_, fun k q hk => ?_⟩
  · have hp := List.pairwise_iff_getElem.mp (am_ws_pw (dA := dA) (sp := sp) (base := base) (l := l))
    obtain ⟨hi, hi2⟩ := List.getElem?_eq_some_iff.mp ha
    obtain ⟨hj, hj2⟩ := List.getElem?_eq_some_iff.mp hb
    rcases Nat.lt_trichotomy i j with q | q | q
    · have := hp i j hi hj q
      rw [hi2, hj2] at this
      omega
    · exact q
    · have := hp j i hj hi q
      rw [hi2, hj2] at this
      omega
  · obtain ⟨i, x, h8, -, rfl⟩ := am_ws_mem.mp (List.mem_of_getElem? hk)
    show base ≤ am_ad sp base i
    rw [am_ad_ge h8]
    omega
/-- the heap holds the cells -/
def am_P (D : va_G) (dA : Nat → ClassId) (sp : Nat → Nat) (base : Nat) (w : am_W) (H : Heap) : Prop := ∀ (i : Nat) (x : (Nat × vp_A) ⊕ (Nat × List Value)), 8 ≤ i → w.2.2[i]? = some (some x) → va_at D classes (am_ad sp base i, am_re dA sp base x) H
/-- how large the heap is -/
def am_Z (base : Nat) (w : am_W) (H : Heap) : Prop := 8 ≤ w.2.2.length ∧ base + w.2.2.length ≤ H.size + 8
/-- the special cells -/
def am_sw (L : Nat) (xs : Nat → Int32) (w : am_W) : Prop := w.2.2[0]? = some (some (.inl (0, L, .inl xs))) ∧ w.2.2[1]? = some (some (.inl (0, 48, .inl am_oc))) ∧ w.2.2[2]? = some (some (.inl (9, 4, .inl am_g4))) ∧ w.2.2[3]? = some (some (.inl (9, 3, .inl am_g3))) ∧ ∀ i, 4 ≤ i → i < 8 → w.2.2[i]? = some none
def am_R (D : va_G) (dA : Nat → ClassId) (sp : Nat → Nat) (base L : Nat) (xs : Nat → Int32) (w : am_W) (H : Heap) : Prop := am_P D dA sp base w H ∧ am_Z base w H ∧ am_sw L xs w
theorem am_P.ws {D : va_G} {dA : Nat → ClassId} {sp : Nat → Nat} {base : Nat} {w : am_W} {H : Heap} (h : am_P D dA sp base w H) : va_P D classes (am_ws dA sp base w.2.2) H := by
  intro k q hk
  obtain ⟨i, x, h8, hl, rfl⟩ := am_ws_mem.mp (List.mem_of_getElem? hk)
  exact h i x h8 hl
theorem am_place {dA : Nat → ClassId} {sp : Nat → Nat} {base : Nat} {l : List am_E} {i : Nat} {x : (Nat × vp_A) ⊕ (Nat × List Value)} (h8 : 8 ≤ i) (hl : l[i]? = some (some x)) : ∃ q : Nat, (am_ws dA sp base l)[q]? = some (am_ad sp base i, am_re dA sp base x) :=
  List.getElem?_of_mem (am_ws_mem.mpr ⟨i, x, h8, hl, rfl⟩)
theorem am_P.put {D : va_G} {dA : Nat → ClassId} {sp : Nat → Nat} {base : Nat} {w : am_W} {H1 : Heap} {i q : Nat} {x y : (Nat × vp_A) ⊕ (Nat × List Value)} (h8 : 8 ≤ i) (hl : w.2.2[i]? = some (some x)) (hq : (am_ws dA sp base w.2.2)[q]? = some (am_ad sp base i, am_re dA sp base x))
    (h : va_P D classes ((am_ws dA sp base w.2.2).set q (am_ad sp base i, am_re dA sp base y)) H1) : am_P D dA sp base (am_st1 w i y) H1 := by
  intro j z h8j hz
  have hz : (w.2.2.set i (some y))[j]? = some (some z) := hz
  by_cases hij : i = j
  · subst hij
    rw [List.getElem?_set_self (List.getElem?_eq_some_iff.mp hl).1] at hz
    have hyz : y = z := Option.some.inj (Option.some.inj hz)
    subst hyz
    exact h q _ (List.getElem?_set_self (List.getElem?_eq_some_iff.mp hq).1)
  · rw [List.getElem?_set_ne hij] at hz
    obtain ⟨k, hk⟩ := am_place (dA := dA) (sp := sp) (base := base) h8j hz
    refine h k _ ?_
    rw [List.getElem?_set_ne]
    · exact hk
    · intro e
      subst e
      rw [hq] at hk
      have h1 := congrArg Prod.fst (Option.some.inj hk)
      have h1 : am_ad sp base i = am_ad sp base j := h1
      rw [am_ad_ge h8, am_ad_ge h8j] at h1
      omega
theorem am_Z.put {base : Nat} {w : am_W} {H H1 : Heap} {i : Nat} {y : (Nat × vp_A) ⊕ (Nat × List Value)} (h : am_Z base w H) (hz : H.size ≤ H1.size) : am_Z base (am_st1 w i y) H1 := by
  unfold am_Z am_st1 at *
  simp only [List.length_set]
  omega
theorem am_sw.put {L : Nat} {xs : Nat → Int32} {w : am_W} {i : Nat} {y : (Nat × vp_A) ⊕ (Nat × List Value)} (h : am_sw L xs w) (h8 : 8 ≤ i) : am_sw L xs (am_st1 w i y) := by
  have k : ∀ j, j < 8 → (w.2.2.set i (some y))[j]? = w.2.2[j]? := fun j hj => List.getElem?_set_ne (by omega)
  obtain ⟨h0, h1, h2, h3, h4⟩ := h
  exact ⟨(k 0 (by omega)).trans h0, (k 1 (by omega)).trans h1, (k 2 (by omega)).trans h2, (k 3 (by omega)).trans h3, fun j a b => (k j b).trans (h4 j a b)⟩
theorem am_ob_eq {w : am_W} {i : Nat} {o : Nat × List Value} (h : am_ob w i = some o) : w.2.2[i]? = some (some (.inr o)) := by
  unfold am_ob at h
  split at h
  · next o' ho => cases h; exact ho
  · cases h
theorem am_ar_eq {w : am_W} {i : Nat} {a : Nat × vp_A} (h : am_ar w i = some a) : w.2.2[i]? = some (some (.inl a)) := by
  unfold am_ar at h
  split at h
  · next o' ho => cases h; exact ho
  · cases h
theorem am_ob_ge {L : Nat} {xs : Nat → Int32} {w : am_W} {i : Nat} {o : Nat × List Value} (hs : am_sw L xs w) (h : am_ob w i = some o) : 8 ≤ i := by
  have h := am_ob_eq h
  obtain ⟨h0, h1, h2, h3, h4⟩ := hs
  rcases Nat.lt_or_ge i 8 with q | q
  · rcases Nat.lt_or_ge i 4 with r | r
    · have : i = 0 ∨ i = 1 ∨ i = 2 ∨ i = 3 := by omega
      rcases this with rfl | rfl | rfl | rfl
      · rw [h0] at h; cases h
      · rw [h1] at h; cases h
      · rw [h2] at h; cases h
      · rw [h3] at h; cases h
    · rw [h4 i r q] at h; cases h
  · exact q
theorem am_gv_eq {w : am_W} {i ci k : Nat} {v : Value} (h : am_gv w i ci k = some v) : ∃ fs, am_ob w i = some (ci, fs) ∧ fs[k]? = some v := by
  unfold am_gv at h
  split at h
  · next c fs ho =>
    split at h
    · next hc => subst hc; exact ⟨fs, ho, h⟩
    · cases h
  · cases h
theorem am_gi_eq {w : am_W} {i ci k : Nat} {x : Int32} (h : am_gi w i ci k = some x) : am_gv w i ci k = some (.int x) := by
  unfold am_gi at h
  split at h
  · next y hy => cases h; exact hy
  · cases h
theorem am_gl_eq {w : am_W} {i ci k : Nat} {x : Int64} (h : am_gl w i ci k = some x) : am_gv w i ci k = some (.long x) := by
  unfold am_gl at h
  split at h
  · next y hy => cases h; exact hy
  · cases h
theorem am_gr_eq {w : am_W} {i ci k : Nat} {x : Nat} (h : am_gr w i ci k = some x) : am_gv w i ci k = some (.ref x) := by
  unfold am_gr at h
  split at h
  · next y hy => cases h; exact hy
  · cases h
theorem am_pv_eq {w w' : am_W} {i ci k : Nat} {v : Value} (h : am_pv w i ci k v = some w') : ∃ fs, am_ob w i = some (ci, fs) ∧ k < fs.length ∧ 8 ≤ i ∧ w' = am_st1 w i (.inr (ci, fs.set k v)) := by
  unfold am_pv at h
  split at h
  · next c fs ho =>
    split at h
    · next hc => obtain ⟨rfl, h1, h2⟩ := hc; cases h; exact ⟨fs, ho, h1, h2, rfl⟩
    · cases h
  · cases h
