theorem am_df_ok {ci : Nat} {fs : List Value} (h : am_df ci = some fs) (hc : ci < 8) (sp : Nat → Nat) (base : Nat) : fs.length = am_FN ci ∧ fs.map (am_rv sp base) = fs ∧ ∀ j, j < am_FN ci → defaultValue (am_Fy ci j) = vp_V fs j := by
  have k : ∀ ci, ci < 8 → ∀ j, j < am_FN ci → (am_df ci).map (fun fs => vp_V fs j) = some (defaultValue (am_Fy ci j)) := by decide +kernel
  refine ⟨?_, ?_, fun j hj => ?_⟩
  · exact am_by8 (P := fun ci => am_df ci = some fs → fs.length = am_FN ci) (fun h => by cases h; rfl) (fun h => by cases h; rfl) (fun h => by cases h; rfl) (fun h => by cases h; rfl) (fun h => by cases h; rfl) (fun h => by cases h; rfl) (fun h => by cases h; rfl) (fun h => by cases h; rfl) hc h
  · exact am_by8 (P := fun ci => am_df ci = some fs → fs.map (am_rv sp base) = fs) (fun h => by cases h; rfl) (fun h => by cases h; rfl) (fun h => by cases h; rfl) (fun h => by cases h; rfl) (fun h => by cases h; rfl) (fun h => by cases h; rfl) (fun h => by cases h; rfl) (fun h => by cases h; rfl) hc h
  · have := k ci hc j hj
    rw [h] at this
    exact (Option.some.inj this).symm
/-! LOCALS, NEW CELLS -/
/-- what the small machine knows of the locals is so -/
def am_lv (sp : Nat → Nat) (base : Nat) (M : am_M) (ls : List (Option Value)) (as : Array Slot) : Prop := as.size = M.2.2.1 ∧ lv_wf as ∧ ls.length = M.2.2.1 ∧ ∀ (k : Nat) (v : Value), ls[k]? = some (some v) → (v.category = 2 → k ∈ M.2.2.2.2.2.1) → as[k]? = some (.val (am_rv sp base v))
theorem am_rv_cat (sp : Nat → Nat) (base : Nat) (v : Value) : (am_rv sp base v).category = v.category := by cases v <;> rfl
theorem am_lv.has {sp : Nat → Nat} {base : Nat} {M : am_M} {ls : List (Option Value)} {as : Array Slot} (h : am_lv sp base M ls as) : ∃ lv, lv_has as M.2.2.1 lv ∧ ∀ (k : Nat) (v : Value), ls[k]? = some (some v) → (v.category = 2 → k ∈ M.2.2.2.2.2.1) → (k, am_rv sp base v) ∈ lv := by
  obtain ⟨h1, h2, h3, h4⟩ := h
  refine ⟨(List.range ls.length).filterMap (fun k => match ls[k]? with
    | some (some v) => if v.category = 2 → k ∈ M.2.2.2.2.2.1 then some (k, am_rv sp base v) else none
    | _ => none), ⟨h1, h2, fun q hq => ?_⟩, fun k v hk hv => ?_⟩
  · obtain ⟨k, -, hk⟩ := List.mem_filterMap.mp hq
    split at hk
    · next v hv =>
      split at hk
      · next hc => cases hk; exact h4 k v hv hc
      · cases hk
    · cases hk
  · refine List.mem_filterMap.mpr ⟨k, List.mem_range.mpr (List.getElem?_eq_some_iff.mp hk).1, ?_⟩
    rw [hk]
    dsimp only
    rw [if_pos hv]
theorem am_lv.at {sp : Nat → Nat} {base : Nat} {M : am_M} {ls : List (Option Value)} {as : Array Slot} (h : am_lv sp base M ls as) {k : Nat} {v : Value} (hk : ls[k]? = some (some v)) (hv : v.category = 2 → k ∈ M.2.2.2.2.2.1) : as[k]? = some (.val (am_rv sp base v)) := h.2.2.2 k v hk hv
theorem am_ok1_eq {M : am_M} {k : Nat} (h : am_ok1 M k = true) : k < M.2.2.1 ∧ ∀ q ∈ M.2.2.2.2.2.1, q + 1 ≠ k := by
  simp only [am_ok1, Bool.and_eq_true, decide_eq_true_eq, List.all_eq_true] at h
  refine ⟨h.1, fun q hq => ?_⟩
  have := h.2 q hq
  simpa using this
theorem am_ok2_eq {M : am_M} {k : Nat} (h : am_ok2 M k = true) : k + 1 < M.2.2.1 ∧ (∀ q ∈ M.2.2.2.2.2.1, q + 1 ≠ k) ∧ k ∈ M.2.2.2.2.2.1 := by
  simp only [am_ok2, Bool.and_eq_true, decide_eq_true_eq, List.all_eq_true, List.contains_iff_mem] at h
  refine ⟨h.1.1, fun q hq => ?_, h.2⟩
  have := h.1.2 q hq
  simpa using this
/-- behind a store of one place -/
theorem am_lv.put1 {sp : Nat → Nat} {base : Nat} {M : am_M} {ls : List (Option Value)} {as as' : Array Slot} (h : am_lv sp base M ls as) {lv : List (Nat × Value)} (hlv : ∀ (k : Nat) (v : Value), ls[k]? = some (some v) → (v.category = 2 → k ∈ M.2.2.2.2.2.1) → (k, am_rv sp base v) ∈ lv) {i : Nat} {x : Value} (ho : am_ok1 M i = true)
    (h' : lv_has as' M.2.2.1 ((i, am_rv sp base x) :: lv.filter (fun q => !(q.1 == i) && !(q.1 + 1 == i && q.2.category == 2)))) : am_lv sp base M (ls.set i (some x)) as' := by
  obtain ⟨ho1, ho2⟩ := am_ok1_eq ho
  refine ⟨h'.1, h'.2.1, by rw [List.length_set]; exact h.2.2.1, fun k v hk hv => ?_⟩
  by_cases hki : i = k
  · subst hki
    rw [List.getElem?_set_self (by rw [h.2.2.1]; exact ho1)] at hk
    cases hk
    exact h'.2.2 _ List.mem_cons_self
  · rw [List.getElem?_set_ne hki] at hk
    refine h'.2.2 (k, am_rv sp base v) (List.mem_cons_of_mem _ (List.mem_filter.mpr ⟨hlv k v hk hv, ?_⟩))
    simp only [Bool.and_eq_true, Bool.not_eq_true', beq_eq_false_iff_ne, ne_eq, Bool.and_eq_false_iff, am_rv_cat]
    refine ⟨fun e => hki e.symm, ?_⟩
    by_cases hc : v.category = 2
    · exact Or.inl (ho2 k (hv hc))
    · exact Or.inr hc
/-- behind a store of two -/
theorem am_lv.put2 {sp : Nat → Nat} {base : Nat} {M : am_M} {ls : List (Option Value)} {as as' : Array Slot} (h : am_lv sp base M ls as) {lv : List (Nat × Value)} (hlv : ∀ (k : Nat) (v : Value), ls[k]? = some (some v) → (v.category = 2 → k ∈ M.2.2.2.2.2.1) → (k, am_rv sp base v) ∈ lv) {i : Nat} {x : Value} (ho : am_ok2 M i = true)
    (h' : lv_has as' M.2.2.1 ((i, am_rv sp base x) :: lv.filter (fun q => !(q.1 == i) && (!(q.1 == i + 1) && !(q.1 + 1 == i && q.2.category == 2))))) : am_lv sp base M ((ls.set i (some x)).set (i + 1) none) as' := by
  obtain ⟨ho1, ho2, ho3⟩ := am_ok2_eq ho
  refine ⟨h'.1, h'.2.1, by rw [List.length_set, List.length_set]; exact h.2.2.1, fun k v hk hv => ?_⟩
  by_cases hk1 : i + 1 = k
  · subst hk1
    rw [List.getElem?_set_self (by rw [List.length_set, h.2.2.1]; exact ho1)] at hk
    cases hk
  · rw [List.getElem?_set_ne hk1] at hk
    by_cases hki : i = k
    · subst hki
      rw [List.getElem?_set_self (by rw [h.2.2.1]; omega)] at hk
      cases hk
      exact h'.2.2 _ List.mem_cons_self
    · rw [List.getElem?_set_ne hki] at hk
      refine h'.2.2 (k, am_rv sp base v) (List.mem_cons_of_mem _ (List.mem_filter.mpr ⟨hlv k v hk hv, ?_⟩))
      simp only [Bool.and_eq_true, Bool.not_eq_true', beq_eq_false_iff_ne, ne_eq, Bool.and_eq_false_iff, am_rv_cat]
      refine ⟨fun e => hki e.symm, fun e => hk1 e.symm, ?_⟩
      by_cases hc : v.category = 2
      · exact Or.inl (ho2 k (hv hc))
      · exact Or.inr hc
/-- a new cell -/
theorem am_R.push {D : va_G} {dA : Nat → ClassId} {sp : Nat → Nat} {base L : Nat} {xs : Nat → Int32} {w w' : am_W} {H H1 : Heap} {x : (Nat × vp_A) ⊕ (Nat × List Value)} {n : Nat} (h : am_R D dA sp base L xs w H) (hn : am_nw w x n = some w') (hsz : H.size ≤ base + w.1) (z : H1.size = H.size + 1) (o : ∀ q, q < H.size → H1[q]? = H[q]?) (hx : va_at D classes (H.size, am_re dA sp base x) H1) :
    am_R D dA sp base L xs w' H1 ∧ am_ad sp base w.2.2.length = H.size ∧ w' = (w.1 + 1, w.2.1 + n, w.2.2 ++ [some x]) := by
  unfold am_nw at hn
  split at hn
  · next h8 =>
    cases hn
    obtain ⟨hP, ⟨hZ1, hZ2⟩, hs⟩ := h
    have e1 : am_ad sp base w.2.2.length = H.size := by
      rw [am_ad_ge hZ1]
      omega
    refine ⟨⟨fun i y h8i hy => ?_, ⟨?_, ?_⟩, ?_⟩, e1, rfl⟩
    · have hy : (w.2.2 ++ [some x])[i]? = some (some y) := hy
      by_cases hi : i < w.2.2.length
      · rw [List.getElem?_append_left hi] at hy
        have h9 := hP i y h8i hy
        exact h9.kept (o _ h9.lt)
      · rw [List.getElem?_append_right (by omega)] at hy
        have hz : i - w.2.2.length < 1 := (List.getElem?_eq_some_iff.mp hy).1
        have hi2 : i = w.2.2.length := by omega
        subst hi2
        rw [Nat.sub_self] at hy
        cases hy
        rw [e1]
        exact hx
    · show 8 ≤ (w.2.2 ++ [some x]).length
      simp
      omega
    · show base + (w.2.2 ++ [some x]).length ≤ H1.size + 8
      simp
      omega
    · have k : ∀ j, j < 8 → (w.2.2 ++ [some x])[j]? = w.2.2[j]? := fun j hj => List.getElem?_append_left (by omega)
      obtain ⟨h0, h1, h2, h3, h4⟩ := hs
      exact ⟨(k 0 (by omega)).trans h0, (k 1 (by omega)).trans h1, (k 2 (by omega)).trans h2, (k 3 (by omega)).trans h3, fun j a b => (k j b).trans (h4 j a b)⟩
  · cases hn
theorem va_S.push1 {A : Nat → Prop} {H0 H H1 : Heap} {locs : List Loc} (h : va_S A H0 H locs) (z : H1.size = H.size + 1) (o : ∀ q, q < H.size → H1[q]? = H[q]?) : va_S A H0 H1 locs := ⟨by have := h.1; omega, fun q a b => (o q (Nat.lt_of_lt_of_le a h.1)).trans (h.2.1 q a b), h.2.2⟩
section AMN
variable {p : Program} {l : Launch} {e : Env} {R : Room} {s : State} {m : MethodId} {args : Array Value} {below : List Frame} {meth : Method} {c : Code} {H : Heap} {locs : List Loc} {cells slots : Nat} {Q : State → Prop}
variable {D : va_G} {dA : Nat → ClassId} {sp : Nat → Nat} {base L : Nat} {xs : Nat → Int32} {w : am_W} {cc : ByteArray} {pc : Nat} {ls : Array Slot} {rest : List Value}
theorem am_rnew (hx : p.tables.exec = Jvm.exec) (hb : c.code = cc) (hts : ∀ w ∈ am_tbl, w.before args s = true) {own index ci : Nat} (hown : s.vm.findClass (am_cn own) = some m.cls) (hK : va_K D classes (am_tys dA) s) (hR : am_R D dA sp base L xs w H) (hS : va_S (fun q => base ≤ q) s.heap H locs) (hsz : H.size ≤ base + w.1)
    (hc : am_cl own index = some ci) {fs : List Value} (hf : am_df ci = some fs) {w' : am_W} (hn : am_nw w (.inr (ci, fs)) fs.length = some w') (hcells : cells + 1 ≤ R.cells) (hslots : slots + fs.length ≤ R.slots) (hdg : decode cc pc = .ok (.new index, 3))
    (kk : ∀ (H1 : Heap), am_R D dA sp base L xs w' H1 → va_S (fun q => base ≤ q) s.heap H1 locs → W p l e R s m args below meth c H1 locs (cells + 1) (slots + fs.length) Q (F0 m (pc + 3) ls (.ref (am_ad sp base w.2.2.length) :: rest))) : W p l e R s m args below meth c H locs cells slots Q (F0 m pc ls rest) := by
  have ho := am_clx hc
  simp only [am_clok, Bool.and_eq_true, decide_eq_true_eq] at ho
  obtain ⟨⟨⟨h8, h1, g1⟩, h2, g2⟩, h3, g3⟩ := ho
  obtain ⟨f1, f2, f3⟩ := am_df_ok hf h8 sp base
  have hKn := hK.1 ci _ (am_ci h8)
  rw [f1] at hslots
  refine W.newcK hx hb hown (hts _ (List.mem_filter.mpr ⟨h1, g1⟩)) (hts _ (List.mem_filter.mpr ⟨h2, g2⟩)) (hts _ (List.mem_filter.mpr ⟨h3, g3⟩)) rfl hdg hcells hslots hKn.2.1 rfl fun H1 kC hkC e1 z1 o1 => ?_
  have hat : va_at D classes (H.size, am_re dA sp base (.inr (ci, fs))) H1 := by
    refine ⟨_, am_ci h8, ?_⟩
    show t_OB _ _ _ _ _ (vp_V (fs.map (am_rv sp base)))
    rw [f2]
    exact (u_born (am_Fy ci) hts (am_ci_in h8) hKn hkC e1 (am_ci_ty h8)).to f3
  obtain ⟨hR1, e9, rfl⟩ := hR.push hn hsz z1 o1 hat
  have hk := kk H1 hR1 (hS.push1 z1 o1)
  rw [e9, f1] at hk
  exact hk
theorem am_rna0 {t : Nat} {atype : ArrayType} {a0 : vp_A} {ty : FieldType} (hty : newarray.typeOf atype = ty) (hx : p.tables.exec = Jvm.exec) (hb : c.code = cc) (harr : (Cond.arrayClass (newarray.typeOf atype)).before args s = true) (hK : va_K D classes (am_tys dA) s) (ht : (am_tys dA)[t]? = some (dA t, ty)) (hRA : va_RA s (dA t) ty = (s.vm.findClass ("[" ++ ty.toString) = some (dA t))) (hR : am_R D dA sp base L xs w H) (hS : va_S (fun q => base ≤ q) s.heap H locs) (hsz : H.size ≤ base + w.1)
    {n : Int32} (hn0 : ¬ n < 0) (hn1 : n.toNatClampNeg ≤ 100000) (hcb : componentBytes ty ≤ 8) (ha : vp_cell (dA t) a0 = arrV (dA t) n.toNatClampNeg (fun _ => defaultValue ty)) (hre : am_re dA sp base (.inl (t, a0)) = .inl (dA t, a0)) {w' : am_W} (hn : am_nw w (.inl (t, a0)) n.toNatClampNeg = some w') (hcells : cells + 1 ≤ R.cells) (hslots : slots + n.toNatClampNeg ≤ R.slots) (hdg : decode cc pc = .ok (.newarray atype, 2))
    (kk : ∀ (H1 : Heap), am_R D dA sp base L xs w' H1 → va_S (fun q => base ≤ q) s.heap H1 locs → W p l e R s m args below meth c H1 locs (cells + 1) (slots + n.toNatClampNeg) Q (F0 m (pc + 2) ls (.ref (am_ad sp base w.2.2.length) :: rest))) : W p l e R s m args below meth c H locs cells slots Q (F0 m pc ls (.int n :: rest)) := by
  subst hty
  refine va_newaK (rest := rest) hx hb harr rfl hdg rfl hn0 rfl (Nat.le_trans (Nat.mul_le_mul hn1 hcb) (Nat.le_of_ble_eq_true rfl)) hcells hslots rfl fun H1 cA e1 z1 o1 hAr hNm => ?_
  have hra := (hK.2 t _ ht).2
  rw [hRA] at hra
  have ec : cA = dA t := Option.some.inj (hNm.symm.trans hra)
  subst ec
  have hat : va_at D classes (H.size, am_re dA sp base (.inl (t, a0))) H1 := by
    rw [hre]
    show H1[H.size]? = some (vp_cell _ _)
    rw [ha]
    exact e1
  obtain ⟨hR1, e9, rfl⟩ := hR.push hn hsz z1 o1 hat
  have hk := kk H1 hR1 (hS.push1 z1 o1)
  rw [e9] at hk
  exact hk
theorem am_rnq (hx : p.tables.exec = Jvm.exec) (hb : c.code = cc) (hts : ∀ w ∈ am_tbl, w.before args s = true) {own index : Nat} (hown : s.vm.findClass (am_cn own) = some m.cls) (hE : am_env D dA sp base L xs s) (hR : am_R D dA sp base L xs w H) (hS : va_S (fun q => base ≤ q) s.heap H locs) (hsz : H.size ≤ base + w.1)
    (hc : am_cl own index = some 1) {n : Int32} (hn0 : ¬ n < 0) (hn1 : n.toNatClampNeg ≤ 100000) {w' : am_W} (hn : am_nw w (.inl (3, n.toNatClampNeg, .inr (.inr (.inr (.inr (fun _ => none)))))) n.toNatClampNeg = some w') (hcells : cells + 1 ≤ R.cells) (hslots : slots + n.toNatClampNeg ≤ R.slots) (hdg : decode cc pc = .ok (.anewarray index, 3))
    (kk : ∀ (H1 : Heap), am_R D dA sp base L xs w' H1 → va_S (fun q => base ≤ q) s.heap H1 locs → W p l e R s m args below meth c H1 locs (cells + 1) (slots + n.toNatClampNeg) Q (F0 m (pc + 3) ls (.ref (am_ad sp base w.2.2.length) :: rest))) : W p l e R s m args below meth c H locs cells slots Q (F0 m pc ls (.int n :: rest)) := by
  have ho := am_clx hc
  simp only [am_clok, Bool.and_eq_true, decide_eq_true_eq] at ho
  obtain ⟨⟨⟨h8, h1, g1⟩, h2, g2⟩, h3, g3⟩ := ho
  refine W.anew (C := "GridColours$Grid") (rest := rest) hx hb hown (hts _ (List.mem_filter.mpr ⟨h1, g1⟩)) (va_AO.use hE.2.1) rfl hdg rfl hn0 (Nat.le_trans (Nat.mul_le_mul_right 4 hn1) (Nat.le_of_ble_eq_true rfl)) hcells hslots fun cA kA comp f1 f2 f3 f4 => ?_
  generalize hH1 : H.push ({ cls := cA, slots := Array.replicate n.toNatClampNeg .null, vm := .none } : Cell) = H1
  have z1 : H1.size = H.size + 1 := by rw [← hH1, Array.size_push]
  have e1 : H1[H.size]? = some (arrV cA n.toNatClampNeg (fun _ => .null)) := by rw [← hH1, Array.getElem?_push_size, ← arrV_new]
  have o1 : ∀ q : Nat, q < H.size → H1[q]? = H[q]? := fun q hq => by rw [← hH1, Array.getElem?_push, if_neg (Nat.ne_of_lt hq)]
  obtain ⟨kA', comp', k1, k2, k3, k4⟩ := (hE.1.2 3 (dA 3, .object "GridColours$Grid") rfl).2
  have ec : cA = dA 3 := Option.some.inj (f1.symm.trans k4)
  subst ec
  have hat : va_at D classes (H.size, am_re dA sp base (.inl (3, n.toNatClampNeg, .inr (.inr (.inr (.inr (fun _ => none))))))) H1 := by
    show H1[H.size]? = some (vp_cell _ _)
    rw [vp_cell_q]
    exact e1
  obtain ⟨hR1, e9, rfl⟩ := hR.push hn hsz z1 o1 hat
  have hk := kk H1 hR1 (hS.push1 z1 o1)
  rw [e9] at hk
  exact hk
end AMN
