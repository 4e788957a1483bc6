/-! THE SMALL MACHINE'S STEPS OVER THE HEAP: rows -/
def am_tys (dA : Nat → ClassId) : List (ClassId × FieldType) := [(dA 0, .int), (dA 1, .long), (dA 2, .boolean), (dA 3, .object "GridColours$Grid")]
/-- what holds of a state, whatever the method: the tables, the special cells -/
def am_env (D : va_G) (dA : Nat → ClassId) (sp : Nat → Nat) (base L : Nat) (xs : Nat → Int32) (U : State) : Prop :=
  va_K D classes (am_tys dA) U ∧ va_AO "GridColours$Grid" U ∧ (∀ w ∈ am_nst, va_Nw w U) ∧ (va_X (sp 0) L xs U U.heap ∧ sp 0 < base) ∧ (va_Z "GridColours" "OPEN_CELLS" "[I" (.ref (sp 1)) (fun q => base ≤ q) U U.heap ∧ va_T .int (sp 1) 48 (fun j => .int (am_oc j)) (fun q => base ≤ q) U U.heap) ∧ am_envX sp base U
theorem am_env.warm {D : va_G} {dA : Nat → ClassId} {sp : Nat → Nat} {base L : Nat} {xs : Nat → Int32} {s U : State} (h : am_env D dA sp base L xs s) (hW : s.WarmedH U.vm) (hq : ∀ a : Nat, a < s.heap.size → ¬ base ≤ a → U.heap[a]? = s.heap[a]?) : am_env D dA sp base L xs U := by
  obtain ⟨h1, h2, h3, ⟨h4, h5⟩, ⟨h6, h7⟩, h8⟩ := h
  refine ⟨va_K.moved hW.alike h1, va_AO.moved hW.alike h2, fun w hw => ?_, ⟨?_, h5⟩, ⟨va_Z.moved hW.alike (h6.kept hq), va_T.moved hW.alike (h7.kept hq)⟩, am_envX.warm h8 hW hq⟩
  · have hw0 := h3 w hw
    simp only [am_nst, List.mem_cons, List.not_mem_nil, or_false] at hw
    rcases hw with rfl | rfl | rfl | rfl | rfl | rfl | rfl | rfl | rfl <;> exact va_Nw.warmM hW hw0
  · refine va_X.moved hW.alike (va_X.kept h4 (hq _ ?_ (by omega)))
    obtain ⟨scr, hs, -⟩ := h4
    exact (Array.getElem?_eq_some_iff.mp hs).1
theorem va_S.tr {A : Nat → Prop} {H0 H H1 : Heap} {l0 l1 : List Loc} (h : va_S A H0 H l0) (h1 : va_S A H H1 l1) : va_S A H0 H1 l1 := ⟨Nat.le_trans h.1 h1.1, fun q a b => (h1.2.1 q (Nat.lt_of_lt_of_le a h.1) b).trans (h.2.1 q a b), h1.2.2⟩
theorem va_S.me {A : Nat → Prop} {H0 H : Heap} {l0 : List Loc} (h : va_S A H0 H l0) : va_S A H H l0 := ⟨Nat.le_refl _, fun _ _ _ => rfl, h.2.2⟩
theorem am_ar_ge {L : Nat} {xs : Nat → Int32} {w : am_W} {i : Nat} {t : Nat} {a : vp_A} (hs : am_sw L xs w) (h : am_ar w i = some (t, a)) (ht : 0 < t ∧ t < 9) : 8 ≤ i := by
  have h := am_ar_eq h
  obtain ⟨h0, h1, h2, h3, h4⟩ := hs
  rcases Nat.lt_or_ge i 8 with q | q
  · rcases Nat.lt_or_ge i 4 with r | r
    · have : i = 0 ∨ i = 1 ∨ i = 2 ∨ i = 3 := by omega
      rcases this with rfl | rfl | rfl | rfl
      · rw [h0] at h; cases h; omega
      · rw [h1] at h; cases h; omega
      · rw [h2] at h; cases h; omega
      · rw [h3] at h; cases h; omega
    · rw [h4 i r q] at h; cases h
  · exact q
section AMR
variable {p : Program} {l : Launch} {e : Env} {R : Room} {s : State} {m : MethodId} {args : Array Value} {below : List Frame} {meth : Method} {c : Code} {H : Heap} {locs : List Loc} {cells slots : Nat} {Q : State → Prop}
variable {D : va_G} {dA : Nat → ClassId} {sp : Nat → Nat} {base L : Nat} {xs : Nat → Int32} {w : am_W} {cc : ByteArray} {pc : Nat} {ls : Array Slot} {rest : List Value}
theorem am_rget (hx : p.tables.exec = Jvm.exec) (hb : c.code = cc) (hts : ∀ w ∈ am_tbl, w.before args s = true) {own C : String} {T : u_T} {N ci index k : Nat} (hin : ∀ w ∈ u_ws C T N, w ∈ am_tbl) (hown : s.vm.findClass own = some m.cls) (hK : va_K D classes (am_tys dA) s) (hR : am_R D dA sp base L xs w H)
    (hc : classes[ci]? = some (C, T, N)) (hk : k < N) (hlink : (Cond.fieldLink own index (T k).1 (T k).2.1 (T k).2.2.1) ∈ am_tbl) {i : Nat} {v : Value} (hv : am_gv w i ci k = some v) (hdg : decode cc pc = .ok (.getfield index, 3))
    (kk : W p l e R s m args below meth c H locs cells slots Q (F0 m (pc + 3) ls (am_rv sp base v :: rest))) : W p l e R s m args below meth c H locs cells slots Q (F0 m pc ls (.ref (am_ad sp base i) :: rest)) := by
  obtain ⟨fs, h1, h2⟩ := am_gv_eq hv
  obtain ⟨q, hq⟩ := am_place (dA := dA) (sp := sp) (base := base) (am_ob_ge hR.2.2 h1) (am_ob_eq h1)
  exact va_get (ref := (T k).1) hx hb hts hin hown hK hR.1.ws q hq hc k hk (hts _ hlink) (fun _ h9 => h9) (v := am_rv sp base v) (by rw [List.getElem?_map, h2]; rfl) hdg kk
theorem am_fits {sp : Nat → Nat} {base : Nat} {v : Value} {ty : FieldType} (h : (ty = .int ∧ ∃ x, v = .int x) ∨ (ty = .long ∧ ∃ x, v = .long x) ∨ (((∃ n, ty = .object n) ∨ ∃ t, ty = .array t) ∧ ∃ x, v = .ref x)) : narrow ty (am_rv sp base v) = am_rv sp base v ∧ fits ty (am_rv sp base v) = true := by
  rcases h with ⟨rfl, x, rfl⟩ | ⟨rfl, x, rfl⟩ | ⟨⟨n, rfl⟩ | ⟨n, rfl⟩, x, rfl⟩ <;> exact ⟨rfl, rfl⟩
theorem am_rput (hx : p.tables.exec = Jvm.exec) (hb : c.code = cc) (hts : ∀ w ∈ am_tbl, w.before args s = true) {own C : String} {T : u_T} {N ci index k : Nat} (hin : ∀ w ∈ u_ws C T N, w ∈ am_tbl) (ty0 : Nat → FieldType) (hty : ∀ k, k < N → parseFieldDescriptor (T k).2.2.1 = some (ty0 k)) (hnm : ∀ a, a < N → ∀ b, b < N → a ≠ b → (T a).2.1 ≠ (T b).2.1) (hown : s.vm.findClass own = some m.cls) (hK : va_K D classes (am_tys dA) s) (hR : am_R D dA sp base L xs w H) (hS : va_S (fun q => base ≤ q) s.heap H locs)
    (hc : classes[ci]? = some (C, T, N)) (hk : k < N) (hlink : (Cond.fieldLink own index (T k).1 (T k).2.1 (T k).2.2.1) ∈ am_tbl) (hfin : (T k).2.2.2 = false ∨ ((T k).2.2.2 = true ∧ meth.name = "<init>" ∧ (T k).1 = own)) {i : Nat} {v : Value} {w' : am_W} (hv : am_pv w i ci k v = some w')
    (hf : (ty0 k = .int ∧ ∃ x, v = .int x) ∨ (ty0 k = .long ∧ ∃ x, v = .long x) ∨ (((∃ n, ty0 k = .object n) ∨ ∃ t, ty0 k = .array t) ∧ ∃ x, v = .ref x)) (hdg : decode cc pc = .ok (.putfield index, 3))
    (kk : ∀ (H1 : Heap) (locs1 : List Loc), am_R D dA sp base L xs w' H1 → va_S (fun q => base ≤ q) s.heap H1 locs1 → W p l e R s m args below meth c H1 locs1 cells slots Q (F0 m (pc + 3) ls rest)) : W p l e R s m args below meth c H locs cells slots Q (F0 m pc ls (am_rv sp base v :: .ref (am_ad sp base i) :: rest)) := by
  obtain ⟨fs, h1, h2, h8, rfl⟩ := am_pv_eq hv
  obtain ⟨q, hq⟩ := am_place (dA := dA) (sp := sp) (base := base) h8 (am_ob_eq h1)
  have hnf := am_fits (sp := sp) (base := base) hf
  have key : ∀ (H1 : Heap) (locs1 : List Loc), va_P D classes ((am_ws dA sp base w.2.2).set q (am_ad sp base i, .inr (ci, (fs.map (am_rv sp base)).set k (am_rv sp base v)))) H1 → va_D (fun q => base ≤ q) ((am_ws dA sp base w.2.2).set q (am_ad sp base i, .inr (ci, (fs.map (am_rv sp base)).set k (am_rv sp base v)))) → va_S (fun q => base ≤ q) H H1 locs1 → W p l e R s m args below meth c H1 locs1 cells slots Q (F0 m (pc + 3) ls rest) := by
    intro H1 locs1 hP1 _ hS1
    refine kk H1 locs1 ⟨am_P.put h8 (am_ob_eq h1) hq ?_, hR.2.1.put hS1.1, hR.2.2.put h8⟩ (hS.tr hS1)
    show va_P D classes ((am_ws dA sp base w.2.2).set q (am_ad sp base i, .inr (ci, (fs.set k v).map (am_rv sp base)))) H1
    rw [List.map_set]
    exact hP1
  rcases hfin with hfin | ⟨hfin, hini, hd⟩
  · exact va_put (ref := (T k).1) hx hb hts hin ty0 hty hnm hown hK hR.1.ws am_ws_D hS.me q hq hc k hk (hts _ hlink) (fun _ h9 => h9) hfin (hty k hk) hnf.1 hnf.2 (by rw [List.length_map]; exact h2) hdg key
  · exact va_putF (ref := (T k).1) hx hb hts hin ty0 hty hnm hown hK hR.1.ws am_ws_D hS.me q hq hc k hk (hts _ hlink) (fun _ h9 => h9) hfin hini hd (hty k hk) hnf.1 hnf.2 (by rw [List.length_map]; exact h2) hdg key
theorem am_rsz {g : JFrame} (k : H.size ≤ s.heap.size + cells → W p l e R s m args below meth c H locs cells slots Q g) : W p l e R s m args below meth c H locs cells slots Q g := fun T hT X => k (by rw [← hT]; exact X.heapSize) T hT X
/-- arrays: a place, or a special one -/
theorem am_rai (hx : p.tables.exec = Jvm.exec) (hb : c.code = cc) (hE : am_env D dA sp base L xs s) (hb0 : base ≤ s.heap.size) (hR : am_R D dA sp base L xs w H) (hS : va_S (fun q => base ≤ q) s.heap H locs) {a : Nat} {j x : Int32} (h : am_ai w a j = some x) (hdg : decode cc pc = .ok (.iaload, 1))
    (kk : W p l e R s m args below meth c H locs cells slots Q (F0 m (pc + 1) ls (.int x :: rest))) : W p l e R s m args below meth c H locs cells slots Q (F0 m pc ls (.int j :: .ref (am_ad sp base a) :: rest)) := by
  unfold am_ai at h
  split at h
  · next n f ha =>
    split at h
    · cases h
    · next hj =>
      cases h
      have ha := am_ar_eq ha
      by_cases h8 : 8 ≤ a
      · obtain ⟨q, hq⟩ := am_place (dA := dA) (sp := sp) (base := base) h8 ha
        exact va_iald hx hb hE.1 hR.1.ws q 0 hq rfl hj hdg kk
      · obtain ⟨h0, h1, h2, h3, h4⟩ := hR.2.2
        have h5 : a = 0 ∨ a = 1 ∨ a = 2 ∨ a = 3 ∨ 4 ≤ a := by omega
        rcases h5 with rfl | rfl | rfl | rfl | h5
        · rw [h0] at ha
          cases ha
          exact va_sld (b := sp 0) hx hb hE.2.2.2.1.1 (Nat.lt_of_lt_of_le hE.2.2.2.1.2 hb0) (Nat.not_le.mpr hE.2.2.2.1.2) hS hj hdg kk
        · rw [h1] at ha
          cases ha
          obtain ⟨cell, g1, g2, g3, g4, g5, g6, g7⟩ := hE.2.2.2.2.1.2.kept hS.2.1
          have hlt : j.toNatClampNeg < 48 := Nat.not_le.mp fun q => hj (Or.inr q)
          exact W.iald (v := .int (am_oc j.toNatClampNeg)) hx hb (a := sp 1) g1 g2 g3 (fun q => q.elim (fun z => hj (Or.inl z)) (fun z => hj (Or.inr (Nat.le_trans g4 z)))) (g6 _ hlt) rfl rfl hdg kk
        · rw [h2] at ha; cases ha
        · rw [h3] at ha; cases ha
        · rw [h4 a h5 (by omega)] at ha; cases ha
  · cases h
theorem am_raj (hx : p.tables.exec = Jvm.exec) (hb : c.code = cc) (hK : va_K D classes (am_tys dA) s) (hR : am_R D dA sp base L xs w H) {a : Nat} {j : Int32} {x : Int64} (h : am_aj w a j = some x) (hdg : decode cc pc = .ok (.laload, 1))
    (kk : W p l e R s m args below meth c H locs cells slots Q (F0 m (pc + 1) ls (.long x :: rest))) : W p l e R s m args below meth c H locs cells slots Q (F0 m pc ls (.int j :: .ref (am_ad sp base a) :: rest)) := by
  unfold am_aj at h
  split at h
  · next n f ha =>
    split at h
    · cases h
    · next hj =>
      cases h
      obtain ⟨q, hq⟩ := am_place (dA := dA) (sp := sp) (base := base) (am_ar_ge hR.2.2 ha (by decide)) (am_ar_eq ha)
      exact va_lald hx hb hK hR.1.ws q 1 hq rfl hj hdg kk
  · cases h
theorem am_raz (hx : p.tables.exec = Jvm.exec) (hb : c.code = cc) (hK : va_K D classes (am_tys dA) s) (hR : am_R D dA sp base L xs w H) {a : Nat} {j x : Int32} (h : am_az w a j = some x) (hdg : decode cc pc = .ok (.baload, 1))
    (kk : W p l e R s m args below meth c H locs cells slots Q (F0 m (pc + 1) ls (.int x :: rest))) : W p l e R s m args below meth c H locs cells slots Q (F0 m pc ls (.int j :: .ref (am_ad sp base a) :: rest)) := by
  unfold am_az at h
  split at h
  · next n f ha =>
    split at h
    · cases h
    · next hj =>
      cases h
      obtain ⟨q, hq⟩ := am_place (dA := dA) (sp := sp) (base := base) (am_ar_ge hR.2.2 ha (by decide)) (am_ar_eq ha)
      exact va_zald hx hb hK hR.1.ws q 2 hq rfl hj hdg kk
  · cases h
theorem am_rax (hx : p.tables.exec = Jvm.exec) (hb : c.code = cc) (hK : va_K D classes (am_tys dA) s) (hR : am_R D dA sp base L xs w H) {a : Nat} {j : Int32} {x : Nat} (h : am_ax w a j = some x) (hdg : decode cc pc = .ok (.aaload, 1))
    (kk : W p l e R s m args below meth c H locs cells slots Q (F0 m (pc + 1) ls (.ref (am_ad sp base x) :: rest))) : W p l e R s m args below meth c H locs cells slots Q (F0 m pc ls (.int j :: .ref (am_ad sp base a) :: rest)) := by
  unfold am_ax at h
  split at h
  · next n f ha =>
    split at h
    · cases h
    · next hj =>
      obtain ⟨q, hq⟩ := am_place (dA := dA) (sp := sp) (base := base) (am_ar_ge hR.2.2 ha (by decide)) (am_ar_eq ha)
      refine va_aldq hx hb hK hR.1.ws q 3 hq rfl hj hdg ?_
      rw [h]
      exact kk
  · cases h
theorem am_ral (hx : p.tables.exec = Jvm.exec) (hb : c.code = cc) (hE : am_env D dA sp base L xs s) (hb0 : base ≤ s.heap.size) (hR : am_R D dA sp base L xs w H) (hS : va_S (fun q => base ≤ q) s.heap H locs) {a : Nat} {x : Int32} (h : am_al w a = some x) (hdg : decode cc pc = .ok (.arraylength, 1))
    (kk : W p l e R s m args below meth c H locs cells slots Q (F0 m (pc + 1) ls (.int x :: rest))) : W p l e R s m args below meth c H locs cells slots Q (F0 m pc ls (.ref (am_ad sp base a) :: rest)) := by
  unfold am_al at h
  split at h
  · next t n f ha =>
    split at h
    · next ht =>
      cases h
      have ha := am_ar_eq ha
      by_cases h8 : 8 ≤ a
      · obtain ⟨q, hq⟩ := am_place (dA := dA) (sp := sp) (base := base) h8 ha
        have h5 : t = 0 ∨ t = 1 ∨ t = 2 ∨ t = 3 := by omega
        rcases h5 with rfl | rfl | rfl | rfl
        · rcases f with f | f | f | f | f <;> exact va_alen hx hb hE.1 hR.1.ws q 0 hq (ty := .int) rfl rfl hdg kk
        · rcases f with f | f | f | f | f <;> exact va_alen hx hb hE.1 hR.1.ws q 1 hq (ty := .long) rfl rfl hdg kk
        · rcases f with f | f | f | f | f <;> exact va_alen hx hb hE.1 hR.1.ws q 2 hq (ty := .boolean) rfl rfl hdg kk
        · rcases f with f | f | f | f | f <;> exact va_alen hx hb hE.1 hR.1.ws q 3 hq (ty := .object "GridColours$Grid") rfl rfl hdg kk
      · obtain ⟨h0, h1, h2, h3, h4⟩ := hR.2.2
        have h5 : a = 0 ∨ a = 1 ∨ a = 2 ∨ a = 3 ∨ 4 ≤ a := by omega
        rcases h5 with rfl | rfl | rfl | rfl | h5
        · rw [h0] at ha
          cases ha
          exact va_slen (b := sp 0) hx hb hE.2.2.2.1.1 (Nat.lt_of_lt_of_le hE.2.2.2.1.2 hb0) (Nat.not_le.mpr hE.2.2.2.1.2) hS hdg kk
        · rw [h1] at ha
          cases ha
          obtain ⟨cell, g1, g2, g3, g4, g5, g6, g7⟩ := hE.2.2.2.2.1.2.kept hS.2.1
          exact W.alen (n := Int32.ofNat 48) hx hb (a := sp 1) g1 g2 g5 rfl rfl hdg kk
        · rw [h2] at ha; cases ha; exact absurd ht (by decide)
        · rw [h3] at ha; cases ha; exact absurd ht (by decide)
        · rw [h4 a h5 (by omega)] at ha; cases ha
    · cases h
  · cases h
theorem am_rsi (hx : p.tables.exec = Jvm.exec) (hb : c.code = cc) (hK : va_K D classes (am_tys dA) s) (hR : am_R D dA sp base L xs w H) (hS : va_S (fun q => base ≤ q) s.heap H locs) {a : Nat} {j x : Int32} {w' : am_W} (h : am_si w a j x = some w') (hdg : decode cc pc = .ok (.iastore, 1))
    (kk : ∀ (H1 : Heap) (locs1 : List Loc), am_R D dA sp base L xs w' H1 → va_S (fun q => base ≤ q) s.heap H1 locs1 → W p l e R s m args below meth c H1 locs1 cells slots Q (F0 m (pc + 1) ls rest)) : W p l e R s m args below meth c H locs cells slots Q (F0 m pc ls (.int x :: .int j :: .ref (am_ad sp base a) :: rest)) := by
  unfold am_si at h
  split at h
  · next n f ha =>
    split at h
    · cases h
    · next hj =>
      cases h
      have h8 : 8 ≤ a := Nat.not_lt.mp fun z => hj (Or.inr (Or.inr z))
      obtain ⟨q, hq⟩ := am_place (dA := dA) (sp := sp) (base := base) h8 (am_ar_eq ha)
      refine va_iast hx hb hK hR.1.ws am_ws_D hS.me q 0 hq rfl (fun z => hj (z.elim Or.inl (fun y => Or.inr (Or.inl y)))) hdg (fun H1 locs1 hP1 _ hS1 => ?_)
      exact kk H1 locs1 ⟨am_P.put h8 (am_ar_eq ha) hq hP1, hR.2.1.put hS1.1, hR.2.2.put h8⟩ (hS.tr hS1)
  · cases h
theorem am_rsj (hx : p.tables.exec = Jvm.exec) (hb : c.code = cc) (hK : va_K D classes (am_tys dA) s) (hR : am_R D dA sp base L xs w H) (hS : va_S (fun q => base ≤ q) s.heap H locs) {a : Nat} {j : Int32} {x : Int64} {w' : am_W} (h : am_sj w a j x = some w') (hdg : decode cc pc = .ok (.lastore, 1))
    (kk : ∀ (H1 : Heap) (locs1 : List Loc), am_R D dA sp base L xs w' H1 → va_S (fun q => base ≤ q) s.heap H1 locs1 → W p l e R s m args below meth c H1 locs1 cells slots Q (F0 m (pc + 1) ls rest)) : W p l e R s m args below meth c H locs cells slots Q (F0 m pc ls (.long x :: .int j :: .ref (am_ad sp base a) :: rest)) := by
  unfold am_sj at h
  split at h
  · next n f ha =>
    split at h
    · cases h
    · next hj =>
      cases h
      have h8 : 8 ≤ a := Nat.not_lt.mp fun z => hj (Or.inr (Or.inr z))
      obtain ⟨q, hq⟩ := am_place (dA := dA) (sp := sp) (base := base) h8 (am_ar_eq ha)
      refine va_last hx hb hK hR.1.ws am_ws_D hS.me q 1 hq rfl (fun z => hj (z.elim Or.inl (fun y => Or.inr (Or.inl y)))) hdg (fun H1 locs1 hP1 _ hS1 => ?_)
      exact kk H1 locs1 ⟨am_P.put h8 (am_ar_eq ha) hq hP1, hR.2.1.put hS1.1, hR.2.2.put h8⟩ (hS.tr hS1)
  · cases h
theorem am_rsz1 (hx : p.tables.exec = Jvm.exec) (hb : c.code = cc) (hK : va_K D classes (am_tys dA) s) (hR : am_R D dA sp base L xs w H) (hS : va_S (fun q => base ≤ q) s.heap H locs) {a : Nat} {j x : Int32} {w' : am_W} (h : am_sz w a j x = some w') (hdg : decode cc pc = .ok (.bastore, 1))
    (kk : ∀ (H1 : Heap) (locs1 : List Loc), am_R D dA sp base L xs w' H1 → va_S (fun q => base ≤ q) s.heap H1 locs1 → W p l e R s m args below meth c H1 locs1 cells slots Q (F0 m (pc + 1) ls rest)) : W p l e R s m args below meth c H locs cells slots Q (F0 m pc ls (.int x :: .int j :: .ref (am_ad sp base a) :: rest)) := by
  unfold am_sz at h
  split at h
  · next n f ha =>
    split at h
    · cases h
    · next hj =>
      cases h
      have h8 : 8 ≤ a := Nat.not_lt.mp fun z => hj (Or.inr (Or.inr z))
      obtain ⟨q, hq⟩ := am_place (dA := dA) (sp := sp) (base := base) h8 (am_ar_eq ha)
      refine va_zast hx hb hK hR.1.ws am_ws_D hS.me q 2 hq rfl (fun z => hj (z.elim Or.inl (fun y => Or.inr (Or.inl y)))) hdg (fun H1 locs1 hP1 _ hS1 => ?_)
      exact kk H1 locs1 ⟨am_P.put h8 (am_ar_eq ha) hq hP1, hR.2.1.put hS1.1, hR.2.2.put h8⟩ (hS.tr hS1)
  · cases h
theorem am_rsx (hx : p.tables.exec = Jvm.exec) (hb : c.code = cc) (hK : va_K D classes (am_tys dA) s) (hR : am_R D dA sp base L xs w H) (hS : va_S (fun q => base ≤ q) s.heap H locs) {a : Nat} {j : Int32} {x : Nat} {w' : am_W} (h : am_sx w a j x = some w') (hdg : decode cc pc = .ok (.aastore, 1))
    (kk : ∀ (H1 : Heap) (locs1 : List Loc), am_R D dA sp base L xs w' H1 → va_S (fun q => base ≤ q) s.heap H1 locs1 → W p l e R s m args below meth c H1 locs1 cells slots Q (F0 m (pc + 1) ls rest)) : W p l e R s m args below meth c H locs cells slots Q (F0 m pc ls (.ref (am_ad sp base x) :: .int j :: .ref (am_ad sp base a) :: rest)) := by
  unfold am_sx at h
  split at h
  · next n f fs ha hv =>
    split at h
    · cases h
    · next hj =>
      cases h
      have h8 : 8 ≤ a := Nat.not_lt.mp fun z => hj (Or.inr (Or.inr (Or.inl z)))
      have h8x : 8 ≤ x := Nat.not_lt.mp fun z => hj (Or.inr (Or.inr (Or.inr z)))
      obtain ⟨q, hq⟩ := am_place (dA := dA) (sp := sp) (base := base) h8 (am_ar_eq ha)
      obtain ⟨qk, hqk⟩ := am_place (dA := dA) (sp := sp) (base := base) h8x (am_ob_eq hv)
      refine va_astq (r := (cR_G, cF_G, 4)) hx hb hK hR.1.ws am_ws_D hS.me q 3 qk 1 hq rfl hqk rfl (fun z => hj (z.elim Or.inl (fun y => Or.inr (Or.inl y)))) hdg (fun H1 locs1 hP1 _ hS1 => ?_)
      refine kk H1 locs1 ⟨am_P.put h8 (am_ar_eq ha) hq ?_, hR.2.1.put hS1.1, hR.2.2.put h8⟩ (hS.tr hS1)
      have e9 : (fun k => (va_up f j.toNatClampNeg (some x) k).map (am_ad sp base)) = va_up (fun k => (f k).map (am_ad sp base)) j.toNatClampNeg (some (am_ad sp base x)) := by
        funext k
        by_cases hk : k = j.toNatClampNeg
        · simp [va_up, hk]
        · simp [va_up, hk]
      show va_P D classes ((am_ws dA sp base w.2.2).set q (am_ad sp base a, .inl (dA 3, n, .inr (.inr (.inr (.inr (fun k => (va_up f j.toNatClampNeg (some x) k).map (am_ad sp base)))))))) H1
      rw [e9]
      exact hP1
  · cases h
end AMR
