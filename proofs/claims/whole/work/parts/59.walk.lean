/-! THE WALK, with its calls -/
def am_Pc (D : va_G) (dA : Nat → ClassId) (sp : Nat → Nat) (base L : Nat) (xs : Nat → Int32) (w : am_W) (as : List Value) : Array Value → State → Prop := va_Pc (as.map (am_rv sp base)) (fun U => am_env D dA sp base L xs U ∧ am_R D dA sp base L xs w U.heap ∧ base ≤ U.heap.size ∧ U.heap.size ≤ base + w.1)
def am_Qc (D : va_G) (dA : Nat → ClassId) (sp : Nat → Nat) (base L : Nat) (xs : Nat → Int32) (wf : am_W) (v : Option Value) : Array Value → State → Outcome → State → Prop := fun _ st o t => o = .returned (v.map (am_rv sp base)) ∧ am_R D dA sp base L xs wf t.heap ∧ va_F (fun q => base ≤ q) st t
def am_rm (d : Nat) (w wf : am_W) : Room := { frames := 2 * d + 16, cells := wf.1 - w.1, slots := wf.2.1 - w.2.1, locals := 64 * (d + 16) }
/-- the walk of n steps -/
def am_WK (l : Launch) (D : va_G) (dA : Nat → ClassId) (sp : Nat → Nat) (base L : Nat) (xs : Nat → Int32) (n : Nat) : Prop :=
  ∀ (d : Nat) (M : am_M) (pc : Nat) (als : List (Option Value)) (st : List Value) (w wf : am_W) (v : Option Value), am n d M pc als st w = some (wf, v) →
  ∀ (p : Program) (e : Env) (R : Room) (s : State) (m : MethodId) (args : Array Value) (below : List Frame) (meth : Method) (c : Code) (H : Heap) (locs : List Loc) (Q : State → Prop) (ls : Array Slot) (c0 s0 : Nat),
  p.tables.exec = Jvm.exec → c.code = M.2.1 → c.maxLocals = M.2.2.1 → s.vm.findClass (am_cn M.2.2.2.2.1) = some m.cls → (∀ w ∈ am_tbl, w.before args s = true) → am_env D dA sp base L xs s → base ≤ s.heap.size → (M.2.2.2.2.2.2 = true → meth.name = "<init>") →
  c0 ≤ w.1 → s0 ≤ w.2.1 → s.heap.size ≤ base + c0 → wf.1 ≤ R.cells + c0 → wf.2.1 ≤ R.slots + s0 → 2 * d + 16 ≤ R.frames → 64 * (d + 16) ≤ R.locals →
  am_lv sp base M als ls → am_R D dA sp base L xs w H → va_S (fun q => base ≤ q) s.heap H locs →
  (∀ (pc' : Nat) (i : Instr) (len : Nat) (als' : List (Option Value)) (st' : List Value) (w' : am_W) (H' : Heap) (locs' : List Loc) (ls' : Array Slot), decode M.2.1 pc' = .ok (i, len) → am_ret M i len st' w' = some (wf, v) → am_lv sp base M als' ls' → am_R D dA sp base L xs w' H' → va_S (fun q => base ≤ q) s.heap H' locs' → c0 ≤ w'.1 → s0 ≤ w'.2.1 →
    W p l e R s m args below meth c H' locs' (w'.1 - c0) (w'.2.1 - s0) Q (F0 m pc' ls' (st'.map (am_rv sp base)))) →
  W p l e R s m args below meth c H locs (w.1 - c0) (w.2.1 - s0) Q (F0 m pc ls (st.map (am_rv sp base)))
theorem am_en0_len (sp : Nat → Nat) (base : Nat) : ∀ as : List Value, (lg_sl (as.map (am_rv sp base))).length = (am_en0 as).length
  | [] => rfl
  | v :: as => by
    have ih := am_en0_len sp base as
    have e : lg_sl ((v :: as).map (am_rv sp base)) = (if (am_rv sp base v).category = 2 then [.val (am_rv sp base v), .second] else [.val (am_rv sp base v)]) ++ lg_sl (as.map (am_rv sp base)) := rfl
    rw [e, List.length_append, ih]
    cases v <;> simp [am_en0, am_rv, Value.category] <;> omega
theorem am_en0_args (sp : Nat → Nat) (base : Nat) : ∀ (as : List Value) (i k : Nat) (v : Value), (am_en0 as)[k]? = some (some v) → (i + k, am_rv sp base v) ∈ lv_args i (as.map (am_rv sp base))
  | [], i, k, v, h => by simp [am_en0] at h
  | a :: as, i, k, v, h => by
    have ih := am_en0_args sp base as
    have two : am_en0 (a :: as) = some a :: none :: am_en0 as → (am_rv sp base a).category = 2 → (i + k, am_rv sp base v) ∈ lv_args i ((a :: as).map (am_rv sp base)) := by
      intro e hc
      rw [e] at h
      show (i + k, am_rv sp base v) ∈ (i, am_rv sp base a) :: lv_args (if (am_rv sp base a).category = 2 then i + 2 else i + 1) (as.map (am_rv sp base))
      rw [if_pos hc]
      match k, h with
      | 0, h => cases h; exact List.mem_cons_self
      | 1, h => cases h
      | k + 2, h =>
        have h : (am_en0 as)[k]? = some (some v) := h
        have := ih (i + 2) k v h
        rw [show i + (k + 2) = i + 2 + k by omega]
        exact List.mem_cons_of_mem _ this
    have one : am_en0 (a :: as) = some a :: am_en0 as → ¬ (am_rv sp base a).category = 2 → (i + k, am_rv sp base v) ∈ lv_args i ((a :: as).map (am_rv sp base)) := by
      intro e hc
      rw [e] at h
      show (i + k, am_rv sp base v) ∈ (i, am_rv sp base a) :: lv_args (if (am_rv sp base a).category = 2 then i + 2 else i + 1) (as.map (am_rv sp base))
      rw [if_neg hc]
      match k, h with
      | 0, h => cases h; exact List.mem_cons_self
      | k + 1, h =>
        have h : (am_en0 as)[k]? = some (some v) := h
        have := ih (i + 1) k v h
        rw [show i + (k + 1) = i + 1 + k by omega]
        exact List.mem_cons_of_mem _ this
    cases a with
    | int x => exact one rfl (fun z => by cases z)
    | long x => exact two rfl rfl
    | float x => exact one rfl (fun z => by cases z)
    | double x => exact two rfl rfl
    | null => exact one rfl (fun z => by cases z)
    | ref x => exact one rfl (fun z => by cases z)
    | retAddr x => exact one rfl (fun z => by cases z)
theorem am_en_lv (sp : Nat → Nat) (base : Nat) (M : am_M) (as : List Value) (h : (am_en0 as).length ≤ M.2.2.1) : am_lv sp base M (am_en M as) ((lg_sl (as.map (am_rv sp base)) ++ List.replicate (M.2.2.1 - (lg_sl (as.map (am_rv sp base))).length) Slot.unset).toArray) := by
  have h1 := lv_entry (as.map (am_rv sp base)) (n := M.2.2.1) (by rw [am_en0_len]; exact h)
  refine ⟨h1.1, h1.2.1, ?_, fun k v hk _ => ?_⟩
  · unfold am_en
    simp
    omega
  · unfold am_en at hk
    by_cases hl : k < (am_en0 as).length
    · rw [List.getElem?_append_left hl] at hk
      have h2 := am_en0_args sp base as 0 k v hk
      rw [Nat.zero_add] at h2
      exact h1.2.2 _ h2
    · rw [List.getElem?_append_right (by omega), List.getElem?_replicate] at hk
      split at hk <;> cases hk
section AMW
variable {l : Launch} {D : va_G} {dA : Nat → ClassId} {sp : Nat → Nat} {base L : Nat} {xs : Nat → Int32}
/-- a method's end -/
theorem am_fin {p : Program} {e : Env} {R : Room} {s : State} {m : MethodId} {args : Array Value} {below : List Frame} {meth : Method} {c : Code} {M : am_M} {pc : Nat} {i : Instr} {len : Nat} {st : List Value} {w wf : am_W} {v : Option Value} {H : Heap} {locs : List Loc} {ls : Array Slot} {cells slots : Nat} {Qc : Array Value → State → Outcome → State → Prop} {free : Addr → Prop}
    (hx : p.tables.exec = Jvm.exec) (hb : c.code = M.2.1) (hr : meth.sig.returnType = M.2.2.2.1) (hlocks : meth.locks = false) (hd : decode M.2.1 pc = .ok (i, len)) (h : am_ret M i len st w = some (wf, v)) (hv : v ≠ some (.retAddr 0))
    (hq : ∀ t : State, t.heap = H → s.WarmedH t.vm → Qc args s (.returned (v.map (am_rv sp base))) t) (hf : ∀ q ∈ locs, free q.base) : W p l e R s m args below meth c H locs cells slots (MQ below Qc args s cells slots free) (F0 m pc ls (st.map (am_rv sp base))) := by
  rcases am_ret_eq h with ⟨rfl, rfl, h1⟩ | ⟨-, -, -, -, h1⟩
  · rcases h1 with ⟨rfl, hM, x, rfl, rfl⟩ | ⟨rfl, hM, x, rfl, rfl, hx01⟩ | ⟨rfl, hM, x, rfl, rfl⟩ | ⟨rfl, ⟨n, hM⟩, x, rfl, rfl⟩ | ⟨rfl, hM, rfl, rfl⟩
    · exact W.iret hx hb (hr.trans hM) hq hf hd hlocks
    · exact W.zret (ty := .boolean) hx hb (hr.trans hM) (by rcases hx01 with rfl | rfl <;> rfl) hq hf hd hlocks
    · exact W.lret hx hb (hr.trans hM) hq hf hd hlocks
    · exact W.aret (v := .ref (am_ad sp base x)) hx hb (hr.trans hM) (Or.inl ⟨n, rfl⟩) (Or.inr ⟨_, rfl⟩) hq hf hd hlocks
    · exact W.vret hx hb (hr.trans hM) hq hf hd hlocks
  · exact absurd h1 hv
/-- a method of the small machine keeps its contract -/
theorem am_met {n : Nat} (ih : am_WK l D dA sp base L xs n) {d : Nat} {M : am_M} {as : List Value} {w wf : am_W} {v : Option Value} (h : am n d M 0 (am_en M as) [] w = some (wf, v)) (hv : v ≠ some (.retAddr 0)) (hpl : plainName M.1.cls = true) (hcl : M.1.cls = am_cn M.2.2.2.2.1) (hin : M.2.2.2.2.2.2 = true → M.1.name = "<init>") (hfit : (am_en0 as).length ≤ M.2.2.1) :
    Met l M.1 (am_mw M) (am_rm d w wf) (am_Pc D dA sp base L xs w as) (am_Qc D dA sp base L xs wf v) (wf.1 - w.1) (wf.2.1 - w.2.1) (fun q => base ≤ q) := by
  refine Met.ofW (cc := M.2.1) (maxL := M.2.2.1) (ret := M.2.2.2.1) hpl rfl ?_
  intro p e s m args below meth c s₁ B hml hpre
  obtain ⟨rfl, hE, hR, hb0, hcz⟩ := hpre
  have hx := B.exec
  have hb := B.bytes
  have hr := B.returns
  have hlocks := B.notSynchronized
  have hts : ∀ w ∈ am_tbl, w.before (as.map (am_rv sp base)).toArray s = true := fun w hw => atoms_spec (ws := am_mw M) B.pre w (List.mem_cons_of_mem _ hw)
  have hown : s.vm.findClass M.1.cls = some m.cls := findClass_of_methodNamed B.named
  have hnm : meth.name = M.1.name := (name_of_methodNamed B.named B.method).1
  have hg := am_grow _ _ _ _ _ _ _ _ _ h
  rw [hcl] at hown
  rw [lg_entry_eq]
  have hk := ih d M 0 (am_en M as) [] w wf v h p e (am_rm d w wf) s m (as.map (am_rv sp base)).toArray below meth c s.heap [] (MQ below (am_Qc D dA sp base L xs wf v) (as.map (am_rv sp base)).toArray s (wf.1 - w.1) (wf.2.1 - w.2.1) (fun q => base ≤ q)) _ w.1 w.2.1 hx hb hml hown hts hE hb0 (fun hi => hnm.trans (hin hi)) (Nat.le_refl _) (Nat.le_refl _) hcz (by show wf.1 ≤ wf.1 - w.1 + w.1; omega) (by show wf.2.1 ≤ wf.2.1 - w.2.1 + w.2.1; omega) (Nat.le_refl _) (Nat.le_refl _) (am_en_lv sp base M as hfit) hR va_S.rf ?_
  · rw [Nat.sub_self, Nat.sub_self] at hk
    exact hk
  · intro pc' i len als' st' w' H' locs' ls' hd hret hl' hR' hS' h1 h2
    have hw : wf = w' := by
      rcases am_ret_eq hret with ⟨-, rfl, -⟩ | ⟨-, -, -, -, h9⟩
      · rfl
      · exact absurd h9 hv
    subst hw
    exact am_fin (wf := wf) (v := v) hx hb hr hlocks hd hret hv (fun t ht hW => ⟨rfl, by rw [ht]; exact hR', hS'.F ht⟩) hS'.2.2
/-- behind a call -/
theorem am_after {p : Program} {e : Env} {R : Room} {s : State} {m : MethodId} {args a : Array Value} {below : List Frame} {meth : Method} {c : Code} {H : Heap} {locs : List Loc} {cells slots mc ms pc : Nat} {Q : State → Prop} {ls : Array Slot} {st0 rest : List Value} {wf : am_W} {v : Option Value}
    (hr : va_Run p l e R s m args below meth c H locs cells slots mc ms (F0 m pc ls st0) rest (am_Qc D dA sp base L xs wf v a) (fun q => base ≤ q)) (hS : va_S (fun q => base ≤ q) s.heap H locs)
    (kk : ∀ (H1 : Heap) (locs1 : List Loc), am_R D dA sp base L xs wf H1 → va_S (fun q => base ≤ q) s.heap H1 locs1 → W p l e R s m args below meth c H1 locs1 (cells + mc) (slots + ms) Q (F0 m (pc + 3) ls ((v.map (am_rv sp base)).toList ++ rest))) : W p l e R s m args below meth c H locs cells slots Q (F0 m pc ls st0) := by
  intro T hT X
  obtain ⟨v', st₀, t, T', L', h0, X', hL, e1, e2, ⟨hv, hRt, hz, hk⟩, st⟩ := hr T hT X
  cases hv
  rw [h0] at hz hk
  obtain ⟨t2, a1, b1⟩ := kk T'.heap (locs ++ L') (by rw [e1]; exact hRt) ⟨Nat.le_trans hS.1 (by rw [e1]; exact hz), fun q h1 h2 => by rw [e1, hk q (Nat.lt_of_lt_of_le h1 hS.1) h2]; exact hS.2.1 q h1 h2, fun q hq => by
      rcases List.mem_append.mp hq with h | h
      · exact hS.2.2 q h
      · exact hL q h⟩ T' rfl X'
  exact ⟨t2, st t2 a1, b1⟩
theorem am_blind {w : am_W} {as : List Value} : FrameBlind (am_Pc D dA sp base L xs w as) := by
  intro a U g mk h
  obtain ⟨h1, hE, hR, h2, h3⟩ := h
  exact ⟨h1, hE.warm (State.WarmedH.refl U) (fun _ _ _ => rfl), hR, h2, h3⟩
theorem am_mok_eq {ps : List Nat} {M : am_M} (h : am_mok ps M = true) : (Cond.code M.1 M.2.1 M.2.2.1 M.2.2.2.1) ∈ am_tbl ∧ M.1.cls = am_cn M.2.2.2.2.1 ∧ (Cond.initialized M.1.cls) ∈ am_tbl ∧ plainName M.1.cls = true ∧ M.1.cls ≠ "java/lang/invoke/MethodHandle" ∧ M.1.cls ≠ "java/lang/invoke/VarHandle" ∧ (M.2.2.2.2.2.2 = true → M.1.name = "<init>") := by
  simp only [am_mok, Bool.and_eq_true, decide_eq_true_eq, Bool.or_eq_true, Bool.not_eq_true'] at h
  obtain ⟨⟨⟨⟨⟨⟨h1, h2⟩, h3⟩, h4⟩, h5⟩, h6⟩, h7⟩ := h
  refine ⟨am_at_mem h1, h2, am_at_mem h3, h4, h5, h6, fun hi => ?_⟩
  rcases h7 with h7 | h7
  · rw [hi] at h7; cases h7
  · exact h7
end AMW
