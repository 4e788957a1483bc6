/-! FUNCTIONS FOR METHODS: 'o' is what the small machine comes to -/
def am_Ok {τ : Type} (inj : τ → Option Value) (d : Nat) (M : am_M) (pc : Nat) (ls : List (Option Value)) (st : List Value) (w : am_W) (o : Option (am_W × τ)) : Prop := ∀ r, o = some r → ∃ n, am n d M pc ls st w = some (r.1, inj r.2)
def am_ji (x : Int32) : Option Value := some (.int x)
def am_jj (x : Int64) : Option Value := some (.long x)
def am_ja (x : Nat) : Option Value := some (.ref x)
def am_jv (_ : Unit) : Option Value := none
def am_jx (x : Option Int64) : Option Value := match x with
  | some x => some (.long x)
  | none => some (.retAddr 0)
/-- a bound for loops -/
def am_N : Nat := 1048576
def am_self {α : Type} (w : am_W) (i ci : Nat) (o : Option α) : Option α := if am_is w i ci = true then o else none
def am_rb (w : am_W) (v : Int32) : Option (am_W × Int32) := if v = 0 ∨ v = 1 then some (w, v) else none
def am_thr (w : am_W) : Option (am_W × Option Int64) := some ((w.1 + 1, w.2.1 + 6, w.2.2), none)
def am_xo (o : Nat) (r : am_W × Option Int64) : Option (am_W × Int32) := if o < 8 then none else match r.2 with
  | none => some (r.1, 1)
  | some v => (am_sj r.1 o 0 v).bind fun w' => some (w', 0)
def am_iu (x y : Int32) : Int32 := (x.toUInt32 >>> (y.toUInt32 &&& Int32.toUInt32 31)).toInt32
def am_lu (x : Int64) (y : Int32) : Int64 := (x.toUInt64 >>> (y.toInt64.toUInt64 &&& Int64.toUInt64 63)).toInt64
def am_min (x y : Int32) : Int32 := if y < x then y else x
def am_max (x y : Int32) : Int32 := if x < y then y else x
def am_sw7 {α : Type} (x : Int32) (t0 t1 t2 t3 t4 t5 t6 td : α) : α := if x = 0 then t0 else if x = 1 then t1 else if x = 2 then t2 else if x = 3 then t3 else if x = 4 then t4 else if x = 5 then t5 else if x = 6 then t6 else td
def am_sw31 {α : Type} (x : Int32) (t0 t1 t2 t3 t4 t5 t6 t7 t8 t9 t10 t11 t12 t13 t14 t15 t16 t17 t18 t19 t20 t21 t22 t23 t24 t25 t26 t27 t28 t29 t30 td : α) : α := if x = 0 then t0 else if x = 1 then t1 else if x = 2 then t2 else if x = 3 then t3 else if x = 4 then t4 else if x = 5 then t5 else if x = 6 then t6 else if x = 7 then t7 else if x = 8 then t8 else if x = 9 then t9 else if x = 10 then t10 else if x = 11 then t11 else if x = 12 then t12 else if x = 13 then t13 else if x = 14 then t14 else if x = 15 then t15 else if x = 16 then t16 else if x = 17 then t17 else if x = 18 then t18 else if x = 19 then t19 else if x = 20 then t20 else if x = 21 then t21 else if x = 22 then t22 else if x = 23 then t23 else if x = 24 then t24 else if x = 25 then t25 else if x = 26 then t26 else if x = 27 then t27 else if x = 28 then t28 else if x = 29 then t29 else if x = 30 then t30 else td
def am_d0 : List Value := [.null, .null, .null, .null, .null, .null, .null, .int 0]
def am_d1 : List Value := [.null, .int 0, .int 0, .int 0]
def am_d2 : List Value := [.null, .int 0, .int 0]
def am_d3 : List Value := [.null, .int 0, .int 0, .int 0, .int 0, .int 0, .int 0, .int 0]
def am_d4 : List Value := [.null, .null, .null, .int 0, .int 0, .int 0]
def am_d5 : List Value := [.null, .null]
def am_d6 : List Value := [.null, .int 0]
def am_d7 : List Value := [.int 0, .null, .int 0, .int 0, .int 0, .int 0, .int 0, .int 0, .int 0, .int 0, .long 0, .null, .null, .null, .null, .null, .null, .null, .null, .int 0, .int 0, .null, .null, .int 0, .null, .null, .null, .null, .int 0, .int 0, .null, .null, .null, .int 0]
/-- more steps, deeper calls: the same end -/
theorem am_mono : ∀ (n d : Nat) (M : am_M) (pc : Nat) (ls : List (Option Value)) (st : List Value) (w : am_W) (r : am_W × Option Value), am n d M pc ls st w = some r → ∀ k, am (n + k) d M pc ls st w = some r := by
  intro n
  induction n with
  | zero => intro d M pc ls st w r h; cases h
  | succ n ih =>
    intro d M pc ls st w r h k
    rw [show n + 1 + k = (n + k) + 1 by omega]
    unfold am at h ⊢
    split at h
    · cases h
    · next i len hd =>
      split at h
      · exact h
      · split at h
        · next kd M' as rest hi =>
          split at h
          · cases h
          · next d' =>
            split at h
            · cases h
            · next w' v hc =>
              rw [ih _ _ _ _ _ _ _ hc k]
              dsimp only
              split at h
              · cases h
              · next w'' vs ha => exact ih _ _ _ _ _ _ _ h k
        · split at h
          · cases h
          · exact ih _ _ _ _ _ _ _ h k
section OKS
variable {τ : Type} {inj : τ → Option Value} {d : Nat} {M : am_M} {pc : Nat} {ls : List (Option Value)} {st : List Value} {w : am_W}
theorem ok_none : am_Ok inj d M pc ls st w none := fun r h => by cases h
theorem ok_st {i : Instr} {len pc' : Nat} {ls' : List (Option Value)} {st' : List Value} {w' : am_W} {o : Option (am_W × τ)} (hd : decode M.2.1 pc = .ok (i, len)) (hr : am_ret M i len st w = none) (hi : am_inv M i len st w = none) (hs : am_st M i len pc ls st w = some (pc', ls', st', w')) (k : am_Ok inj d M pc' ls' st' w' o) : am_Ok inj d M pc ls st w o := by
  intro r h
  obtain ⟨n, hn⟩ := k r h
  refine ⟨n + 1, ?_⟩
  unfold am
  rw [hd]
  dsimp only
  rw [hr]
  dsimp only
  rw [hi]
  dsimp only
  rw [hs]
  exact hn
theorem ok_ret {i : Instr} {len : Nat} {w' : am_W} {v : τ} (hd : decode M.2.1 pc = .ok (i, len)) (hr : am_ret M i len st w = some (w', inj v)) : am_Ok inj d M pc ls st w (some (w', v)) := by
  intro r h
  cases h
  refine ⟨1, ?_⟩
  unfold am
  rw [hd]
  dsimp only
  rw [hr]
theorem ok_retb {M : am_M} {len : Nat} {v : Int32} (hd : decode M.2.1 pc = .ok (.ireturn, 1)) (hr : M.2.2.2.1 = some .boolean) : am_Ok am_ji d M pc ls [.int v] w (am_rb w v) := by
  intro r h
  unfold am_rb at h
  split at h
  · next hv =>
    cases h
    refine ⟨1, ?_⟩
    unfold am
    rw [hd]
    dsimp only
    have : am_ret M .ireturn 1 [.int v] w = some (w, some (.int v)) := by
      unfold am_ret
      rw [if_pos rfl]
      dsimp only
      rw [hr]
      dsimp only
      rw [if_pos hv]
    rw [this]
    rfl
  · cases h
/-- a run of instructions, one behind the other -/
def am_cut (M : am_M) (pc : Nat) : List (Instr × Nat) → Bool
  | [] => true
  | (i, len) :: r => decide (decode M.2.1 pc = .ok (i, len)) && am_cut M (pc + len) r
def am_run (M : am_M) : List (Instr × Nat) → Nat → List (Option Value) → List Value → am_W → Option am_F
  | [], pc, ls, st, w => some (pc, ls, st, w)
  | (i, len) :: r, pc, ls, st, w => match am_ret M i len st w, am_inv M i len st w, am_st M i len pc ls st w with
    | none, none, some (pc', ls', st', w') => if pc' = pc + len then am_run M r pc' ls' st' w' else none
    | _, _, _ => none
theorem ok_seg {L : List (Instr × Nat)} {pc' : Nat} {ls' : List (Option Value)} {st' : List Value} {w' : am_W} {o : Option (am_W × τ)} (hc : am_cut M pc L = true) (hs : am_run M L pc ls st w = some (pc', ls', st', w')) (k : am_Ok inj d M pc' ls' st' w' o) : am_Ok inj d M pc ls st w o := by
  induction L generalizing pc ls st w with
  | nil =>
    unfold am_run at hs
    cases hs
    exact k
  | cons a L ih =>
    obtain ⟨i, len⟩ := a
    unfold am_cut at hc
    simp only [Bool.and_eq_true, decide_eq_true_eq] at hc
    unfold am_run at hs
    split at hs
    · next p1 l1 s1 w1 h1 h2 h3 =>
      split at hs
      · next hp =>
        subst hp
        exact ok_st hc.1 h1 h2 h3 (ih hc.2 hs)
      · cases hs
    · cases hs
/-- a jump -/
theorem ok_goto {off : Int} {t : Nat} {o : Option (am_W × τ)} (hd : decode M.2.1 pc = .ok (.goto off, 3)) (ht : am_tg pc off = some t) (k : am_Ok inj d M t ls st w o) : am_Ok inj d M pc ls st w o := by
  refine ok_st hd rfl rfl ?_ k
  simp only [am_st, ↓reduceIte, ht]
theorem am_br_t {c : Bool} {off : Int} {t : Nat} {r : List Value} (ht : am_tg pc off = some t) (hc : c = true) : am_br c pc off ls r w = some (t, ls, r, w) := by
  unfold am_br
  rw [ht, hc]
theorem am_br_f {c : Bool} {off : Int} {t : Nat} {r : List Value} (ht : am_tg pc off = some t) (hc : c = false) : am_br c pc off ls r w = some (pc + 3, ls, r, w) := by
  unfold am_br
  rw [ht, hc]
/-- a branch: by what am_st says of it -/
theorem ok_br {i : Instr} {off : Int} {t : Nat} {r : List Value} {P : Prop} [Decidable P] {o1 o2 : Option (am_W × τ)} (hd : decode M.2.1 pc = .ok (i, 3)) (hr : am_ret M i 3 st w = none) (hi : am_inv M i 3 st w = none) (hs : am_st M i 3 pc ls st w = am_br (decide P) pc off ls r w) (ht : am_tg pc off = some t)
    (k1 : P → am_Ok inj d M t ls r w o1) (k2 : ¬ P → am_Ok inj d M (pc + 3) ls r w o2) : am_Ok inj d M pc ls st w (if P then o1 else o2) := by
  by_cases h : P
  · rw [if_pos h]
    exact ok_st hd hr hi (hs.trans (am_br_t ht (decide_eq_true h))) (k1 h)
  · rw [if_neg h]
    exact ok_st hd hr hi (hs.trans (am_br_f ht (decide_eq_false h))) (k2 h)
/-- a division -/
theorem ok_div {x y : Int32} {r : List Value} {o : Option (am_W × τ)} (hd : decode M.2.1 pc = .ok (.idiv, 1)) (k : ¬ y = 0 → am_Ok inj d M (pc + 1) ls (.int (x / y) :: r) w o) : am_Ok inj d M pc ls (.int y :: .int x :: r) w (if y = 0 then none else o) := by
  by_cases h : y = 0
  · rw [if_pos h]; exact ok_none
  · rw [if_neg h]
    refine ok_st hd rfl rfl ?_ (k h)
    simp only [am_st, ↓reduceIte, h]
theorem ok_rem {x y : Int32} {r : List Value} {o : Option (am_W × τ)} (hd : decode M.2.1 pc = .ok (.irem, 1)) (k : ¬ y = 0 → am_Ok inj d M (pc + 1) ls (.int (x - x / y * y) :: r) w o) : am_Ok inj d M pc ls (.int y :: .int x :: r) w (if y = 0 then none else o) := by
  by_cases h : y = 0
  · rw [if_pos h]; exact ok_none
  · rw [if_neg h]
    refine ok_st hd rfl rfl ?_ (k h)
    simp only [am_st, ↓reduceIte, h]
/-- a step that may not be: a bind -/
theorem ok_bind {α : Type} {i : Instr} {len : Nat} {a : Option α} {F : α → am_F} {g : α → Option (am_W × τ)} (hd : decode M.2.1 pc = .ok (i, len)) (hr : am_ret M i len st w = none) (hi : am_inv M i len st w = none) (hs : ∀ v, a = some v → am_st M i len pc ls st w = some (F v)) (k : ∀ v, a = some v → am_Ok inj d M (F v).1 (F v).2.1 (F v).2.2.1 (F v).2.2.2 (g v)) : am_Ok inj d M pc ls st w (a.bind g) := by
  intro r h
  cases ha : a with
  | none => rw [ha] at h; cases h
  | some v =>
    rw [ha] at h
    exact ok_st hd hr hi (hs v ha) (k v ha) r h
theorem ok_gi {idx ci f i : Nat} {r : List Value} {g : Int32 → Option (am_W × τ)} (hd : decode M.2.1 pc = .ok (.getfield idx, 3)) (hf : am_fl M.2.2.2.2.1 idx = some (ci, f, 0)) (k : ∀ v, am_gi w i ci f = some v → am_Ok inj d M (pc + 3) ls (.int v :: r) w (g v)) : am_Ok inj d M pc ls (.ref i :: r) w ((am_gi w i ci f).bind g) := by
  refine ok_bind (F := fun v => (pc + 3, ls, .int v :: r, w)) hd rfl rfl (fun v hv => ?_) k
  simp only [am_st, ↓reduceIte, am_getf, hf, hv]
theorem ok_gl {idx ci f i : Nat} {r : List Value} {g : Int64 → Option (am_W × τ)} (hd : decode M.2.1 pc = .ok (.getfield idx, 3)) (hf : am_fl M.2.2.2.2.1 idx = some (ci, f, 1)) (k : ∀ v, am_gl w i ci f = some v → am_Ok inj d M (pc + 3) ls (.long v :: r) w (g v)) : am_Ok inj d M pc ls (.ref i :: r) w ((am_gl w i ci f).bind g) := by
  refine ok_bind (F := fun v => (pc + 3, ls, .long v :: r, w)) hd rfl rfl (fun v hv => ?_) k
  simp only [am_st, ↓reduceIte, am_getf, hf, hv]
theorem ok_gr {idx ci f t i : Nat} {r : List Value} {g : Nat → Option (am_W × τ)} (hd : decode M.2.1 pc = .ok (.getfield idx, 3)) (hf : am_fl M.2.2.2.2.1 idx = some (ci, f, t)) (ht : t = 2 ∨ t = 3) (k : ∀ v, am_gr w i ci f = some v → am_Ok inj d M (pc + 3) ls (.ref v :: r) w (g v)) : am_Ok inj d M pc ls (.ref i :: r) w ((am_gr w i ci f).bind g) := by
  refine ok_bind (F := fun v => (pc + 3, ls, .ref v :: r, w)) hd rfl rfl (fun v hv => ?_) k
  rcases ht with rfl | rfl <;> simp only [am_st, ↓reduceIte, am_getf, hf, hv]
theorem ok_pi {idx ci f i : Nat} {x : Int32} {r : List Value} {g : am_W → Option (am_W × τ)} (hd : decode M.2.1 pc = .ok (.putfield idx, 3)) (hf : am_fl M.2.2.2.2.1 idx = some (ci, f, 0)) (k : ∀ v, am_pv w i ci f (.int x) = some v → am_Ok inj d M (pc + 3) ls r v (g v)) : am_Ok inj d M pc ls (.int x :: .ref i :: r) w ((am_pv w i ci f (.int x)).bind g) := by
  refine ok_bind (F := fun v => (pc + 3, ls, r, v)) hd rfl rfl (fun v hv => ?_) k
  simp only [am_st, ↓reduceIte, am_putf, hf, hv]
theorem ok_pl {idx ci f i : Nat} {x : Int64} {r : List Value} {g : am_W → Option (am_W × τ)} (hd : decode M.2.1 pc = .ok (.putfield idx, 3)) (hf : am_fl M.2.2.2.2.1 idx = some (ci, f, 1)) (k : ∀ v, am_pv w i ci f (.long x) = some v → am_Ok inj d M (pc + 3) ls r v (g v)) : am_Ok inj d M pc ls (.long x :: .ref i :: r) w ((am_pv w i ci f (.long x)).bind g) := by
  refine ok_bind (F := fun v => (pc + 3, ls, r, v)) hd rfl rfl (fun v hv => ?_) k
  simp only [am_st, ↓reduceIte, am_putf, hf, hv]
theorem ok_pr {idx ci f t i : Nat} {x : Nat} {r : List Value} {g : am_W → Option (am_W × τ)} (hd : decode M.2.1 pc = .ok (.putfield idx, 3)) (hf : am_fl M.2.2.2.2.1 idx = some (ci, f, t)) (ht : t = 2 ∨ (t = 3 ∧ M.2.2.2.2.2.2 = true)) (k : ∀ v, am_pv w i ci f (.ref x) = some v → am_Ok inj d M (pc + 3) ls r v (g v)) : am_Ok inj d M pc ls (.ref x :: .ref i :: r) w ((am_pv w i ci f (.ref x)).bind g) := by
  refine ok_bind (F := fun v => (pc + 3, ls, r, v)) hd rfl rfl (fun v hv => ?_) k
  rcases ht with rfl | ⟨rfl, hi⟩
  · simp only [am_st, ↓reduceIte, am_putf, hf, hv]
  · simp only [am_st, ↓reduceIte, am_putf, hf, hv, hi]
theorem ok_ai {j : Int32} {a : Nat} {r : List Value} {g : Int32 → Option (am_W × τ)} (hd : decode M.2.1 pc = .ok (.iaload, 1)) (k : ∀ v, am_ai w a j = some v → am_Ok inj d M (pc + 1) ls (.int v :: r) w (g v)) : am_Ok inj d M pc ls (.int j :: .ref a :: r) w ((am_ai w a j).bind g) := by
  refine ok_bind (F := fun v => (pc + 1, ls, .int v :: r, w)) hd rfl rfl (fun v hv => ?_) k
  simp only [am_st, ↓reduceIte, hv]
theorem ok_aj {j : Int32} {a : Nat} {r : List Value} {g : Int64 → Option (am_W × τ)} (hd : decode M.2.1 pc = .ok (.laload, 1)) (k : ∀ v, am_aj w a j = some v → am_Ok inj d M (pc + 1) ls (.long v :: r) w (g v)) : am_Ok inj d M pc ls (.int j :: .ref a :: r) w ((am_aj w a j).bind g) := by
  refine ok_bind (F := fun v => (pc + 1, ls, .long v :: r, w)) hd rfl rfl (fun v hv => ?_) k
  simp only [am_st, ↓reduceIte, hv]
theorem ok_az {j : Int32} {a : Nat} {r : List Value} {g : Int32 → Option (am_W × τ)} (hd : decode M.2.1 pc = .ok (.baload, 1)) (k : ∀ v, am_az w a j = some v → am_Ok inj d M (pc + 1) ls (.int v :: r) w (g v)) : am_Ok inj d M pc ls (.int j :: .ref a :: r) w ((am_az w a j).bind g) := by
  refine ok_bind (F := fun v => (pc + 1, ls, .int v :: r, w)) hd rfl rfl (fun v hv => ?_) k
  simp only [am_st, ↓reduceIte, hv]
theorem ok_ax {j : Int32} {a : Nat} {r : List Value} {g : Nat → Option (am_W × τ)} (hd : decode M.2.1 pc = .ok (.aaload, 1)) (k : ∀ v, am_ax w a j = some v → am_Ok inj d M (pc + 1) ls (.ref v :: r) w (g v)) : am_Ok inj d M pc ls (.int j :: .ref a :: r) w ((am_ax w a j).bind g) := by
  refine ok_bind (F := fun v => (pc + 1, ls, .ref v :: r, w)) hd rfl rfl (fun v hv => ?_) k
  simp only [am_st, ↓reduceIte, hv]
theorem ok_al {a : Nat} {r : List Value} {g : Int32 → Option (am_W × τ)} (hd : decode M.2.1 pc = .ok (.arraylength, 1)) (k : ∀ v, am_al w a = some v → am_Ok inj d M (pc + 1) ls (.int v :: r) w (g v)) : am_Ok inj d M pc ls (.ref a :: r) w ((am_al w a).bind g) := by
  refine ok_bind (F := fun v => (pc + 1, ls, .int v :: r, w)) hd rfl rfl (fun v hv => ?_) k
  simp only [am_st, ↓reduceIte, hv]
theorem ok_si {j x : Int32} {a : Nat} {r : List Value} {g : am_W → Option (am_W × τ)} (hd : decode M.2.1 pc = .ok (.iastore, 1)) (k : ∀ v, am_si w a j x = some v → am_Ok inj d M (pc + 1) ls r v (g v)) : am_Ok inj d M pc ls (.int x :: .int j :: .ref a :: r) w ((am_si w a j x).bind g) := by
  refine ok_bind (F := fun v => (pc + 1, ls, r, v)) hd rfl rfl (fun v hv => ?_) k
  simp only [am_st, ↓reduceIte, hv]
theorem ok_sj {j : Int32} {x : Int64} {a : Nat} {r : List Value} {g : am_W → Option (am_W × τ)} (hd : decode M.2.1 pc = .ok (.lastore, 1)) (k : ∀ v, am_sj w a j x = some v → am_Ok inj d M (pc + 1) ls r v (g v)) : am_Ok inj d M pc ls (.long x :: .int j :: .ref a :: r) w ((am_sj w a j x).bind g) := by
  refine ok_bind (F := fun v => (pc + 1, ls, r, v)) hd rfl rfl (fun v hv => ?_) k
  simp only [am_st, ↓reduceIte, hv]
theorem ok_sz {j x : Int32} {a : Nat} {r : List Value} {g : am_W → Option (am_W × τ)} (hd : decode M.2.1 pc = .ok (.bastore, 1)) (k : ∀ v, am_sz w a j x = some v → am_Ok inj d M (pc + 1) ls r v (g v)) : am_Ok inj d M pc ls (.int x :: .int j :: .ref a :: r) w ((am_sz w a j x).bind g) := by
  refine ok_bind (F := fun v => (pc + 1, ls, r, v)) hd rfl rfl (fun v hv => ?_) k
  simp only [am_st, ↓reduceIte, hv]
theorem ok_sx {j : Int32} {x a : Nat} {r : List Value} {g : am_W → Option (am_W × τ)} (hd : decode M.2.1 pc = .ok (.aastore, 1)) (k : ∀ v, am_sx w a j x = some v → am_Ok inj d M (pc + 1) ls r v (g v)) : am_Ok inj d M pc ls (.ref x :: .int j :: .ref a :: r) w ((am_sx w a j x).bind g) := by
  refine ok_bind (F := fun v => (pc + 1, ls, r, v)) hd rfl rfl (fun v hv => ?_) k
  simp only [am_st, ↓reduceIte, hv]
theorem ok_new {idx ci n : Nat} {fs : List Value} {g : am_W → Option (am_W × τ)} (hd : decode M.2.1 pc = .ok (.new idx, 3)) (hr : am_ret M (.new idx) 3 st w = none) (hc : am_cl M.2.2.2.2.1 idx = some ci) (hf : am_df ci = some fs) (hn : fs.length = n) (k : ∀ v, am_nw w (.inr (ci, fs)) n = some v → am_Ok inj d M (pc + 3) ls (.ref w.2.2.length :: st) v (g v)) : am_Ok inj d M pc ls st w ((am_nw w (.inr (ci, fs)) n).bind g) := by
  subst hn
  refine ok_bind (F := fun v => (pc + 3, ls, .ref w.2.2.length :: st, v)) hd hr rfl (fun v hv => ?_) k
  simp only [am_st, ↓reduceIte, hc, hf, hv]
theorem ok_na {t : ArrayType} {tn : Nat} {n : Int32} {r : List Value} {g : am_W → Option (am_W × τ)} (hd : decode M.2.1 pc = .ok (.newarray t, 2)) (ht : (t = .int ∧ tn = 0) ∨ (t = .long ∧ tn = 1) ∨ (t = .boolean ∧ tn = 2)) (k : ∀ v, am_na w tn n = some v → am_Ok inj d M (pc + 2) ls (.ref w.2.2.length :: r) v (g v)) : am_Ok inj d M pc ls (.int n :: r) w ((am_na w tn n).bind g) := by
  refine ok_bind (F := fun v => (pc + 2, ls, .ref w.2.2.length :: r, v)) hd rfl rfl (fun v hv => ?_) k
  rcases ht with ⟨rfl, rfl⟩ | ⟨rfl, rfl⟩ | ⟨rfl, rfl⟩ <;> simp only [am_st, ↓reduceIte, hv]
theorem ok_nq {idx : Nat} {n : Int32} {r : List Value} {g : am_W → Option (am_W × τ)} (hd : decode M.2.1 pc = .ok (.anewarray idx, 3)) (hc : am_cl M.2.2.2.2.1 idx = some 1) (k : ∀ v, am_na w 3 n = some v → am_Ok inj d M (pc + 3) ls (.ref w.2.2.length :: r) v (g v)) : am_Ok inj d M pc ls (.int n :: r) w ((am_na w 3 n).bind g) := by
  refine ok_bind (F := fun v => (pc + 3, ls, .ref w.2.2.length :: r, v)) hd rfl rfl (fun v hv => ?_) k
  simp only [am_st, hc, and_self, ↓reduceIte, hv]
theorem ok_tl {idx i : Nat} {M' : am_M} {n' : Nat} {r : List Value} {g : Int32 → Option (am_W × τ)} (hd : decode M.2.1 pc = .ok (.invokevirtual idx, 3)) (hm : am_mt M.2.2.2.2.1 idx = some (6, M', n')) (hr : (r.map fun v => v.category).sum ≤ 8) (k : ∀ v, am_tl w i = some v → am_Ok inj d M (pc + 3) ls (.int v :: r) w (g v)) : am_Ok inj d M pc ls (.ref i :: r) w ((am_tl w i).bind g) := by
  have hi : am_inv M (.invokevirtual idx) 3 (.ref i :: r) w = none := by
    simp only [am_inv, ↓reduceIte, hm]
  refine ok_bind (F := fun v => (pc + 3, ls, .int v :: r, w)) hd rfl hi (fun v hv => ?_) k
  simp only [am_st, ↓reduceIte, hm, hr, hv]
theorem ok_tc {idx i : Nat} {j : Int32} {M' : am_M} {n' : Nat} {r : List Value} {g : Int32 → Option (am_W × τ)} (hd : decode M.2.1 pc = .ok (.invokevirtual idx, 3)) (hm : am_mt M.2.2.2.2.1 idx = some (7, M', n')) (hr : (r.map fun v => v.category).sum ≤ 8) (k : ∀ v, am_tc w i j = some v → am_Ok inj d M (pc + 3) ls (.int v :: r) w (g v)) : am_Ok inj d M pc ls (.int j :: .ref i :: r) w ((am_tc w i j).bind g) := by
  have hi : am_inv M (.invokevirtual idx) 3 (.int j :: .ref i :: r) w = none := by
    simp only [am_inv, ↓reduceIte, hm]
  refine ok_bind (F := fun v => (pc + 3, ls, .int v :: r, w)) hd rfl hi (fun v hv => ?_) k
  simp only [am_st, ↓reduceIte, hm, hr, hv]
/-- a call -/
theorem ok_call0 {σ : Type} {inj' : σ → Option Value} {i : Instr} {M' : am_M} {as rest : List Value} {a : Option (am_W × σ)} {g : am_W × σ → Option (am_W × τ)} (hd : decode M.2.1 pc = .ok (i, 3)) (hr : am_ret M i 3 st w = none) (hi : ∀ r, a = some r → am_inv M i 3 st w = some (0, M', as, rest)) (ha : am_Ok inj' d M' 0 (am_en M' as) [] w a) (hv : ∀ (v : σ) (w' : am_W), am_aft 0 (inj' v) w' = some (w', (inj' v).toList))
    (k : ∀ r, a = some r → am_Ok inj (d + 1) M (pc + 3) ls ((inj' r.2).toList ++ rest) r.1 (g r)) : am_Ok inj (d + 1) M pc ls st w (a.bind g) := by
  intro r h
  cases hx : a with
  | none => rw [hx] at h; cases h
  | some q =>
    rw [hx] at h
    obtain ⟨n1, h1⟩ := ha q hx
    obtain ⟨n2, h2⟩ := k q hx r h
    refine ⟨n1 + n2 + 1, ?_⟩
    unfold am
    rw [hd]
    dsimp only
    rw [hr]
    dsimp only
    rw [hi q hx]
    dsimp only
    rw [am_mono _ _ _ _ _ _ _ _ h1 n2]
    dsimp only
    rw [hv]
    dsimp only
    rw [Nat.add_comm n1 n2]
    exact am_mono _ _ _ _ _ _ _ _ h2 n1
theorem ok_callx {i : Instr} {o : Nat} {M' : am_M} {as rest : List Value} {a : Option (am_W × Option Int64)} {g : am_W × Int32 → Option (am_W × τ)} (hd : decode M.2.1 pc = .ok (i, 3)) (hr : am_ret M i 3 st w = none) (hi : ∀ r, a = some r → 8 ≤ o → am_inv M i 3 st w = some (o + 1, M', as, rest)) (ha : am_Ok am_jx d M' 0 (am_en M' as) [] w a)
    (k : ∀ r, a.bind (am_xo o) = some r → am_Ok inj (d + 1) M (pc + 3) ls (.int r.2 :: rest) r.1 (g r)) : am_Ok inj (d + 1) M pc ls st w ((a.bind (am_xo o)).bind g) := by
  intro r h
  cases hx : a with
  | none => rw [hx] at h; cases h
  | some q =>
    rw [hx] at h
    rw [hx] at k
    obtain ⟨n1, h1⟩ := ha q hx
    have h3 : (am_xo o q).bind g = some r := h
    cases hy : am_xo o q with
    | none => rw [hy] at h3; cases h3
    | some z =>
      rw [hy] at h3
      obtain ⟨n2, h2⟩ := k z hy r h3
      refine ⟨n1 + n2 + 1, ?_⟩
      unfold am
      rw [hd]
      dsimp only
      rw [hr]
      dsimp only
      have ho : 8 ≤ o := by
        unfold am_xo at hy
        split at hy
        · cases hy
        · omega
      rw [hi q hx ho]
      dsimp only
      rw [am_mono _ _ _ _ _ _ _ _ h1 n2]
      dsimp only
      have h4 : am_aft (o + 1) (am_jx q.2) q.1 = some (z.1, [.int z.2]) := by
        obtain ⟨qw, qv⟩ := q
        unfold am_xo at hy
        rw [if_neg (by omega)] at hy
        cases qv with
        | none =>
          cases hy
          rfl
        | some v =>
          dsimp only at hy
          cases hs : am_sj qw o 0 v with
          | none => rw [hs] at hy; cases hy
          | some w' =>
            rw [hs] at hy
            cases hy
            simp only [am_aft, am_jx, hs]
      rw [h4]
      dsimp only
      rw [Nat.add_comm n1 n2]
      exact am_mono _ _ _ _ _ _ _ _ h2 n1
theorem am_self_eq {α : Type} {w : am_W} {i ci : Nat} {o : Option α} {r : α} (h : am_self w i ci o = some r) : am_is w i ci = true ∧ o = some r := by
  unfold am_self at h
  split at h
  · next h1 => exact ⟨h1, h⟩
  · cases h
theorem ok_self {i ci : Nat} {o : Option (am_W × τ)} (k : am_Ok inj d M pc ls st w o) : am_Ok inj d M pc ls st w (am_self w i ci o) := fun r h => k r (am_self_eq h).2
theorem am_iv0 {M M' : am_M} {k n b : Nat} {st rest : List Value} {w : am_W} (his : am_is w b M'.2.2.2.2.1 = true) (hm : am_mt M.2.2.2.2.1 k = some (0, M', n)) (hd : st.drop n = .ref b :: rest) (hf : (am_fit M' (.ref b :: (st.take n).reverse) rest && decide (n ≤ st.length)) = true) : am_inv M (.invokevirtual k) 3 st w = some (0, M', .ref b :: (st.take n).reverse, rest) := by
  simp only [Bool.and_eq_true, decide_eq_true_eq] at hf
  simp only [am_inv, ↓reduceIte, hm, hd, his, hf.1, hf.2, and_self]
theorem am_iv8 {M M0 : am_M} {k n o b : Nat} {p : Int32} {rest : List Value} {w : am_W} (his : am_is w b 0 = true) (ho : 8 ≤ o) (hm : am_mt M.2.2.2.2.1 k = some (8, M0, n)) (hf : am_fit m_C_having [.ref b, .int p] rest = true) : am_inv M (.invokestatic k) 3 (.ref o :: .int p :: .ref b :: rest) w = some (o + 1, m_C_having, [.ref b, .int p], rest) := by
  simp only [am_inv, ↓reduceIte, hm, his, hf, ho, and_self]
theorem am_iv9 {M M0 : am_M} {k n o b : Nat} {rest : List Value} {w : am_W} (his : am_is w b 0 = true) (ho : 8 ≤ o) (hm : am_mt M.2.2.2.2.1 k = some (9, M0, n)) (hf : am_fit m_C_mend [.ref b] rest = true) : am_inv M (.invokestatic k) 3 (.ref o :: .ref b :: rest) w = some (o + 1, m_C_mend, [.ref b], rest) := by
  simp only [am_inv, ↓reduceIte, hm, his, hf, ho, and_self]
theorem am_sw_in {df hi : Int} {offs : Array Int} {len j p : Nat} {x : Int32} {r : List Value} (hx : x.toInt = (j : Int)) (hj : (j : Int) ≤ hi) (ho : (offs[j]?).bind (am_tg pc) = some p) : am_st M (.tableswitch df 0 hi offs) len pc ls (.int x :: r) w = some (p, ls, r, w) := by
  simp only [am_st]
  rw [if_neg (by rw [hx]; omega), hx, Int.sub_zero, Int.toNat_natCast]
  cases h : offs[j]? with
  | none => rw [h] at ho; cases ho
  | some o =>
    rw [h] at ho
    have ho : am_tg pc o = some p := ho
    dsimp only
    rw [ho]
theorem am_sw_out {df hi : Int} {offs : Array Int} {len p : Nat} {x : Int32} {r : List Value} (hx : x.toInt < 0 ∨ hi < x.toInt) (ho : am_tg pc df = some p) : am_st M (.tableswitch df 0 hi offs) len pc ls (.int x :: r) w = some (p, ls, r, w) := by
  simp only [am_st]
  rw [if_pos hx, ho]
theorem am_neI {x k : Int32} {a : Int} (h : ¬ x = k) (hk : k.toInt = a) : ¬ x.toInt = a := fun q => h (Int32.toInt_inj.mp (by rw [hk]; exact q))
theorem ok_sw7 {df : Int} {offs : Array Int} {len pd p0 p1 p2 p3 p4 p5 p6 : Nat} {x : Int32} {r : List Value} {t0 t1 t2 t3 t4 t5 t6 td : Option (am_W × τ)} (hd : decode M.2.1 pc = .ok (.tableswitch df 0 6 offs, len)) (h0 : (offs[0]?).bind (am_tg pc) = some p0) (h1 : (offs[1]?).bind (am_tg pc) = some p1) (h2 : (offs[2]?).bind (am_tg pc) = some p2) (h3 : (offs[3]?).bind (am_tg pc) = some p3) (h4 : (offs[4]?).bind (am_tg pc) = some p4) (h5 : (offs[5]?).bind (am_tg pc) = some p5) (h6 : (offs[6]?).bind (am_tg pc) = some p6) (hz : am_tg pc df = some pd) (k0 : am_Ok inj d M p0 ls r w t0) (k1 : am_Ok inj d M p1 ls r w t1) (k2 : am_Ok inj d M p2 ls r w t2) (k3 : am_Ok inj d M p3 ls r w t3) (k4 : am_Ok inj d M p4 ls r w t4) (k5 : am_Ok inj d M p5 ls r w t5) (k6 : am_Ok inj d M p6 ls r w t6) (kd : am_Ok inj d M pd ls r w td) (hr : am_ret M (.tableswitch df 0 6 offs) len (.int x :: r) w = none) (hi : am_inv M (.tableswitch df 0 6 offs) len (.int x :: r) w = none) : am_Ok inj d M pc ls (.int x :: r) w (am_sw7 x t0 t1 t2 t3 t4 t5 t6 td) := by
  unfold am_sw7
  by_cases c0 : x = 0
  · subst c0
    rw [if_pos rfl]
    exact ok_st hd hr hi (am_sw_in (j := 0) rfl (by decide) h0) k0
  rw [if_neg c0]
  by_cases c1 : x = 1
  · subst c1
    rw [if_pos rfl]
    exact ok_st hd hr hi (am_sw_in (j := 1) rfl (by decide) h1) k1
  rw [if_neg c1]
  by_cases c2 : x = 2
  · subst c2
    rw [if_pos rfl]
    exact ok_st hd hr hi (am_sw_in (j := 2) rfl (by decide) h2) k2
  rw [if_neg c2]
  by_cases c3 : x = 3
  · subst c3
    rw [if_pos rfl]
    exact ok_st hd hr hi (am_sw_in (j := 3) rfl (by decide) h3) k3
  rw [if_neg c3]
  by_cases c4 : x = 4
  · subst c4
    rw [if_pos rfl]
    exact ok_st hd hr hi (am_sw_in (j := 4) rfl (by decide) h4) k4
  rw [if_neg c4]
  by_cases c5 : x = 5
  · subst c5
    rw [if_pos rfl]
    exact ok_st hd hr hi (am_sw_in (j := 5) rfl (by decide) h5) k5
  rw [if_neg c5]
  by_cases c6 : x = 6
  · subst c6
    rw [if_pos rfl]
    exact ok_st hd hr hi (am_sw_in (j := 6) rfl (by decide) h6) k6
  rw [if_neg c6]
  refine ok_st hd hr hi (am_sw_out ?_ hz) kd
  have e0 := am_neI c0 (a := 0) rfl
  have e1 := am_neI c1 (a := 1) rfl
  have e2 := am_neI c2 (a := 2) rfl
  have e3 := am_neI c3 (a := 3) rfl
  have e4 := am_neI c4 (a := 4) rfl
  have e5 := am_neI c5 (a := 5) rfl
  have e6 := am_neI c6 (a := 6) rfl
  omega
theorem ok_sw31 {df : Int} {offs : Array Int} {len pd p0 p1 p2 p3 p4 p5 p6 p7 p8 p9 p10 p11 p12 p13 p14 p15 p16 p17 p18 p19 p20 p21 p22 p23 p24 p25 p26 p27 p28 p29 p30 : Nat} {x : Int32} {r : List Value} {t0 t1 t2 t3 t4 t5 t6 t7 t8 t9 t10 t11 t12 t13 t14 t15 t16 t17 t18 t19 t20 t21 t22 t23 t24 t25 t26 t27 t28 t29 t30 td : Option (am_W × τ)} (hd : decode M.2.1 pc = .ok (.tableswitch df 0 30 offs, len)) (h0 : (offs[0]?).bind (am_tg pc) = some p0) (h1 : (offs[1]?).bind (am_tg pc) = some p1) (h2 : (offs[2]?).bind (am_tg pc) = some p2) (h3 : (offs[3]?).bind (am_tg pc) = some p3) (h4 : (offs[4]?).bind (am_tg pc) = some p4) (h5 : (offs[5]?).bind (am_tg pc) = some p5) (h6 : (offs[6]?).bind (am_tg pc) = some p6) (h7 : (offs[7]?).bind (am_tg pc) = some p7) (h8 : (offs[8]?).bind (am_tg pc) = some p8) (h9 : (offs[9]?).bind (am_tg pc) = some p9) (h10 : (offs[10]?).bind (am_tg pc) = some p10) (h11 : (offs[11]?).bind (am_tg pc) = some p11) (h12 : (offs[12]?).bind (am_tg pc) = some p12) (h13 : (offs[13]?).bind (am_tg pc) = some p13) (h14 : (offs[14]?).bind (am_tg pc) = some p14) (h15 : (offs[15]?).bind (am_tg pc) = some p15) (h16 : (offs[16]?).bind (am_tg pc) = some p16) (h17 : (offs[17]?).bind (am_tg pc) = some p17) (h18 : (offs[18]?).bind (am_tg pc) = some p18) (h19 : (offs[19]?).bind (am_tg pc) = some p19) (h20 : (offs[20]?).bind (am_tg pc) = some p20) (h21 : (offs[21]?).bind (am_tg pc) = some p21) (h22 : (offs[22]?).bind (am_tg pc) = some p22) (h23 : (offs[23]?).bind (am_tg pc) = some p23) (h24 : (offs[24]?).bind (am_tg pc) = some p24) (h25 : (offs[25]?).bind (am_tg pc) = some p25) (h26 : (offs[26]?).bind (am_tg pc) = some p26) (h27 : (offs[27]?).bind (am_tg pc) = some p27) (h28 : (offs[28]?).bind (am_tg pc) = some p28) (h29 : (offs[29]?).bind (am_tg pc) = some p29) (h30 : (offs[30]?).bind (am_tg pc) = some p30) (hz : am_tg pc df = some pd) (k0 : am_Ok inj d M p0 ls r w t0) (k1 : am_Ok inj d M p1 ls r w t1) (k2 : am_Ok inj d M p2 ls r w t2) (k3 : am_Ok inj d M p3 ls r w t3) (k4 : am_Ok inj d M p4 ls r w t4) (k5 : am_Ok inj d M p5 ls r w t5) (k6 : am_Ok inj d M p6 ls r w t6) (k7 : am_Ok inj d M p7 ls r w t7) (k8 : am_Ok inj d M p8 ls r w t8) (k9 : am_Ok inj d M p9 ls r w t9) (k10 : am_Ok inj d M p10 ls r w t10) (k11 : am_Ok inj d M p11 ls r w t11) (k12 : am_Ok inj d M p12 ls r w t12) (k13 : am_Ok inj d M p13 ls r w t13) (k14 : am_Ok inj d M p14 ls r w t14) (k15 : am_Ok inj d M p15 ls r w t15) (k16 : am_Ok inj d M p16 ls r w t16) (k17 : am_Ok inj d M p17 ls r w t17) (k18 : am_Ok inj d M p18 ls r w t18) (k19 : am_Ok inj d M p19 ls r w t19) (k20 : am_Ok inj d M p20 ls r w t20) (k21 : am_Ok inj d M p21 ls r w t21) (k22 : am_Ok inj d M p22 ls r w t22) (k23 : am_Ok inj d M p23 ls r w t23) (k24 : am_Ok inj d M p24 ls r w t24) (k25 : am_Ok inj d M p25 ls r w t25) (k26 : am_Ok inj d M p26 ls r w t26) (k27 : am_Ok inj d M p27 ls r w t27) (k28 : am_Ok inj d M p28 ls r w t28) (k29 : am_Ok inj d M p29 ls r w t29) (k30 : am_Ok inj d M p30 ls r w t30) (kd : am_Ok inj d M pd ls r w td) (hr : am_ret M (.tableswitch df 0 30 offs) len (.int x :: r) w = none) (hi : am_inv M (.tableswitch df 0 30 offs) len (.int x :: r) w = none) : am_Ok inj d M pc ls (.int x :: r) w (am_sw31 x t0 t1 t2 t3 t4 t5 t6 t7 t8 t9 t10 t11 t12 t13 t14 t15 t16 t17 t18 t19 t20 t21 t22 t23 t24 t25 t26 t27 t28 t29 t30 td) := by
  unfold am_sw31
  by_cases c0 : x = 0
  · subst c0
    rw [if_pos rfl]
    exact ok_st hd hr hi (am_sw_in (j := 0) rfl (by decide) h0) k0
  rw [if_neg c0]
  by_cases c1 : x = 1
  · subst c1
    rw [if_pos rfl]
    exact ok_st hd hr hi (am_sw_in (j := 1) rfl (by decide) h1) k1
  rw [if_neg c1]
  by_cases c2 : x = 2
  · subst c2
    rw [if_pos rfl]
    exact ok_st hd hr hi (am_sw_in (j := 2) rfl (by decide) h2) k2
  rw [if_neg c2]
  by_cases c3 : x = 3
  · subst c3
    rw [if_pos rfl]
    exact ok_st hd hr hi (am_sw_in (j := 3) rfl (by decide) h3) k3
  rw [if_neg c3]
  by_cases c4 : x = 4
  · subst c4
    rw [if_pos rfl]
    exact ok_st hd hr hi (am_sw_in (j := 4) rfl (by decide) h4) k4
  rw [if_neg c4]
  by_cases c5 : x = 5
  · subst c5
    rw [if_pos rfl]
    exact ok_st hd hr hi (am_sw_in (j := 5) rfl (by decide) h5) k5
  rw [if_neg c5]
  by_cases c6 : x = 6
  · subst c6
    rw [if_pos rfl]
    exact ok_st hd hr hi (am_sw_in (j := 6) rfl (by decide) h6) k6
  rw [if_neg c6]
  by_cases c7 : x = 7
  · subst c7
    rw [if_pos rfl]
    exact ok_st hd hr hi (am_sw_in (j := 7) rfl (by decide) h7) k7
  rw [if_neg c7]
  by_cases c8 : x = 8
  · subst c8
    rw [if_pos rfl]
    exact ok_st hd hr hi (am_sw_in (j := 8) rfl (by decide) h8) k8
  rw [if_neg c8]
  by_cases c9 : x = 9
  · subst c9
    rw [if_pos rfl]
    exact ok_st hd hr hi (am_sw_in (j := 9) rfl (by decide) h9) k9
  rw [if_neg c9]
  by_cases c10 : x = 10
  · subst c10
    rw [if_pos rfl]
    exact ok_st hd hr hi (am_sw_in (j := 10) rfl (by decide) h10) k10
  rw [if_neg c10]
  by_cases c11 : x = 11
  · subst c11
    rw [if_pos rfl]
    exact ok_st hd hr hi (am_sw_in (j := 11) rfl (by decide) h11) k11
  rw [if_neg c11]
  by_cases c12 : x = 12
  · subst c12
    rw [if_pos rfl]
    exact ok_st hd hr hi (am_sw_in (j := 12) rfl (by decide) h12) k12
  rw [if_neg c12]
  by_cases c13 : x = 13
  · subst c13
    rw [if_pos rfl]
    exact ok_st hd hr hi (am_sw_in (j := 13) rfl (by decide) h13) k13
  rw [if_neg c13]
  by_cases c14 : x = 14
  · subst c14
    rw [if_pos rfl]
    exact ok_st hd hr hi (am_sw_in (j := 14) rfl (by decide) h14) k14
  rw [if_neg c14]
  by_cases c15 : x = 15
  · subst c15
    rw [if_pos rfl]
    exact ok_st hd hr hi (am_sw_in (j := 15) rfl (by decide) h15) k15
  rw [if_neg c15]
  by_cases c16 : x = 16
  · subst c16
    rw [if_pos rfl]
    exact ok_st hd hr hi (am_sw_in (j := 16) rfl (by decide) h16) k16
  rw [if_neg c16]
  by_cases c17 : x = 17
  · subst c17
    rw [if_pos rfl]
    exact ok_st hd hr hi (am_sw_in (j := 17) rfl (by decide) h17) k17
  rw [if_neg c17]
  by_cases c18 : x = 18
  · subst c18
    rw [if_pos rfl]
    exact ok_st hd hr hi (am_sw_in (j := 18) rfl (by decide) h18) k18
  rw [if_neg c18]
  by_cases c19 : x = 19
  · subst c19
    rw [if_pos rfl]
    exact ok_st hd hr hi (am_sw_in (j := 19) rfl (by decide) h19) k19
  rw [if_neg c19]
  by_cases c20 : x = 20
  · subst c20
    rw [if_pos rfl]
    exact ok_st hd hr hi (am_sw_in (j := 20) rfl (by decide) h20) k20
  rw [if_neg c20]
  by_cases c21 : x = 21
  · subst c21
    rw [if_pos rfl]
    exact ok_st hd hr hi (am_sw_in (j := 21) rfl (by decide) h21) k21
  rw [if_neg c21]
  by_cases c22 : x = 22
  · subst c22
    rw [if_pos rfl]
    exact ok_st hd hr hi (am_sw_in (j := 22) rfl (by decide) h22) k22
  rw [if_neg c22]
  by_cases c23 : x = 23
  · subst c23
    rw [if_pos rfl]
    exact ok_st hd hr hi (am_sw_in (j := 23) rfl (by decide) h23) k23
  rw [if_neg c23]
  by_cases c24 : x = 24
  · subst c24
    rw [if_pos rfl]
    exact ok_st hd hr hi (am_sw_in (j := 24) rfl (by decide) h24) k24
  rw [if_neg c24]
  by_cases c25 : x = 25
  · subst c25
    rw [if_pos rfl]
    exact ok_st hd hr hi (am_sw_in (j := 25) rfl (by decide) h25) k25
  rw [if_neg c25]
  by_cases c26 : x = 26
  · subst c26
    rw [if_pos rfl]
    exact ok_st hd hr hi (am_sw_in (j := 26) rfl (by decide) h26) k26
  rw [if_neg c26]
  by_cases c27 : x = 27
  · subst c27
    rw [if_pos rfl]
    exact ok_st hd hr hi (am_sw_in (j := 27) rfl (by decide) h27) k27
  rw [if_neg c27]
  by_cases c28 : x = 28
  · subst c28
    rw [if_pos rfl]
    exact ok_st hd hr hi (am_sw_in (j := 28) rfl (by decide) h28) k28
  rw [if_neg c28]
  by_cases c29 : x = 29
  · subst c29
    rw [if_pos rfl]
    exact ok_st hd hr hi (am_sw_in (j := 29) rfl (by decide) h29) k29
  rw [if_neg c29]
  by_cases c30 : x = 30
  · subst c30
    rw [if_pos rfl]
    exact ok_st hd hr hi (am_sw_in (j := 30) rfl (by decide) h30) k30
  rw [if_neg c30]
  refine ok_st hd hr hi (am_sw_out ?_ hz) kd
  have e0 := am_neI c0 (a := 0) rfl
  have e1 := am_neI c1 (a := 1) rfl
  have e2 := am_neI c2 (a := 2) rfl
  have e3 := am_neI c3 (a := 3) rfl
  have e4 := am_neI c4 (a := 4) rfl
  have e5 := am_neI c5 (a := 5) rfl
  have e6 := am_neI c6 (a := 6) rfl
  have e7 := am_neI c7 (a := 7) rfl
  have e8 := am_neI c8 (a := 8) rfl
  have e9 := am_neI c9 (a := 9) rfl
  have e10 := am_neI c10 (a := 10) rfl
  have e11 := am_neI c11 (a := 11) rfl
  have e12 := am_neI c12 (a := 12) rfl
  have e13 := am_neI c13 (a := 13) rfl
  have e14 := am_neI c14 (a := 14) rfl
  have e15 := am_neI c15 (a := 15) rfl
  have e16 := am_neI c16 (a := 16) rfl
  have e17 := am_neI c17 (a := 17) rfl
  have e18 := am_neI c18 (a := 18) rfl
  have e19 := am_neI c19 (a := 19) rfl
  have e20 := am_neI c20 (a := 20) rfl
  have e21 := am_neI c21 (a := 21) rfl
  have e22 := am_neI c22 (a := 22) rfl
  have e23 := am_neI c23 (a := 23) rfl
  have e24 := am_neI c24 (a := 24) rfl
  have e25 := am_neI c25 (a := 25) rfl
  have e26 := am_neI c26 (a := 26) rfl
  have e27 := am_neI c27 (a := 27) rfl
  have e28 := am_neI c28 (a := 28) rfl
  have e29 := am_neI c29 (a := 29) rfl
  have e30 := am_neI c30 (a := 30) rfl
  omega
end OKS
