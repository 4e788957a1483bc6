/-! THE LAW'S OWN having AND mend -/
def am_hh1 : List (Nat × Nat × Nat × Nat) := [(0, 8, 11, 13)]
def am_hh2 : List (Nat × Nat × Nat × Nat) := [(0, 7, 10, 13)]
def y_Lh : MethodName := ⟨"GridColoursLaw", "having", "(LGridColours;I[J)I"⟩
def y_Lm : MethodName := ⟨"GridColoursLaw", "mend", "(LGridColours;[J)I"⟩
def am_lw1 : List Cond := .codeWith y_Lh method_3_code 4 (some .int) am_hh1 :: am_tbl
def am_lw2 : List Cond := .codeWith y_Lm method_4_code 3 (some .int) am_hh2 :: am_tbl
theorem am_lw1_eq : am_lw1 = .codeWith y_Lh method_3_code 4 (some .int) am_hh1 :: am_tbl := rfl
theorem am_lw2_eq : am_lw2 = .codeWith y_Lm method_4_code 3 (some .int) am_hh2 :: am_tbl := rfl
def am_rmL (d : Nat) (w wf : am_W) : Room := { frames := 2 * d + 17, cells := wf.1 - w.1, slots := wf.2.1 - w.2.1, locals := 64 * (d + 16) + 32 }
theorem am_lz1 : (Cond.codeWith y_Lh method_3_code 4 (some .int) am_hh1) ∈ am_tbl := by decide +kernel
theorem am_lz2 : (Cond.codeWith y_Lm method_4_code 3 (some .int) am_hh2) ∈ am_tbl := by decide +kernel
theorem am_lz3 : (Cond.classLink "GridColoursLaw" 13 am_NSE) ∈ am_tbl := by decide +kernel
theorem am_lz4 : (Cond.methodLink "GridColoursLaw" 51 y_Lh) ∈ am_tbl ∧ (Cond.static y_Lh) ∈ am_tbl ∧ (Cond.initialized "GridColoursLaw") ∈ am_tbl := by decide +kernel
theorem am_lz5 : (Cond.methodLink "GridColoursLaw" 81 y_Lm) ∈ am_tbl ∧ (Cond.static y_Lm) ∈ am_tbl := by decide +kernel
theorem am_lz6 : (Cond.methodLink "GridColoursLaw" 7 m_C_having.1) ∈ am_tbl ∧ (Cond.instanceMethod m_C_having.1) ∈ am_tbl ∧ (Cond.selects "GridColours" m_C_having.1 m_C_having.1) ∈ am_tbl ∧ (Cond.initialized "GridColours") ∈ am_tbl ∧ (Cond.code m_C_having.1 m_C_having.2.1 m_C_having.2.2.1 m_C_having.2.2.2.1) ∈ am_tbl := by decide +kernel
theorem am_lz7 : (Cond.methodLink "GridColoursLaw" 15 m_C_mend.1) ∈ am_tbl ∧ (Cond.instanceMethod m_C_mend.1) ∈ am_tbl ∧ (Cond.selects "GridColours" m_C_mend.1 m_C_mend.1) ∈ am_tbl ∧ (Cond.code m_C_mend.1 m_C_mend.2.1 m_C_mend.2.2.1 m_C_mend.2.2.2.1) ∈ am_tbl := by decide +kernel
section AMV
variable {l : Launch} {D : va_G} {dA : Nat → ClassId} {sp : Nat → Nat} {base L : Nat} {xs : Nat → Int32}
/-- behind a call that may throw -/
theorem am_afterX {p : Program} {e : Env} {R : Room} {s : State} {m : MethodId} {args a : Array Value} {below : List Frame} {meth : Method} {c : Code} {H : Heap} {locs : List Loc} {cells slots mc ms pc : Nat} {Q : State → Prop} {ls : Array Slot} {st0 rest : List Value} {wf : am_W} {v : Option Value}
    (hr : vx_Run p l e R s m args below meth c H locs cells slots mc ms (F0 m pc ls st0) rest (am_QX D dA sp base L xs wf v a) (am_XC D dA sp base L xs wf v) (fun q => base ≤ q)) (hS : va_S (fun q => base ≤ q) s.heap H locs)
    (kk : v ≠ some (.retAddr 0) → ∀ (H1 : Heap) (locs1 : List Loc), am_R D dA sp base L xs wf H1 → va_S (fun q => base ≤ q) s.heap H1 locs1 → W p l e R s m args below meth c H1 locs1 (cells + mc) (slots + ms) Q (F0 m (pc + 3) ls ((v.map (am_rv sp base)).toList ++ rest)))
    (kx : v = some (.retAddr 0) → ∀ (H1 : Heap) (locs1 : List Loc) (q : Addr) (ce : Cell), am_R D dA sp base L xs wf H1 → va_S (fun q => base ≤ q) s.heap H1 locs1 → H1[q]? = some ce → ce.vm = .none → s.vm.findClass am_NSE = some ce.cls → vx_W p l e R s m args below meth c H1 locs1 (cells + mc) (slots + ms) Q (F0 m pc ls rest) q) : W p l e R s m args below meth c H locs cells slots Q (F0 m pc ls st0) := by
  intro T hT X
  have key : ∀ (st₀ t T' : State) (L' : List Loc), st₀.heap = H → T'.heap = t.heap → (∀ z ∈ L', base ≤ z.base) → va_F (fun q => base ≤ q) st₀ t → va_S (fun q => base ≤ q) s.heap T'.heap (locs ++ L') := by
    intro st₀ t T' L' h0 e1 hL hF
    obtain ⟨hz, hk⟩ := hF
    rw [h0] at hz hk
    refine ⟨Nat.le_trans hS.1 (by rw [e1]; exact hz), fun q h1 h2 => by rw [e1, hk q (Nat.lt_of_lt_of_le h1 hS.1) h2]; exact hS.2.1 q h1 h2, fun q hq => ?_⟩
    rcases List.mem_append.mp hq with h | h
    · exact hS.2.2 q h
    · exact hL q h
  rcases hr T hT X with ⟨v', st₀, t, T', L', h0, X', hL, e1, e2, ⟨hv0, hv, hRt, hF⟩, st⟩ | ⟨q, st₀, t, T', L', E, ce, h0, X', hL, e1, e2, ⟨rfl, hv0, hRt, hF⟩, hce, hcv, hcl, st⟩
  · cases hv
    obtain ⟨t2, a1, b1⟩ := kk hv0 T'.heap (locs ++ L') (by rw [e1]; exact hRt) (key st₀ t T' L' h0 e1 hL hF) T' rfl X'
    exact ⟨t2, st t2 a1, b1⟩
  · obtain ⟨t2, a1, b1⟩ := kx hv0 T'.heap (locs ++ L') q ce (by rw [e1]; exact hRt) (key st₀ t T' L' h0 e1 hL hF) (by rw [e1]; exact hce) hcv hcl T' rfl X'
    exact ⟨t2, st.trans a1, b1⟩
theorem am_addr0 {n d : Nat} {M : am_M} {pc : Nat} {ls : List (Option Value)} {st : List Value} {w wf : am_W} {z : Nat} (h : am n d M pc ls st w = some (wf, some (.retAddr z))) : z = 0 := by
  induction n generalizing d M pc ls st w with
  | zero => cases h
  | succ n ih =>
    unfold am at h
    split at h
    · cases h
    · split at h
      · next r hr =>
        cases h
        rcases am_ret_eq hr with ⟨-, -, hcase⟩ | ⟨-, -, -, -, hv⟩
        · rcases hcase with ⟨-, -, x, -, hv⟩ | ⟨-, -, x, -, hv, -⟩ | ⟨-, -, x, -, hv⟩ | ⟨-, -, x, -, hv⟩ | ⟨-, -, -, hv⟩ <;> cases hv
        · cases hv; rfl
      · split at h
        · split at h
          · cases h
          · split at h
            · cases h
            · split at h
              · cases h
              · exact ih h
        · split at h
          · cases h
          · exact ih h
theorem am_Lh {n : Nat} (ih : am_WK l D dA sp base L xs n) (hst : l.stackTraces = false) {d b o : Nat} {p0 : Int32} {w w' w'' : am_W} {v : Option Value} {vs : List Value} (h : am n d m_C_having 0 (am_en m_C_having [.ref b, .int p0]) [] w = some (w', v)) (haft : am_aft (o + 1) v w' = some (w'', vs)) (his : am_is w b 0 = true) :
    ∃ k : Int32, vs = [.int k] ∧ Met l y_Lh am_lw1 (am_rmL d w w') (am_Pc D dA sp base L xs w [.ref b, .int p0, .ref o]) (am_Qc D dA sp base L xs w'' (some (.int k))) (w'.1 - w.1) (w'.2.1 - w.2.1) (fun q => base ≤ q) := by
  have hM := am_metX ih hst h (by first | exact Or.inl rfl | exact Or.inr rfl) (Nat.le_of_ble_eq_true rfl)
  have hg := am_grow _ _ _ _ _ _ _ _ _ h
  have hcase : (v = some (.retAddr 0) ∧ w'' = w' ∧ vs = [.int 1]) ∨ (v ≠ some (.retAddr 0) ∧ ∃ x, v = some (.long x) ∧ am_sj w' o 0 x = some w'' ∧ vs = [.int 0]) := by
    have hv0 : ∀ z, v = some (.retAddr z) → z = 0 := by
      intro z hz
      subst hz
      exact am_addr0 h
    rcases v with _ | y
    · cases haft
    · cases y with
      | retAddr z => cases haft; rw [hv0 z rfl]; exact Or.inl ⟨rfl, rfl, rfl⟩
      | long x =>
        have haft : (match am_sj w' o 0 x with | some w9 => some (w9, [Value.int 0]) | none => none) = some (w'', vs) := haft
        rcases hs : am_sj w' o 0 x with _ | w9
        · rw [hs] at haft; cases haft
        · rw [hs] at haft; cases haft; exact Or.inr ⟨(fun z => nomatch z), x, rfl, hs, rfl⟩
      | _ => cases haft
  refine ⟨if v = some (.retAddr 0) then 1 else 0, ?_, ?_⟩
  · rcases hcase with ⟨h1, -, h2⟩ | ⟨h1, x, -, -, h2⟩
    · rw [if_pos h1]; exact h2
    · rw [if_neg h1]; exact h2
  refine va_MetW (cc := method_3_code) (maxL := 4) (ret := some .int) (hh := am_hh1) (by decide) am_lw1_eq ?_
  intro p e s m args below meth c s₁ B hml hpre
  have htb := vx_table (x := y_Lh) B (atoms_spec (ws := am_lw1) B.pre _ List.mem_cons_self)
  obtain ⟨rfl, hE, hR, hb0, hcz⟩ := hpre
  have hx := B.exec
  have hb := B.bytes
  have hr := B.returns
  have hlocks := B.notSynchronized
  have hts : ∀ w ∈ am_tbl, w.before ([.ref b, .int p0, .ref o].map (am_rv sp base)).toArray s = true := fun w hw => atoms_spec (ws := am_lw1) B.pre w (List.mem_cons_of_mem _ hw)
  have hown : s.vm.findClass "GridColoursLaw" = some m.cls := findClass_of_methodNamed B.named
  have hS : va_S (fun q => base ≤ q) s.heap s.heap [] := va_S.rf
  have hl := lv_entry ([.ref b, .int p0, .ref o].map (am_rv sp base)) (n := 4) (Nat.le_of_ble_eq_true rfl)
  rw [lg_entry_eq]
  generalize (lg_sl ([.ref b, .int p0, .ref o].map (am_rv sp base)) ++ List.replicate (4 - (lg_sl ([.ref b, .int p0, .ref o].map (am_rv sp base))).length) Slot.unset).toArray = ls at hl ⊢
  have hl : lv_has ls 4 [(0, .ref (am_ad sp base b)), (1, .int p0), (2, .ref (am_ad sp base o))] := hl
  obtain ⟨fs, hob, h8⟩ := am_is_eq his
  obtain ⟨q, hq⟩ := am_place (dA := dA) (sp := sp) (base := base) h8 (am_ob_eq hob)
  refine lv_aload_n hx hb (by decide +kernel : decode method_3_code 0 = .ok (.aload_n 2, 1)) rfl (lv_at hl 2 rfl) ?_
  refine lv_iconst (v := 0) hx hb (by decide +kernel : decode method_3_code 1 = .ok (.iconst 0, 1)) (by decide) ?_
  refine lv_aload_n hx hb (by decide +kernel : decode method_3_code 2 = .ok (.aload_n 0, 1)) rfl (lv_at hl 0 rfl) ?_
  refine lv_iload_n hx hb (by decide +kernel : decode method_3_code 3 = .ok (.iload_n 1, 1)) rfl (lv_at hl 1 rfl) ?_
  refine am_afterX (rest := [.int 0, .ref (am_ad sp base o)]) (vx_runV (C := "GridColours") (As := [.int p0]) (b := am_ad sp base b) ⟨hx, hb, hml, hown, hts⟩ hM ⟨callB_of (own := "GridColoursLaw") (index := 7) 1 hts (am_goodIn am_lz6.2.2.2.2) (am_mw_eq m_C_having) rfl rfl (hts _ am_lz6.2.2.2.1) (hts _ am_lz6.1) (by decide +kernel) ⟨?_, ?_⟩, hts _ am_lz6.2.1, hts _ am_lz6.2.2.1⟩ ⟨am_blind, va_recv hE.1 hR.1.ws (am_ci (ci := 0) (by decide)) hq, fun U hU hW => ⟨rfl, hE.warm hW (fun _ _ _ => by rw [hU]), by rw [hU]; exact hR, by rw [hU]; exact hb0, by rw [hU]; exact hcz⟩⟩ rfl rfl hl.1 rfl (lv_room (Nat.le_of_ble_eq_true rfl)) (by decide +kernel : decode method_3_code 4 = .ok (.invokevirtual 7, 3)) ⟨?_, ?_⟩) hS (fun hv H1 locs1 hR1 hS1 => ?_) (fun hv H1 locs1 qe ce hR1 hS1 hce hcv hcl => ?_)
  · show 2 * d + 16 + 1 ≤ 2 * d + 17
    omega
  · show 8 + (m_C_having.2.2.1 + 11) + 64 * (d + 16) ≤ 64 * (d + 16) + 32
    have e9 : m_C_having.2.2.1 = 2 := rfl
    rw [e9]
    omega
  · show 0 + (w'.1 - w.1) ≤ w'.1 - w.1
    omega
  · show 0 + (w'.2.1 - w.2.1) ≤ w'.2.1 - w.2.1
    omega
  · rcases hcase with ⟨h1, -, -⟩ | ⟨-, x, rfl, hs, -⟩
    · exact absurd h1 hv
    · rw [if_neg hv]
      refine am_rsj hx hb hE.1 hR1 hS1 hs (by decide +kernel : decode method_3_code 7 = .ok (.lastore, 1)) (fun H2 locs2 hR2 hS2 => ?_)
      refine lv_goto (tgt := 14) hx hb (by decide +kernel : decode method_3_code 8 = .ok (.goto 6, 3)) (by decide) ?_
      refine lv_iconst (v := 0) hx hb (by decide +kernel : decode method_3_code 14 = .ok (.iconst 0, 1)) (by decide) ?_
      rw [Nat.zero_add, Nat.zero_add]
      exact W.iret hx hb hr (fun t ht hW => ⟨rfl, by rw [ht]; exact hR2, hS2.F ht⟩) hS2.2.2 (by decide +kernel : decode method_3_code 15 = .ok (.ireturn, 1)) hlocks
  · rcases hcase with ⟨-, rfl, -⟩ | ⟨h1, -⟩
    · rw [if_pos hv]
      refine vx_catch (own := "GridColoursLaw") (name := am_NSE) (E := am_NSE) hown [] (tableOf am_hh1).head! [] (by rw [htb]; rfl) (fun z hz => by cases hz) (by decide) (by decide) (hts _ am_lz3) (va_Nw.use (w := .castable am_NSE am_NSE) (by decide +kernel) (hE.2.2.2.2.2.2.2.2.2.2.2.2 _ (by decide +kernel))) hce hcv hcl ?_
      refine lv_astore_n (lv' := (3, .ref qe) :: [(0, .ref (am_ad sp base b)), (1, .int p0), (2, .ref (am_ad sp base o))]) hx hb (by decide +kernel : decode method_3_code 11 = .ok (.astore_n 3, 1)) rfl hl (by decide) rfl (fun ls2 hl2 => ?_)
      refine lv_iconst (v := 1) hx hb (by decide +kernel : decode method_3_code 12 = .ok (.iconst 1, 1)) (by decide) ?_
      rw [Nat.zero_add, Nat.zero_add]
      exact W.iret hx hb hr (fun t ht hW => ⟨rfl, by rw [ht]; exact hR1, hS1.F ht⟩) hS1.2.2 (by decide +kernel : decode method_3_code 13 = .ok (.ireturn, 1)) hlocks
    · exact absurd hv h1
theorem am_Lm {n : Nat} (ih : am_WK l D dA sp base L xs n) (hst : l.stackTraces = false) {d b o : Nat} {w w' w'' : am_W} {v : Option Value} {vs : List Value} (h : am n d m_C_mend 0 (am_en m_C_mend [.ref b]) [] w = some (w', v)) (haft : am_aft (o + 1) v w' = some (w'', vs)) (his : am_is w b 0 = true) :
    ∃ k : Int32, vs = [.int k] ∧ Met l y_Lm am_lw2 (am_rmL d w w') (am_Pc D dA sp base L xs w [.ref b, .ref o]) (am_Qc D dA sp base L xs w'' (some (.int k))) (w'.1 - w.1) (w'.2.1 - w.2.1) (fun q => base ≤ q) := by
  have hM := am_metX ih hst h (by first | exact Or.inl rfl | exact Or.inr rfl) (Nat.le_of_ble_eq_true rfl)
  have hg := am_grow _ _ _ _ _ _ _ _ _ h
  have hcase : (v = some (.retAddr 0) ∧ w'' = w' ∧ vs = [.int 1]) ∨ (v ≠ some (.retAddr 0) ∧ ∃ x, v = some (.long x) ∧ am_sj w' o 0 x = some w'' ∧ vs = [.int 0]) := by
    have hv0 : ∀ z, v = some (.retAddr z) → z = 0 := by
      intro z hz
      subst hz
      exact am_addr0 h
    rcases v with _ | y
    · cases haft
    · cases y with
      | retAddr z => cases haft; rw [hv0 z rfl]; exact Or.inl ⟨rfl, rfl, rfl⟩
      | long x =>
        have haft : (match am_sj w' o 0 x with | some w9 => some (w9, [Value.int 0]) | none => none) = some (w'', vs) := haft
        rcases hs : am_sj w' o 0 x with _ | w9
        · rw [hs] at haft; cases haft
        · rw [hs] at haft; cases haft; exact Or.inr ⟨(fun z => nomatch z), x, rfl, hs, rfl⟩
      | _ => cases haft
  refine ⟨if v = some (.retAddr 0) then 1 else 0, ?_, ?_⟩
  · rcases hcase with ⟨h1, -, h2⟩ | ⟨h1, x, -, -, h2⟩
    · rw [if_pos h1]; exact h2
    · rw [if_neg h1]; exact h2
  refine va_MetW (cc := method_4_code) (maxL := 3) (ret := some .int) (hh := am_hh2) (by decide) am_lw2_eq ?_
  intro p e s m args below meth c s₁ B hml hpre
  have htb := vx_table (x := y_Lm) B (atoms_spec (ws := am_lw2) B.pre _ List.mem_cons_self)
  obtain ⟨rfl, hE, hR, hb0, hcz⟩ := hpre
  have hx := B.exec
  have hb := B.bytes
  have hr := B.returns
  have hlocks := B.notSynchronized
  have hts : ∀ w ∈ am_tbl, w.before ([.ref b, .ref o].map (am_rv sp base)).toArray s = true := fun w hw => atoms_spec (ws := am_lw2) B.pre w (List.mem_cons_of_mem _ hw)
  have hown : s.vm.findClass "GridColoursLaw" = some m.cls := findClass_of_methodNamed B.named
  have hS : va_S (fun q => base ≤ q) s.heap s.heap [] := va_S.rf
  have hl := lv_entry ([.ref b, .ref o].map (am_rv sp base)) (n := 3) (Nat.le_of_ble_eq_true rfl)
  rw [lg_entry_eq]
  generalize (lg_sl ([.ref b, .ref o].map (am_rv sp base)) ++ List.replicate (3 - (lg_sl ([.ref b, .ref o].map (am_rv sp base))).length) Slot.unset).toArray = ls at hl ⊢
  have hl : lv_has ls 3 [(0, .ref (am_ad sp base b)), (1, .ref (am_ad sp base o))] := hl
  obtain ⟨fs, hob, h8⟩ := am_is_eq his
  obtain ⟨q, hq⟩ := am_place (dA := dA) (sp := sp) (base := base) h8 (am_ob_eq hob)
  refine lv_aload_n hx hb (by decide +kernel : decode method_4_code 0 = .ok (.aload_n 1, 1)) rfl (lv_at hl 1 rfl) ?_
  refine lv_iconst (v := 0) hx hb (by decide +kernel : decode method_4_code 1 = .ok (.iconst 0, 1)) (by decide) ?_
  refine lv_aload_n hx hb (by decide +kernel : decode method_4_code 2 = .ok (.aload_n 0, 1)) rfl (lv_at hl 0 rfl) ?_
  refine am_afterX (rest := [.int 0, .ref (am_ad sp base o)]) (vx_runV (C := "GridColours") (As := []) (b := am_ad sp base b) ⟨hx, hb, hml, hown, hts⟩ hM ⟨callB_of (own := "GridColoursLaw") (index := 15) 0 hts (am_goodIn am_lz7.2.2.2) (am_mw_eq m_C_mend) rfl rfl (hts _ am_lz6.2.2.2.1) (hts _ am_lz7.1) (by decide +kernel) ⟨?_, ?_⟩, hts _ am_lz7.2.1, hts _ am_lz7.2.2.1⟩ ⟨am_blind, va_recv hE.1 hR.1.ws (am_ci (ci := 0) (by decide)) hq, fun U hU hW => ⟨rfl, hE.warm hW (fun _ _ _ => by rw [hU]), by rw [hU]; exact hR, by rw [hU]; exact hb0, by rw [hU]; exact hcz⟩⟩ rfl rfl hl.1 rfl (lv_room (Nat.le_of_ble_eq_true rfl)) (by decide +kernel : decode method_4_code 3 = .ok (.invokevirtual 15, 3)) ⟨?_, ?_⟩) hS (fun hv H1 locs1 hR1 hS1 => ?_) (fun hv H1 locs1 qe ce hR1 hS1 hce hcv hcl => ?_)
  · show 2 * d + 16 + 1 ≤ 2 * d + 17
    omega
  · show 8 + (m_C_mend.2.2.1 + 11) + 64 * (d + 16) ≤ 64 * (d + 16) + 32
    have e9 : m_C_mend.2.2.1 = 4 := rfl
    rw [e9]
    omega
  · show 0 + (w'.1 - w.1) ≤ w'.1 - w.1
    omega
  · show 0 + (w'.2.1 - w.2.1) ≤ w'.2.1 - w.2.1
    omega
  · rcases hcase with ⟨h1, -, -⟩ | ⟨-, x, rfl, hs, -⟩
    · exact absurd h1 hv
    · rw [if_neg hv]
      refine am_rsj hx hb hE.1 hR1 hS1 hs (by decide +kernel : decode method_4_code 6 = .ok (.lastore, 1)) (fun H2 locs2 hR2 hS2 => ?_)
      refine lv_goto (tgt := 13) hx hb (by decide +kernel : decode method_4_code 7 = .ok (.goto 6, 3)) (by decide) ?_
      refine lv_iconst (v := 0) hx hb (by decide +kernel : decode method_4_code 13 = .ok (.iconst 0, 1)) (by decide) ?_
      rw [Nat.zero_add, Nat.zero_add]
      exact W.iret hx hb hr (fun t ht hW => ⟨rfl, by rw [ht]; exact hR2, hS2.F ht⟩) hS2.2.2 (by decide +kernel : decode method_4_code 14 = .ok (.ireturn, 1)) hlocks
  · rcases hcase with ⟨-, rfl, -⟩ | ⟨h1, -⟩
    · rw [if_pos hv]
      refine vx_catch (own := "GridColoursLaw") (name := am_NSE) (E := am_NSE) hown [] (tableOf am_hh2).head! [] (by rw [htb]; rfl) (fun z hz => by cases hz) (by decide) (by decide) (hts _ am_lz3) (va_Nw.use (w := .castable am_NSE am_NSE) (by decide +kernel) (hE.2.2.2.2.2.2.2.2.2.2.2.2 _ (by decide +kernel))) hce hcv hcl ?_
      refine lv_astore_n (lv' := (2, .ref qe) :: [(0, .ref (am_ad sp base b)), (1, .ref (am_ad sp base o))]) hx hb (by decide +kernel : decode method_4_code 10 = .ok (.astore_n 2, 1)) rfl hl (by decide) rfl (fun ls2 hl2 => ?_)
      refine lv_iconst (v := 1) hx hb (by decide +kernel : decode method_4_code 11 = .ok (.iconst 1, 1)) (by decide) ?_
      rw [Nat.zero_add, Nat.zero_add]
      exact W.iret hx hb hr (fun t ht hW => ⟨rfl, by rw [ht]; exact hR1, hS1.F ht⟩) hS1.2.2 (by decide +kernel : decode method_4_code 12 = .ok (.ireturn, 1)) hlocks
    · exact absurd hv h1
end AMV
