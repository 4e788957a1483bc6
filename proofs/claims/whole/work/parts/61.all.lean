/-! THE WALK OF ANY NUMBER OF STEPS -/
section AMX
variable {l : Launch} {D : va_G} {dA : Nat → ClassId} {sp : Nat → Nat} {base L : Nat} {xs : Nat → Int32}
theorem am_goodL1 : GoodIn am_tbl (va_wsS "GridColoursLaw" 51 y_Lh am_lw1) := by
  intro w hw
  have hm : w ∈ am_tbl := by
    rcases List.mem_append.mp hw with h | h
    · simp only [List.mem_cons, List.not_mem_nil, or_false] at h
      rcases h with rfl | rfl | rfl
      · exact am_lz4.1
      · exact am_lz4.2.1
      · exact am_lz4.2.2
    · rcases List.mem_cons.mp h with rfl | h
      · exact am_lz1
      · exact h
  exact ⟨hm, good_of_word (List.mem_filter.mp hm).2⟩
theorem am_goodL2 : GoodIn am_tbl (va_wsS "GridColoursLaw" 81 y_Lm am_lw2) := by
  intro w hw
  have hm : w ∈ am_tbl := by
    rcases List.mem_append.mp hw with h | h
    · simp only [List.mem_cons, List.not_mem_nil, or_false] at h
      rcases h with rfl | rfl | rfl
      · exact am_lz5.1
      · exact am_lz5.2
      · exact am_lz4.2.2
    · rcases List.mem_cons.mp h with rfl | h
      · exact am_lz2
      · exact h
  exact ⟨hm, good_of_word (List.mem_filter.mp hm).2⟩
set_option maxRecDepth 4000 in
theorem am_q2 {d z : Nat} (h : 64 * (d + 1 + 16) ≤ z) : 8 + (4 + 11) + (64 * (d + 16) + 32) ≤ z := by omega
set_option maxRecDepth 4000 in
theorem am_q3 {d z : Nat} (h : 64 * (d + 1 + 16) ≤ z) : 8 + (3 + 11) + (64 * (d + 16) + 32) ≤ z := by omega
/-- the law's own having and mend: a call that may throw, caught there -/
theorem am_callX {n : Nat} (ih : am_WK l D dA sp base L xs n) (hst : l.stackTraces = false) {d o : Nat} {M M' : am_M} {i : Instr} {pc : Nat} {als : List (Option Value)} {st as rest vs : List Value} {w w' w'' : am_W} {v' : Option Value} {p : Program} {e : Env} {R : Room} {s : State} {m : MethodId} {args : Array Value} {below : List Frame} {meth : Method} {c : Code} {H : Heap} {locs : List Loc} {Q : State → Prop} {ls : Array Slot} {c0 s0 : Nat}
    (hi : am_inv M i 3 st w = some (o + 1, M', as, rest)) (hcal : am n d M' 0 (am_en M' as) [] w = some (w', v')) (haft : am_aft (o + 1) v' w' = some (w'', vs)) (hdg : decode M.2.1 pc = .ok (i, 3))
    (hx : p.tables.exec = Jvm.exec) (hb : c.code = M.2.1) (hml : c.maxLocals = M.2.2.1) (hown : s.vm.findClass (am_cn M.2.2.2.2.1) = some m.cls) (hts : ∀ w ∈ am_tbl, w.before args s = true) (hE : am_env D dA sp base L xs s) (hb0 : base ≤ s.heap.size)
    (hc0 : c0 ≤ w.1) (hs0 : s0 ≤ w.2.1) (hcz : s.heap.size ≤ base + c0) (hrc : w'.1 ≤ R.cells + c0) (hrs : w'.2.1 ≤ R.slots + s0) (hrf : 2 * (d + 1) + 16 ≤ R.frames) (hrl : 64 * (d + 1 + 16) ≤ R.locals)
    (hl : am_lv sp base M als ls) (hR : am_R D dA sp base L xs w H) (hS : va_S (fun q => base ≤ q) s.heap H locs)
    (kk : ∀ (H1 : Heap) (locs1 : List Loc), am_R D dA sp base L xs w'' H1 → va_S (fun q => base ≤ q) s.heap H1 locs1 → W p l e R s m args below meth c H1 locs1 (w''.1 - c0) (w''.2.1 - s0) Q (F0 m (pc + 3) ls ((vs ++ rest).map (am_rv sp base)))) :
    W p l e R s m args below meth c H locs (w.1 - c0) (w.2.1 - s0) Q (F0 m pc ls (st.map (am_rv sp base))) := by
  have hg := am_grow _ _ _ _ _ _ _ _ _ hcal
  have g3 := am_aft_mono haft
  have q1 : 2 * d + 17 + 1 ≤ R.frames := by omega
  have q2 := am_q2 hrl
  have q3 := am_q3 hrl
  refine am_rsz (fun hsz => ?_)
  obtain ⟨-, hcase⟩ := am_inv_eq hi
  rcases hcase with ⟨k, na, As, b, -, hk, -⟩ | ⟨k, na, As, b, -, hk, -⟩ | ⟨k, na, As, b, -, hk, -⟩ | ⟨k, na, As, -, hk, -⟩ | ⟨k, na, As, -, hk, -⟩ | ⟨k, na, M0, o', p0, b, rfl, hk, hm, rfl, rfl, rfl, his, hfit, h8o⟩ | ⟨k, na, M0, o', b, rfl, hk, hm, rfl, rfl, rfl, his, hfit, h8o⟩
  · cases hk
  · cases hk
  · cases hk
  · cases hk
  · cases hk
  · cases hk
    obtain ⟨ps, hk9⟩ := am_mtx hm
    have hk9 : decide (M.2.2.2.2.1 = 8 ∧ k = 51) = true := hk9
    obtain ⟨h88, rfl⟩ := of_decide_eq_true hk9
    rw [h88] at hown
    obtain ⟨f1, f2, f3⟩ := am_fit_eq hfit
    obtain ⟨kv, hvs, hM⟩ := am_Lh ih hst hcal haft his
    subst hvs
    have hpre : ∀ U : State, U.heap = H → s.WarmedH U.vm → am_Pc D dA sp base L xs w [.ref b, .int p0, .ref o] ([.ref b, .int p0, .ref o].map (am_rv sp base)).toArray U := by
      intro U hU hW
      exact ⟨rfl, hE.warm hW (fun a h1 h2 => by rw [hU]; exact hS.2.1 a h1 h2), by rw [hU]; exact hR, by rw [hU]; exact Nat.le_trans hb0 hS.1, by rw [hU]; omega⟩
    refine am_after (rest := rest.map (am_rv sp base)) (vx_runSW (As := [.ref (am_ad sp base b), .int p0, .ref (am_ad sp base o)]) (rm := am_rmL d w w') (bytes := method_3_code) (maxL := 4) (ret := some .int) (hh := am_hh1) (n := 3) ⟨hx, hb, hml, hown, hts⟩ hM (vx_cwSW (own := "GridColoursLaw") (index := 51) 3 hts am_goodL1 am_lw1_eq rfl rfl (by decide +kernel) ⟨?_, ?_⟩) ⟨am_blind, hpre⟩ rfl rfl hl.1 rfl (lv_room (by rw [am_cats]; exact f2)) hdg ⟨by omega, by omega⟩) hS (fun H1 locs1 h1 h2 => ?_)
    · exact q1
    · exact q2
    · have h9 := kk H1 locs1 h1 h2
      rw [show w.1 - c0 + (w'.1 - w.1) = w''.1 - c0 by omega, show w.2.1 - s0 + (w'.2.1 - w.2.1) = w''.2.1 - s0 by omega]
      exact h9
  · cases hk
    obtain ⟨ps, hk9⟩ := am_mtx hm
    have hk9 : decide (M.2.2.2.2.1 = 8 ∧ k = 81) = true := hk9
    obtain ⟨h88, rfl⟩ := of_decide_eq_true hk9
    rw [h88] at hown
    obtain ⟨f1, f2, f3⟩ := am_fit_eq hfit
    obtain ⟨kv, hvs, hM⟩ := am_Lm ih hst hcal haft his
    subst hvs
    have hpre : ∀ U : State, U.heap = H → s.WarmedH U.vm → am_Pc D dA sp base L xs w [.ref b, .ref o] ([.ref b, .ref o].map (am_rv sp base)).toArray U := by
      intro U hU hW
      exact ⟨rfl, hE.warm hW (fun a h1 h2 => by rw [hU]; exact hS.2.1 a h1 h2), by rw [hU]; exact hR, by rw [hU]; exact Nat.le_trans hb0 hS.1, by rw [hU]; omega⟩
    refine am_after (rest := rest.map (am_rv sp base)) (vx_runSW (As := [.ref (am_ad sp base b), .ref (am_ad sp base o)]) (rm := am_rmL d w w') (bytes := method_4_code) (maxL := 3) (ret := some .int) (hh := am_hh2) (n := 2) ⟨hx, hb, hml, hown, hts⟩ hM (vx_cwSW (own := "GridColoursLaw") (index := 81) 2 hts am_goodL2 am_lw2_eq rfl rfl (by decide +kernel) ⟨?_, ?_⟩) ⟨am_blind, hpre⟩ rfl rfl hl.1 rfl (lv_room (by rw [am_cats]; exact f2)) hdg ⟨by omega, by omega⟩) hS (fun H1 locs1 h1 h2 => ?_)
    · exact q1
    · exact q3
    · have h9 := kk H1 locs1 h1 h2
      rw [show w.1 - c0 + (w'.1 - w.1) = w''.1 - c0 by omega, show w.2.1 - s0 + (w'.2.1 - w.2.1) = w''.2.1 - s0 by omega]
      exact h9
theorem am_walk (hst : l.stackTraces = false) (n : Nat) : am_WK l D dA sp base L xs n := by
  induction n with
  | zero => intro d M pc als st w wf v h; cases h
  | succ n ih =>
    intro d M pc als st w wf v h p e R s m args below meth c H locs Q ls c0 s0 hx hb hml hown hts hE hb0 hini hc0 hs0 hcz hrc hrs hrf hrl hl hR hS hfin
    unfold am at h
    split at h
    · cases h
    · next i len hdg =>
      split at h
      · next r hret =>
        cases h
        exact hfin pc i len als st w H locs ls hdg hret hl hR hS hc0 hs0
      · split at h
        · next kd M' as rest hinv =>
          split at h
          · cases h
          · next d' =>
            split at h
            · cases h
            · next w' v' hcal =>
              split at h
              · cases h
              · next w'' vs haft =>
                have h3 := (am_inv_eq hinv).1
                subst h3
                have g1 := am_grow _ _ _ _ _ _ _ _ _ hcal
                have g2 := am_grow _ _ _ _ _ _ _ _ _ h
                have g3 := am_aft_mono haft
                have kk : ∀ (H1 : Heap) (locs1 : List Loc), am_R D dA sp base L xs w'' H1 → va_S (fun q => base ≤ q) s.heap H1 locs1 → W p l e R s m args below meth c H1 locs1 (w''.1 - c0) (w''.2.1 - s0) Q (F0 m (pc + 3) ls ((vs ++ rest).map (am_rv sp base))) := by
                  intro H1 locs1 hR1 hS1
                  exact ih (d' + 1) M (pc + 3) als (vs ++ rest) w'' wf v h p e R s m args below meth c H1 locs1 Q ls c0 s0 hx hb hml hown hts hE hb0 hini (by omega) (by omega) hcz hrc hrs hrf hrl hl hR1 hS1 hfin
                cases kd with
                | zero => exact am_call0 ih hinv hcal haft hdg hx hb hml hown hts hE hb0 hc0 hs0 hcz (by omega) (by omega) hrf hrl hl hR hS kk
                | succ o => exact am_callX ih hst hinv hcal haft hdg hx hb hml hown hts hE hb0 hc0 hs0 hcz (by omega) (by omega) hrf hrl hl hR hS kk
        · split at h
          · cases h
          · next pc' als' st' w' hst =>
            have g2 := am_grow _ _ _ _ _ _ _ _ _ h
            have g3 := am_st_mono hst
            refine am_step1 hst hdg hx hb hml hown hts hE hb0 hini hc0 hs0 hcz (by omega) (by omega) (by omega) (by omega) hl hR hS (fun H1 locs1 ls1 hl1 hR1 hS1 => ?_)
            exact ih d M pc' als' st' w' wf v h p e R s m args below meth c H1 locs1 Q ls1 c0 s0 hx hb hml hown hts hE hb0 hini (by omega) (by omega) hcz hrc hrs hrf hrl hl1 hR1 hS1 hfin
end AMX
