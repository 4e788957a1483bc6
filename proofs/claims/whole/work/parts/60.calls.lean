/-! CALLS -/
theorem am_take {n b : Nat} {st rest : List Value} (h : st.drop n = .ref b :: rest) : st = (st.take n).reverse.reverse ++ .ref b :: rest := by
  rw [List.reverse_reverse, ← h, List.take_append_drop]
theorem am_inv_eq {M M' : am_M} {i : Instr} {len kd : Nat} {st as rest : List Value} {w : am_W} (h : am_inv M i len st w = some (kd, M', as, rest)) : len = 3 ∧ (
    (∃ k n As b, i = .invokevirtual k ∧ kd = 0 ∧ am_mt M.2.2.2.2.1 k = some (0, M', n) ∧ st = As.reverse ++ .ref b :: rest ∧ As.length = n ∧ as = .ref b :: As ∧ am_is w b M'.2.2.2.2.1 = true ∧ am_fit M' as rest = true) ∨
    (∃ k n As b, i = .invokespecial k ∧ kd = 0 ∧ am_mt M.2.2.2.2.1 k = some (2, M', n) ∧ st = As.reverse ++ .ref b :: rest ∧ As.length = n ∧ as = .ref b :: As ∧ am_fit M' as rest = true) ∨
    (∃ k n As b, i = .invokespecial k ∧ kd = 0 ∧ am_mt M.2.2.2.2.1 k = some (3, M', n) ∧ st = As.reverse ++ .ref b :: rest ∧ As.length = n ∧ as = .ref b :: As ∧ am_fit M' as rest = true) ∨
    (∃ k n As, i = .invokestatic k ∧ kd = 0 ∧ am_mt M.2.2.2.2.1 k = some (1, M', n) ∧ st = As.reverse ++ rest ∧ As.length = n ∧ as = As ∧ am_fit M' as rest = true) ∨
    (∃ k n As, i = .invokestatic k ∧ kd = 0 ∧ am_mt M.2.2.2.2.1 k = some (4, M', n) ∧ st = As.reverse ++ rest ∧ As.length = n ∧ as = As ∧ am_fit M' as rest = true) ∨
    (∃ k n M0 o p b, i = .invokestatic k ∧ kd = o + 1 ∧ am_mt M.2.2.2.2.1 k = some (8, M0, n) ∧ st = .ref o :: .int p :: .ref b :: rest ∧ M' = m_C_having ∧ as = [.ref b, .int p] ∧ am_is w b 0 = true ∧ am_fit M' as rest = true ∧ 8 ≤ o) ∨
    (∃ k n M0 o b, i = .invokestatic k ∧ kd = o + 1 ∧ am_mt M.2.2.2.2.1 k = some (9, M0, n) ∧ st = .ref o :: .ref b :: rest ∧ M' = m_C_mend ∧ as = [.ref b] ∧ am_is w b 0 = true ∧ am_fit M' as rest = true ∧ 8 ≤ o)) := by
  unfold am_inv at h
  split at h
  · next hl =>
    refine ⟨hl, ?_⟩
    split at h
    · next k =>
      split at h
      · next M2 n hm =>
        split at h
        · next b r hd =>
          split at h
          · next hc =>
            cases h
            exact Or.inl ⟨k, n, (st.take n).reverse, b, rfl, rfl, hm, am_take hd, by rw [List.length_reverse, List.length_take]; omega, rfl, hc.1, hc.2.1⟩
          · cases h
        · cases h
      · cases h
    · next k =>
      split at h
      · next M2 n hm =>
        split at h
        · next b r hd =>
          split at h
          · next hc =>
            cases h
            exact Or.inr (Or.inl ⟨k, n, (st.take n).reverse, b, rfl, rfl, hm, am_take hd, by rw [List.length_reverse, List.length_take]; omega, rfl, hc.1⟩)
          · cases h
        · cases h
      · next M2 n hm =>
        split at h
        · next b r hd =>
          split at h
          · next hc =>
            cases h
            exact Or.inr (Or.inr (Or.inl ⟨k, n, (st.take n).reverse, b, rfl, rfl, hm, am_take hd, by rw [List.length_reverse, List.length_take]; omega, rfl, hc.1⟩))
          · cases h
        · cases h
      · cases h
    · next k =>
      split at h
      · next M2 n hm =>
        split at h
        · next hc =>
          cases h
          exact Or.inr (Or.inr (Or.inr (Or.inl ⟨k, n, (st.take n).reverse, rfl, rfl, hm, by rw [List.reverse_reverse, List.take_append_drop], by rw [List.length_reverse, List.length_take]; omega, rfl, hc.1⟩)))
        · cases h
      · next M2 n hm =>
        split at h
        · next hc =>
          cases h
          exact Or.inr (Or.inr (Or.inr (Or.inr (Or.inl ⟨k, n, (st.take n).reverse, rfl, rfl, hm, by rw [List.reverse_reverse, List.take_append_drop], by rw [List.length_reverse, List.length_take]; omega, rfl, hc.1⟩))))
        · cases h
      · next M2 n hm =>
        split at h
        · next o p b r =>
          split at h
          · next hc =>
            cases h
            exact Or.inr (Or.inr (Or.inr (Or.inr (Or.inr (Or.inl ⟨k, n, M2, o, p, b, rfl, rfl, hm, rfl, rfl, rfl, hc.1, hc.2.1, hc.2.2⟩)))))
          · cases h
        · cases h
      · next M2 n hm =>
        split at h
        · next o b r =>
          split at h
          · next hc =>
            cases h
            exact Or.inr (Or.inr (Or.inr (Or.inr (Or.inr (Or.inr ⟨k, n, M2, o, b, rfl, rfl, hm, rfl, rfl, rfl, hc.1, hc.2.1, hc.2.2⟩)))))
          · cases h
        · cases h
      · cases h
    · cases h
  · cases h
theorem am_fit_eq {M : am_M} {as rest : List Value} (h : am_fit M as rest = true) : (am_en0 as).length ≤ M.2.2.1 ∧ (rest.map fun v => v.category).sum ≤ 8 ∧ M.2.2.1 ≤ 40 := by
  simp only [am_fit, Bool.and_eq_true, decide_eq_true_eq] at h
  exact ⟨h.1.1, h.1.2, h.2⟩
theorem am_is_eq {w : am_W} {b ci : Nat} (h : am_is w b ci = true) : ∃ fs, am_ob w b = some (ci, fs) ∧ 8 ≤ b := by
  unfold am_is at h
  split at h
  · next c fs ho =>
    obtain ⟨h1, h2⟩ := of_decide_eq_true h
    exact ⟨fs, by rw [ho, h1], h2⟩
  · cases h
theorem am_aft0 {v : Option Value} {w w' : am_W} {vs : List Value} (h : am_aft 0 v w = some (w', vs)) : v ≠ some (.retAddr 0) ∧ w' = w ∧ vs = v.toList := by
  unfold am_aft at h
  split at h
  · cases h
  · next hn =>
    cases h
    exact ⟨fun e => hn 0 e, rfl, rfl⟩
  all_goals (first | (rename_i hz _; cases hz; done) | (rename_i hz _ _; cases hz; done) | (rename_i hz; cases hz; done) | cases h)
theorem am_map_opt (f : Value → Value) (v : Option Value) (rest : List Value) : (v.map f).toList ++ rest.map f = (v.toList ++ rest).map f := by cases v <;> simp
theorem am_room {d maxL : Nat} {w wf : am_W} {R : Room} (h1 : 2 * (d + 1) + 16 ≤ R.frames) (h2 : 64 * (d + 1 + 16) ≤ R.locals) (h3 : maxL ≤ 40) : (am_rm d w wf).frames + 1 ≤ R.frames ∧ 8 + (maxL + 11) + (am_rm d w wf).locals ≤ R.locals := by
  have e1 : (am_rm d w wf).frames = 2 * d + 16 := rfl
  have e2 : (am_rm d w wf).locals = 64 * (d + 16) := rfl
  rw [e1, e2]
  omega
section AMC
variable {l : Launch} {D : va_G} {dA : Nat → ClassId} {sp : Nat → Nat} {base L : Nat} {xs : Nat → Int32}
set_option maxHeartbeats 4000000 in
theorem am_call0 {n : Nat} (ih : am_WK l D dA sp base L xs n) {d : Nat} {M M' : am_M} {i : Instr} {pc : Nat} {als : List (Option Value)} {st as rest vs : List Value} {w w' w'' : am_W} {v' : Option Value} {p : Program} {e : Env} {R : Room} {s : State} {m : MethodId} {args : Array Value} {below : List Frame} {meth : Method} {c : Code} {H : Heap} {locs : List Loc} {Q : State → Prop} {ls : Array Slot} {c0 s0 : Nat}
    (hi : am_inv M i 3 st w = some (0, M', as, rest)) (hcal : am n d M' 0 (am_en M' as) [] w = some (w', v')) (haft : am_aft 0 v' w' = some (w'', vs)) (hdg : decode M.2.1 pc = .ok (i, 3))
    (hx : p.tables.exec = Jvm.exec) (hb : c.code = M.2.1) (hml : c.maxLocals = M.2.2.1) (hown : s.vm.findClass (am_cn M.2.2.2.2.1) = some m.cls) (hts : ∀ w ∈ am_tbl, w.before args s = true) (hE : am_env D dA sp base L xs s) (hb0 : base ≤ s.heap.size)
    (hc0 : c0 ≤ w.1) (hs0 : s0 ≤ w.2.1) (hcz : s.heap.size ≤ base + c0) (hrc : w'.1 ≤ R.cells + c0) (hrs : w'.2.1 ≤ R.slots + s0) (hrf : 2 * (d + 1) + 16 ≤ R.frames) (hrl : 64 * (d + 1 + 16) ≤ R.locals)
    (hl : am_lv sp base M als ls) (hR : am_R D dA sp base L xs w H) (hS : va_S (fun q => base ≤ q) s.heap H locs)
    (kk : ∀ (H1 : Heap) (locs1 : List Loc), am_R D dA sp base L xs w'' H1 → va_S (fun q => base ≤ q) s.heap H1 locs1 → W p l e R s m args below meth c H1 locs1 (w''.1 - c0) (w''.2.1 - s0) Q (F0 m (pc + 3) ls ((vs ++ rest).map (am_rv sp base)))) :
    W p l e R s m args below meth c H locs (w.1 - c0) (w.2.1 - s0) Q (F0 m pc ls (st.map (am_rv sp base))) := by
  obtain ⟨hv, rfl, rfl⟩ := am_aft0 haft
  have hg := am_grow _ _ _ _ _ _ _ _ _ hcal
  have hK := hE.1
  refine am_rsz (fun hsz => ?_)
  have hpre : ∀ U : State, U.heap = H → s.WarmedH U.vm → am_Pc D dA sp base L xs w as (as.map (am_rv sp base)).toArray U := by
    intro U hU hW
    refine ⟨rfl, hE.warm hW (fun a h1 h2 => by rw [hU]; exact hS.2.1 a h1 h2), by rw [hU]; exact hR, by rw [hU]; exact Nat.le_trans hb0 hS.1, by rw [hU]; omega⟩
  have kk2 : ∀ (H1 : Heap) (locs1 : List Loc), am_R D dA sp base L xs w'' H1 → va_S (fun q => base ≤ q) s.heap H1 locs1 → W p l e R s m args below meth c H1 locs1 (w.1 - c0 + (w''.1 - w.1)) (w.2.1 - s0 + (w''.2.1 - w.2.1)) Q (F0 m (pc + 3) ls ((v'.map (am_rv sp base)).toList ++ rest.map (am_rv sp base))) := by
    intro H1 locs1 h1 h2
    have h9 := kk H1 locs1 h1 h2
    rw [show w.1 - c0 + (w''.1 - w.1) = w''.1 - c0 by omega, show w.2.1 - s0 + (w''.2.1 - w.2.1) = w''.2.1 - s0 by omega, am_map_opt]
    exact h9
  have hcells : w.1 - c0 + (w''.1 - w.1) ≤ R.cells ∧ w.2.1 - s0 + (w''.2.1 - w.2.1) ≤ R.slots := ⟨by omega, by omega⟩
  obtain ⟨-, hcase⟩ := am_inv_eq hi
  rcases hcase with ⟨k, na, As, b, rfl, -, hm, rfl, hlen, rfl, his, hfit⟩ | ⟨k, na, As, b, rfl, -, hm, rfl, hlen, rfl, hfit⟩ | ⟨k, na, As, b, rfl, -, hm, rfl, hlen, rfl, hfit⟩ | ⟨k, na, As, rfl, -, hm, rfl, hlen, rfl, hfit⟩ | ⟨k, na, As, rfl, -, hm, rfl, hlen, rfl, hfit⟩ | ⟨k, na, M0, o, p0, b, -, hk, -⟩ | ⟨k, na, M0, o, b, -, hk, -⟩
  · obtain ⟨ps, ho⟩ := am_mtx hm
    simp only [am_mtok, Bool.and_eq_true, decide_eq_true_eq] at ho
    obtain ⟨⟨⟨⟨⟨h1, h2⟩, h3⟩, h4⟩, h5⟩, h6⟩ := ho
    obtain ⟨g1, g2, g3, g4, g5, g6, g7⟩ := am_mok_eq h1
    obtain ⟨f1, f2, f3⟩ := am_fit_eq hfit
    have hM := am_met ih hcal hv g4 g2 g7 f1
    obtain ⟨fs, hob, h8⟩ := am_is_eq his
    obtain ⟨q, hq⟩ := am_place (dA := dA) (sp := sp) (base := base) h8 (am_ob_eq hob)
    refine am_after (rest := rest.map (am_rv sp base)) (va_runV (C := M'.1.cls) (As := As.map (am_rv sp base)) (b := am_ad sp base b) ⟨hx, hb, hml, hown, hts⟩ hM ⟨callB_of na hts (am_goodIn g1) (am_mw_eq M') rfl rfl (hts _ g3) (hts _ (am_at_mem h3)) ⟨g5, g6, h2⟩ (am_room hrf hrl f3), hts _ (am_at_mem h4), hts _ (am_at_mem h5)⟩ ⟨am_blind, ?_, hpre⟩ rfl (by rw [List.length_map]; exact hlen) hl.1 ?_ (lv_room (by rw [am_cats]; exact f2)) hdg hcells) hS kk2
    · have hrv := va_recv hK hR.1.ws (am_ci h6) hq
      rw [g2]
      exact hrv
    · show List.map (am_rv sp base) (As.reverse ++ .ref b :: rest) = _
      rw [List.map_append, List.map_reverse]
      rfl
  · obtain ⟨ps, ho⟩ := am_mtx hm
    simp only [am_mtok, Bool.and_eq_true, decide_eq_true_eq] at ho
    obtain ⟨⟨⟨⟨⟨h1, h2⟩, h3⟩, h4⟩, h5⟩, h6⟩ := ho
    obtain ⟨g1, g2, g3, g4, g5, g6, g7⟩ := am_mok_eq h1
    obtain ⟨f1, f2, f3⟩ := am_fit_eq hfit
    have hM := am_met ih hcal hv g4 g2 g7 f1
    have hcb := callB_of (R := R) (index := k) (rm := am_rm d w w'') (own := am_cn M.2.2.2.2.1) na hts (am_goodIn g1) (am_mw_eq M') rfl rfl (hts _ g3) (hts _ (am_at_mem h3)) ⟨g5, g6, h2⟩ (am_room hrf hrl f3)
    rw [h6] at hcb
    refine am_after (rest := rest.map (am_rv sp base)) (va_runI (As := As.map (am_rv sp base)) (b := am_ad sp base b) ⟨hx, hb, hml, hown, hts⟩ hM ⟨hcb, h5, hts _ (am_at_mem h4)⟩ ⟨am_blind, hpre⟩ rfl (by rw [List.length_map]; exact hlen) hl.1 ?_ (lv_room (by rw [am_cats]; exact f2)) hdg hcells) hS kk2
    show List.map (am_rv sp base) (As.reverse ++ .ref b :: rest) = _
    rw [List.map_append, List.map_reverse]
    rfl
  · obtain ⟨ps, ho⟩ := am_mtx hm
    simp only [am_mtok, Bool.and_eq_true, decide_eq_true_eq] at ho
    obtain ⟨⟨⟨⟨⟨h1, h2⟩, h3⟩, h4⟩, h5⟩, h6⟩ := ho
    obtain ⟨g1, g2, g3, g4, g5, g6, g7⟩ := am_mok_eq h1
    obtain ⟨f1, f2, f3⟩ := am_fit_eq hfit
    have hM := am_met ih hcal hv g4 g2 g7 f1
    have hcb := va_cnB (R := R) (index := k) (rm := am_rm d w w'') (own := am_cn M.2.2.2.2.1) (host := "GridColours") na hts (am_goodIn g1) (am_mw_eq M') rfl rfl (hE.2.2.1 _ h3) (hts _ g3) ⟨g5, g6, h2⟩ (am_room hrf hrl f3)
    rw [h6] at hcb
    refine am_after (rest := rest.map (am_rv sp base)) (va_runIN (As := As.map (am_rv sp base)) (b := am_ad sp base b) ⟨hx, hb, hml, hown, hts⟩ hM ⟨hcb, h5, hts _ (am_at_mem h4)⟩ ⟨am_blind, hpre⟩ rfl (by rw [List.length_map]; exact hlen) hl.1 ?_ (lv_room (by rw [am_cats]; exact f2)) hdg hcells) hS kk2
    show List.map (am_rv sp base) (As.reverse ++ .ref b :: rest) = _
    rw [List.map_append, List.map_reverse]
    rfl
  · obtain ⟨ps, ho⟩ := am_mtx hm
    simp only [am_mtok, Bool.and_eq_true, decide_eq_true_eq] at ho
    obtain ⟨⟨⟨h1, h2⟩, h3⟩, h4⟩ := ho
    obtain ⟨g1, g2, g3, g4, g5, g6, g7⟩ := am_mok_eq h1
    obtain ⟨f1, f2, f3⟩ := am_fit_eq hfit
    have hM := am_met ih hcal hv g4 g2 g7 f1
    refine am_after (rest := rest.map (am_rv sp base)) (va_runS (As := as.map (am_rv sp base)) ⟨hx, hb, hml, hown, hts⟩ hM ⟨callB_of na hts (am_goodIn g1) (am_mw_eq M') rfl rfl (hts _ g3) (hts _ (am_at_mem h3)) ⟨g5, g6, h2⟩ (am_room hrf hrl f3), hts _ (am_at_mem h4)⟩ ⟨am_blind, hpre⟩ rfl (by rw [List.length_map]; exact hlen) hl.1 ?_ (lv_room (by rw [am_cats]; exact f2)) hdg hcells) hS kk2
    show List.map (am_rv sp base) (as.reverse ++ rest) = _
    rw [List.map_append, List.map_reverse]
  · obtain ⟨ps, ho⟩ := am_mtx hm
    simp only [am_mtok, Bool.and_eq_true, decide_eq_true_eq] at ho
    obtain ⟨⟨⟨h1, h2⟩, h3⟩, h4⟩ := ho
    obtain ⟨g1, g2, g3, g4, g5, g6, g7⟩ := am_mok_eq h1
    obtain ⟨f1, f2, f3⟩ := am_fit_eq hfit
    have hM := am_met ih hcal hv g4 g2 g7 f1
    refine am_after (rest := rest.map (am_rv sp base)) (va_runSN (As := as.map (am_rv sp base)) ⟨hx, hb, hml, hown, hts⟩ hM ⟨va_cnB (host := "GridColours") na hts (am_goodIn g1) (am_mw_eq M') rfl rfl (hE.2.2.1 _ h3) (hts _ g3) ⟨g5, g6, h2⟩ (am_room hrf hrl f3), hts _ (am_at_mem h4), trivial⟩ ⟨am_blind, hpre⟩ rfl (by rw [List.length_map]; exact hlen) hl.1 ?_ (lv_room (by rw [am_cats]; exact f2)) hdg hcells) hS kk2
    show List.map (am_rv sp base) (as.reverse ++ rest) = _
    rw [List.map_append, List.map_reverse]
  · cases hk
  · cases hk
end AMC
