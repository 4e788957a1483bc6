/-! THROWN AND CAUGHT: having and mend, and the law's own having and mend -/
theorem dec_lt {b : ByteArray} {pc : Nat} {r : Instr × Nat} (h : decode b pc = .ok r) : pc < b.size := by
  rcases Nat.lt_or_ge pc b.size with q | q
  · exact q
  · exfalso
    have hu : (Reader.u1 : Decoder Nat) b pc = .error (.truncated pc) := by
      show (do if h : pc < b.size then do set (pc + 1); Pure.pure b[pc].toNat else MonadExcept.throw (HasTruncated.truncated pc) : Decoder Nat) b pc = _
      rw [dif_neg (Nat.not_lt.mpr q)]
      rfl
    have key : ∀ {α β : Type} (m : Decoder α) (F : α → Decoder β) (s : Nat) (x : DecodeError), m b s = .error x → (m >>= F) b s = .error x := by
      intro α β m F s x hm
      show (do let (a, s) ← m b s; F a b s : Except DecodeError (β × Nat)) = _
      rw [hm]
      rfl
    have h1 : (Decoder.instr pc) b pc = .error (.truncated pc) := key _ _ _ _ hu
    have h2 : decode b pc = .error (.truncated pc) := by
      show (do let (a, s) ← (Decoder.instr pc) b pc; Pure.pure (a, s - pc) : Except DecodeError (Instr × Nat)) = _
      rw [h1]
      rfl
    rw [h2] at h
    cases h
def am_xpc (M : am_M) (n p : Nat) : Bool := decide (M.2.1.size ≤ n) && (List.range n).all (fun pc => match decode M.2.1 pc with
  | .ok (.new k, _) => k != 131 || pc == p
  | _ => true)
theorem am_xpc_eq {M : am_M} {n p pc len : Nat} (h : am_xpc M n p = true) (hd : decode M.2.1 pc = .ok (.new 131, len)) : pc = p := by
  simp only [am_xpc, Bool.and_eq_true, decide_eq_true_eq, List.all_eq_true, List.mem_range] at h
  have h1 := h.2 pc (Nat.lt_of_lt_of_le (dec_lt hd) h.1)
  rw [hd] at h1
  simpa using h1
theorem am_xpc_h : am_xpc m_C_having 40 11 = true := by decide +kernel
theorem am_xpc_m : am_xpc m_C_mend 60 33 = true := by decide +kernel
def am_NSE : String := "java/util/NoSuchElementException"
def am_nms : List String := ["java/lang/RuntimeException", "java/lang/Exception"]
theorem am_x1 : ∀ w ∈ (am_atS "GridColours" 135 am_NSE am_nms).filter goodWord, w ∈ am_tbl := by decide +kernel
theorem am_x2 : ∀ w ∈ (am_atS "GridColours" 135 am_NSE am_nms).filter (fun w => !goodWord w), w ∈ am_xb := by decide +kernel
theorem am_x3 : ∀ w ∈ Cond.classLink "GridColours" 131 am_NSE :: Cond.initialized am_NSE :: am_atS "GridColours" 135 am_NSE am_nms, vx_ot w = true := by decide +kernel
theorem am_x4 : (Cond.classLink "GridColours" 131 am_NSE) ∈ am_tbl := by decide +kernel
theorem am_x5 : (Cond.initialized am_NSE) ∈ am_tbl := by decide +kernel
theorem am_xb_on : ∀ w ∈ am_xb, w.onTables = true := by decide +kernel
section AMY
variable {l : Launch} {D : va_G} {dA : Nat → ClassId} {sp : Nat → Nat} {base L : Nat} {xs : Nat → Int32}
def am_QX (D : va_G) (dA : Nat → ClassId) (sp : Nat → Nat) (base L : Nat) (xs : Nat → Int32) (wf : am_W) (v : Option Value) : Array Value → State → Outcome → State → Prop := fun a st o t => v ≠ some (.retAddr 0) ∧ am_Qc D dA sp base L xs wf v a st o t
def am_XC (D : va_G) (dA : Nat → ClassId) (sp : Nat → Nat) (base L : Nat) (xs : Nat → Int32) (wf : am_W) (v : Option Value) : String → State → State → Prop := fun E st t => E = am_NSE ∧ v = some (.retAddr 0) ∧ am_R D dA sp base L xs wf t.heap ∧ va_F (fun q => base ≤ q) st t
theorem am_R.grow {w : am_W} {H H1 : Heap} {c0 s0 : Nat} (h : am_R D dA sp base L xs w H) (z : H.size ≤ H1.size) (o : ∀ q : Nat, q < H.size → H1[q]? = H[q]?) : am_R D dA sp base L xs (c0, s0, w.2.2) H1 := by
  obtain ⟨h1, ⟨h2, h3⟩, h4⟩ := h
  refine ⟨fun i x h8 hx => ?_, ⟨h2, by show base + w.2.2.length ≤ _; omega⟩, h4⟩
  have h9 := h1 i x h8 hx
  exact h9.kept (o _ h9.lt)
theorem am_metX {n : Nat} (ih : am_WK l D dA sp base L xs n) (hst : l.stackTraces = false) {d : Nat} {M : am_M} {as : List Value} {w wf : am_W} {v : Option Value} (h : am n d M 0 (am_en M as) [] w = some (wf, v)) (hM : M = m_C_having ∨ M = m_C_mend) (hfit : (am_en0 as).length ≤ M.2.2.1) :
    vx_Met l M.1 (am_mw M) (am_rm d w wf) (am_Pc D dA sp base L xs w as) (am_QX D dA sp base L xs wf v) (am_XC D dA sp base L xs wf v) (wf.1 - w.1) (wf.2.1 - w.2.1) (fun q => base ≤ q) := by
  have hpl : plainName M.1.cls = true ∧ M.1.cls = am_cn M.2.2.2.2.1 ∧ M.2.2.2.2.1 = 0 ∧ M.2.2.2.2.2.2 = false := by rcases hM with rfl | rfl <;> exact ⟨by decide, rfl, rfl, rfl⟩
  obtain ⟨hpl, hcl, hz, hini⟩ := hpl
  refine vx_ofW (cc := M.2.1) (maxL := M.2.2.1) (ret := M.2.2.2.1) hpl rfl ?_
  intro p e s m args below meth c s₁ B hml hex hpre
  obtain ⟨rfl, hE, hR, hb0, hcz⟩ := hpre
  have hx := B.exec
  have hb := B.bytes
  have hr := B.returns
  have hlocks := B.notSynchronized
  have hts : ∀ w ∈ am_tbl, w.before (as.map (am_rv sp base)).toArray s = true := fun w hw => atoms_spec (ws := am_mw M) B.pre w (List.mem_cons_of_mem _ hw)
  have hown : s.vm.findClass M.1.cls = some m.cls := findClass_of_methodNamed B.named
  have hg := am_grow _ _ _ _ _ _ _ _ _ h
  rw [hcl] at hown
  rw [lg_entry_eq]
  have hk := ih d M 0 (am_en M as) [] w wf v h p e (am_rm d w wf) s m (as.map (am_rv sp base)).toArray below meth c s.heap [] (vx_MQ below (am_QX D dA sp base L xs wf v) (am_XC D dA sp base L xs wf v) (as.map (am_rv sp base)).toArray s (wf.1 - w.1) (wf.2.1 - w.2.1) (fun q => base ≤ q)) _ w.1 w.2.1 hx hb hml hown hts hE hb0 (fun hi => by rw [hini] at hi; cases hi) (Nat.le_refl _) (Nat.le_refl _) hcz (by show wf.1 ≤ wf.1 - w.1 + w.1; omega) (by show wf.2.1 ≤ wf.2.1 - w.2.1 + w.2.1; omega) (Nat.le_refl _) (Nat.le_refl _) (am_en_lv sp base M as hfit) hR va_S.rf ?_
  · rw [Nat.sub_self, Nat.sub_self] at hk
    exact hk
  · intro pc' i len als' st' w' H' locs' ls' hd hret hl' hR' hS' h1 h2
    rcases am_ret_eq hret with ⟨-, hw, hcase⟩ | ⟨-, rfl, rfl, hw, hv⟩
    · subst hw
      have hv : v ≠ some (.retAddr 0) := by
        rcases hcase with ⟨-, -, x, -, rfl⟩ | ⟨-, -, x, -, rfl, -⟩ | ⟨-, -, x, -, rfl⟩ | ⟨-, -, x, -, rfl⟩ | ⟨-, -, -, rfl⟩ <;> exact fun z => by cases z
      exact vx_ret (am_fin (wf := wf) (v := v) hx hb hr hlocks hd hret hv (fun t ht hW => ⟨hv, rfl, by rw [ht]; exact hR', hS'.F ht⟩) hS'.2.2)
    · subst hw
      subst hv
      have hX := hE.2.2.2.2.2
      rw [hz] at hown
      have hat : ∀ w ∈ am_atS "GridColours" 135 am_NSE am_nms, w.before (as.map (am_rv sp base)).toArray s = true := vx_hat (fun w hw => hts w (am_x1 w hw)) am_x2 (fun w hw => va_Nw.use (am_xb_on w hw) (hX.2.2.2.2.2.2.2 w hw))
      have hxx : ∀ t : State, s.vm.Alike t.vm → H'.size ≤ t.heap.size → (∀ q : Nat, q < H'.size → t.heap[q]? = H'[q]?) → am_XC D dA sp base L xs (w'.1 + 1, w'.2.1 + 6, w'.2.2) (some (.retAddr 0)) am_NSE s t := by
        intro t _ ht1 ht2
        refine ⟨rfl, rfl, hR'.grow ht1 ht2, Nat.le_trans hS'.1 ht1, fun q q1 q2 => ?_⟩
        rw [ht2 q (Nat.lt_of_lt_of_le q1 hS'.1)]
        exact hS'.2.1 q q1 q2
      have hout : ∀ x ∈ c.exceptionTable.toList, covers x (pc' + 9) = false := fun x hx => (hex x hx).elim
      have hmc : (w'.1 + 1, w'.2.1 + 6, w'.2.2).1 - w.1 = w'.1 - w.1 + 1 ∧ (w'.1 + 1, w'.2.1 + 6, w'.2.2).2.1 - w.2.1 = w'.2.1 - w.2.1 + 6 := ⟨by show w'.1 + 1 - w.1 = _; omega, by show w'.2.1 + 6 - w.2.1 = _; omega⟩
      rcases hM with rfl | rfl
      · have hpc := am_xpc_eq am_xpc_h hd
        subst hpc
        refine am_throwS (own := "GridColours") (cls := am_NSE) (text := "no such colour") (names := am_nms) (ik := 131) (is := 133) (ic := 135) hx hb hst hown (by decide) (by decide) (hts _ am_x4) (hts _ am_x5) hX.2.1.1 hat am_x3 hX.2.2.2.2.2.1 hX.2.2.2.2.2.2.1 hS' (by rw [hml]; exact hl'.1) (by decide +kernel : decode m_C_having.2.1 11 = .ok (.new 131, 3)) (by decide +kernel : decode m_C_having.2.1 14 = .ok (.dup, 1)) (by decide +kernel : decode m_C_having.2.1 15 = .ok (.ldc 133, 2)) (by decide +kernel : decode m_C_having.2.1 17 = .ok (.invokespecial 135, 3)) (by decide +kernel : decode m_C_having.2.1 20 = .ok (.athrow, 1)) hout ?_ ?_ ?_ ?_ hlocks hxx hS'.2.2 ?_ ?_
        · show 2 + 3 < 2 * d + 16
          omega
        · show 0 + (13 * (2 + 1) + 43) ≤ 64 * (d + 16)
          omega
        · show w'.1 - w.1 + 1 ≤ (w'.1 + 1) - w.1
          omega
        · show w'.2.1 - w.2.1 + 6 ≤ (w'.2.1 + 6) - w.2.1
          omega
        · rw [hmc.1]; exact Nat.le_refl _
        · rw [hmc.2]; exact Nat.le_refl _
      · have hpc := am_xpc_eq am_xpc_m hd
        subst hpc
        refine am_throwS (own := "GridColours") (cls := am_NSE) (text := "more than three cells") (names := am_nms) (ik := 131) (is := 158) (ic := 135) hx hb hst hown (by decide) (by decide) (hts _ am_x4) (hts _ am_x5) hX.2.1.2 hat am_x3 hX.2.2.2.2.2.1 hX.2.2.2.2.2.2.1 hS' (by rw [hml]; exact hl'.1) (by decide +kernel : decode m_C_mend.2.1 33 = .ok (.new 131, 3)) (by decide +kernel : decode m_C_mend.2.1 36 = .ok (.dup, 1)) (by decide +kernel : decode m_C_mend.2.1 37 = .ok (.ldc 158, 2)) (by decide +kernel : decode m_C_mend.2.1 39 = .ok (.invokespecial 135, 3)) (by decide +kernel : decode m_C_mend.2.1 42 = .ok (.athrow, 1)) hout ?_ ?_ ?_ ?_ hlocks hxx hS'.2.2 ?_ ?_
        · show 2 + 3 < 2 * d + 16
          omega
        · show 0 + (13 * (2 + 1) + 43) ≤ 64 * (d + 16)
          omega
        · show w'.1 - w.1 + 1 ≤ (w'.1 + 1) - w.1
          omega
        · show w'.2.1 - w.2.1 + 6 ≤ (w'.2.1 + 6) - w.2.1
          omega
        · rw [hmc.1]; exact Nat.le_refl _
        · rw [hmc.2]; exact Nat.le_refl _
end AMY
