/-! TEXTS: what String.length and String.charAt do with the two texts of the reader -/
theorem am_gsl : (Cond.fieldLink (am_cn 0) am_gs "GridColours" "OPEN_CELLS" "[I") ∈ am_tbl := am_at_mem (ps := [547]) (j := 0) (by decide +kernel)
theorem am_cats (sp : Nat → Nat) (base : Nat) (r : List Value) : ((r.map (am_rv sp base)).map fun v => v.category).sum = (r.map fun v => v.category).sum := by
  rw [List.map_map]
  congr 1
  exact List.map_congr_left (fun v _ => am_rv_cat sp base v)
def mt_len : am_M := (⟨"java/lang/String", "length", "()I"⟩, prog_18_method_54_code, 1, (some .int), 12, [], false)
theorem mt_len_c : (Cond.code mt_len.1 mt_len.2.1 mt_len.2.2.1 mt_len.2.2.2.1) ∈ am_tbl := am_at_mem (ps := [317]) (j := 0) (by decide +kernel)
theorem mt_len_s : (Cond.instanceMethod mt_len.1) ∈ am_tbl := am_at_mem (ps := [315]) (j := 0) (by decide +kernel)
theorem mt_len_l : (Cond.selects "java/lang/String" mt_len.1 mt_len.1) ∈ am_tbl := am_at_mem (ps := [316]) (j := 0) (by decide +kernel)
def mt_cod : am_M := (⟨"java/lang/String", "coder", "()B"⟩, prog_18_method_152_code, 1, (some .byte), 12, [], false)
theorem mt_cod_c : (Cond.code mt_cod.1 mt_cod.2.1 mt_cod.2.2.1 mt_cod.2.2.2.1) ∈ am_tbl := am_at_mem (ps := [321]) (j := 0) (by decide +kernel)
theorem mt_cod_s : (Cond.instanceMethod mt_cod.1) ∈ am_tbl := am_at_mem (ps := [319]) (j := 0) (by decide +kernel)
theorem mt_cod_l : (Cond.selects "java/lang/String" mt_cod.1 mt_cod.1) ∈ am_tbl := am_at_mem (ps := [320]) (j := 0) (by decide +kernel)
def mt_chr : am_M := (⟨"java/lang/String", "charAt", "(I)C"⟩, prog_18_method_56_code, 2, (some .char), 12, [], false)
theorem mt_chr_c : (Cond.code mt_chr.1 mt_chr.2.1 mt_chr.2.2.1 mt_chr.2.2.2.1) ∈ am_tbl := am_at_mem (ps := [327]) (j := 0) (by decide +kernel)
theorem mt_chr_s : (Cond.instanceMethod mt_chr.1) ∈ am_tbl := am_at_mem (ps := [325]) (j := 0) (by decide +kernel)
theorem mt_chr_l : (Cond.selects "java/lang/String" mt_chr.1 mt_chr.1) ∈ am_tbl := am_at_mem (ps := [326]) (j := 0) (by decide +kernel)
def mt_lat : am_M := (⟨"java/lang/String", "isLatin1", "()Z"⟩, prog_18_method_154_code, 1, (some .boolean), 12, [], false)
theorem mt_lat_c : (Cond.code mt_lat.1 mt_lat.2.1 mt_lat.2.2.1 mt_lat.2.2.2.1) ∈ am_tbl := am_at_mem (ps := [331]) (j := 0) (by decide +kernel)
theorem mt_lat_s : (Cond.instanceMethod mt_lat.1) ∈ am_tbl := am_at_mem (ps := [329]) (j := 0) (by decide +kernel)
theorem mt_lat_l : (Cond.selects "java/lang/String" mt_lat.1 mt_lat.1) ∈ am_tbl := am_at_mem (ps := [330]) (j := 0) (by decide +kernel)
def mt_cha : am_M := (⟨"java/lang/StringLatin1", "charAt", "([BI)C"⟩, prog_19_method_2_code, 2, (some .char), 12, [], false)
theorem mt_cha_c : (Cond.code mt_cha.1 mt_cha.2.1 mt_cha.2.2.1 mt_cha.2.2.2.1) ∈ am_tbl := am_at_mem (ps := [334]) (j := 0) (by decide +kernel)
theorem mt_cha_s : (Cond.static mt_cha.1) ∈ am_tbl := am_at_mem (ps := [333]) (j := 0) (by decide +kernel)
def mt_chk : am_M := (⟨"java/lang/String", "checkIndex", "(II)V"⟩, prog_18_method_155_code, 2, none, 12, [], false)
theorem mt_chk_c : (Cond.code mt_chk.1 mt_chk.2.1 mt_chk.2.2.1 mt_chk.2.2.2.1) ∈ am_tbl := am_at_mem (ps := [337]) (j := 0) (by decide +kernel)
theorem mt_chk_s : (Cond.static mt_chk.1) ∈ am_tbl := am_at_mem (ps := [336]) (j := 0) (by decide +kernel)
def mt_pre : am_M := (⟨"jdk/internal/util/Preconditions", "checkIndex", "(IILjava/util/function/BiFunction;)I"⟩, prog_25_method_11_code, 3, (some .int), 12, [], false)
theorem mt_pre_c : (Cond.code mt_pre.1 mt_pre.2.1 mt_pre.2.2.1 mt_pre.2.2.2.1) ∈ am_tbl := am_at_mem (ps := [342]) (j := 0) (by decide +kernel)
theorem mt_pre_s : (Cond.static mt_pre.1) ∈ am_tbl := am_at_mem (ps := [341]) (j := 0) (by decide +kernel)
theorem mt_iS : (Cond.initialized "java/lang/String") ∈ am_tbl := am_at_mem (ps := [64]) (j := 0) (by decide +kernel)
theorem mt_iL : (Cond.initialized "java/lang/StringLatin1") ∈ am_tbl := am_at_mem (ps := [65]) (j := 0) (by decide +kernel)
theorem mt_iP : (Cond.initialized "jdk/internal/util/Preconditions") ∈ am_tbl := am_at_mem (ps := [66]) (j := 0) (by decide +kernel)
theorem mt_f9 : (Cond.fieldLink "java/lang/String" 9 "java/lang/String" "value" "[B") ∈ am_tbl := am_at_mem (ps := [1248]) (j := 0) (by decide +kernel)
theorem mt_f15 : (Cond.fieldLink "java/lang/String" 15 "java/lang/String" "coder" "B") ∈ am_tbl := am_at_mem (ps := [1249]) (j := 0) (by decide +kernel)
theorem mt_f38 : (Cond.fieldLink "java/lang/String" 38 "java/lang/String" "COMPACT_STRINGS" "Z") ∈ am_tbl := am_at_mem (ps := [322]) (j := 0) (by decide +kernel)
theorem mt_f1053 : (Cond.fieldLink "java/lang/String" 1053 "jdk/internal/util/Preconditions" "SIOOBE_FORMATTER" "Ljava/util/function/BiFunction;") ∈ am_tbl := am_at_mem (ps := [338]) (j := 0) (by decide +kernel)
theorem mt_k335 : (Cond.methodLink "java/lang/String" 335 mt_cod.1) ∈ am_tbl := am_at_mem (ps := [318]) (j := 0) (by decide +kernel)
theorem mt_k492 : (Cond.methodLink "java/lang/String" 492 mt_lat.1) ∈ am_tbl := am_at_mem (ps := [328]) (j := 0) (by decide +kernel)
theorem mt_k495 : (Cond.methodLink "java/lang/String" 495 mt_cha.1) ∈ am_tbl := am_at_mem (ps := [332]) (j := 0) (by decide +kernel)
theorem mt_k9 : (Cond.methodLink "java/lang/StringLatin1" 9 mt_chk.1) ∈ am_tbl := am_at_mem (ps := [335]) (j := 0) (by decide +kernel)
theorem mt_k1059 : (Cond.methodLink "java/lang/String" 1059 mt_pre.1) ∈ am_tbl := am_at_mem (ps := [340]) (j := 0) (by decide +kernel)
theorem mt_k114 : (Cond.methodLink "GridColours$Reader" 114 mt_len.1) ∈ am_tbl := am_at_mem (ps := [314]) (j := 0) (by decide +kernel)
theorem mt_k117 : (Cond.methodLink "GridColours$Reader" 117 mt_chr.1) ∈ am_tbl := am_at_mem (ps := [324]) (j := 0) (by decide +kernel)
def am_mw (M : am_M) : List Cond := .code M.1 M.2.1 M.2.2.1 M.2.2.2.1 :: am_tbl
theorem am_mw_eq (M : am_M) : am_mw M = .code M.1 M.2.1 M.2.2.1 M.2.2.2.1 :: am_tbl := rfl
theorem am_goodIn {M : am_M} (h : (Cond.code M.1 M.2.1 M.2.2.1 M.2.2.2.1) ∈ am_tbl) : GoodIn am_tbl (am_mw M) := by
  intro w hw
  rcases List.mem_cons.mp hw with rfl | hw
  · exact ⟨h, good_of_word (List.mem_filter.mp h).2⟩
  · exact ⟨hw, good_of_word (List.mem_filter.mp hw).2⟩
def tx_rm (k : Nat) : Room := { frames := k, cells := 0, slots := 0, locals := 64 * k }
def tx_Pc (sp : Nat → Nat) (base : Nat) (as : List Value) : Array Value → State → Prop := fun v U => v = as.toArray ∧ am_envX sp base U
def tx_Qc (r : Option Value) : Array Value → State → Outcome → State → Prop := fun _ st o t => o = .returned r ∧ t.heap = st.heap
def tx_tx (i : Nat) : List Int32 := [[103, 114, 105, 100], [114, 111, 119]].getD i []
section TXT
variable {l : Launch} {sp : Nat → Nat} {base : Nat}
theorem tx_blind {as : List Value} : FrameBlind (tx_Pc sp base as) := fun a U g mk h => ⟨h.1, h.2.warm (State.WarmedH.refl U) (fun _ _ _ => rfl)⟩
theorem tx_met {M : am_M} {as : List Value} {r : Option Value} {k : Nat} (hpl : plainName M.1.cls = true) (hlen : (lg_sl as).length ≤ M.2.2.1)
    (body : ∀ (p : Program) (e : Env) (s : State) (m : MethodId) (below : List Frame) (meth : Method) (c : Code) (ls : Array Slot), p.tables.exec = Jvm.exec → c.code = M.2.1 → c.maxLocals = M.2.2.1 → meth.sig.returnType = M.2.2.2.1 → meth.locks = false → s.vm.findClass M.1.cls = some m.cls → (∀ w ∈ am_tbl, w.before as.toArray s = true) → am_envX sp base s → lv_has ls M.2.2.1 (lv_args 0 as) → W p l e (tx_rm k) s m as.toArray below meth c s.heap [] 0 0 (MQ below (tx_Qc r) as.toArray s 0 0 (fun _ => False)) (F0 m 0 ls [])) :
    Met l M.1 (am_mw M) (tx_rm k) (tx_Pc sp base as) (tx_Qc r) 0 0 (fun _ => False) := by
  refine Met.ofW (cc := M.2.1) (maxL := M.2.2.1) (ret := M.2.2.2.1) hpl rfl ?_
  intro p e s m args below meth c s₁ B hml hpre
  obtain ⟨rfl, hE⟩ := hpre
  rw [lg_entry_eq]
  exact body p e s m below meth c _ B.exec B.bytes hml B.returns B.notSynchronized (findClass_of_methodNamed B.named) (fun w hw => atoms_spec (ws := am_mw M) B.pre w (List.mem_cons_of_mem _ hw)) hE (lv_entry as hlen)
theorem tx_after {p : Program} {e : Env} {R : Room} {s : State} {m : MethodId} {args a : Array Value} {below : List Frame} {meth : Method} {c : Code} {H : Heap} {locs : List Loc} {cells slots pc : Nat} {Q : State → Prop} {ls : Array Slot} {st0 rest : List Value} {v : Option Value}
    (hr : va_Run p l e R s m args below meth c H locs cells slots 0 0 (F0 m pc ls st0) rest (tx_Qc v a) (fun _ => False))
    (kk : W p l e R s m args below meth c H locs cells slots Q (F0 m (pc + 3) ls (v.toList ++ rest))) : W p l e R s m args below meth c H locs cells slots Q (F0 m pc ls st0) := by
  intro T hT X
  obtain ⟨v', st₀, t, T', L', h0, X', hL, e1, e2, ⟨hv, hh⟩, st⟩ := hr T hT X
  cases hv
  obtain ⟨t2, a1, b1⟩ := kk T' (by rw [e1, hh, h0]) (Stand.forget X' (fun q h => (hL q h).elim))
  exact ⟨t2, st t2 a1, b1⟩
theorem tx_room {k k' maxL : Nat} (h1 : k' + 1 ≤ k) (h2 : maxL ≤ 40) : (tx_rm k').frames + 1 ≤ (tx_rm k).frames ∧ 8 + (maxL + 11) + (tx_rm k').locals ≤ (tx_rm k).locals := by
  have e1 : (tx_rm k).frames = k := rfl
  have e2 : (tx_rm k).locals = 64 * k := rfl
  have e3 : (tx_rm k').frames = k' := rfl
  have e4 : (tx_rm k').locals = 64 * k' := rfl
  rw [e1, e2, e3, e4]
  omega
theorem tx_cod {i : Nat} (hi : i < 2) : Met l mt_cod.1 (am_mw mt_cod) (tx_rm 1) (tx_Pc sp base [.ref (sp (2 + i))]) (tx_Qc (some (.int 0))) 0 0 (fun _ => False) := by
  refine tx_met (by decide) (Nat.le_of_ble_eq_true rfl) ?_
  intro p e s m below meth c ls hx hb hml hr hlocks hown hts hE hl
  obtain ⟨-, -, hT, hZ, -⟩ := hE
  have hl : lv_has ls 1 [(0, .ref (sp (2 + i)))] := hl
  have hS : va_S (fun q => base ≤ q) s.heap s.heap [] := va_S.rf
  refine va_gets (ref := "java/lang/String") hx hb hZ hS hown (hts _ mt_f38) (fun _ h => h) (by decide +kernel : decode mt_cod.2.1 0 = .ok (.getstatic 38, 3)) ?_
  refine lv_if_eq (tgt := 13) hx hb (by decide +kernel : decode mt_cod.2.1 3 = .ok (.ifCond .eq 10, 3)) (by decide) (fun h => absurd h (by decide)) (fun _ => ?_)
  refine lv_aload_n hx hb (by decide +kernel : decode mt_cod.2.1 6 = .ok (.aload_n 0, 1)) rfl (lv_at hl 0 rfl) ?_
  refine vk_getf (ref := "java/lang/String") hx hb (hT.1 i hi).2.1 hS hown (hts _ mt_f15) (fun _ h => h) (by decide +kernel : decode mt_cod.2.1 7 = .ok (.getfield 15, 3)) ?_
  refine lv_goto (tgt := 14) hx hb (by decide +kernel : decode mt_cod.2.1 10 = .ok (.goto 4, 3)) (by decide) ?_
  exact W.zret (ty := .byte) hx hb hr rfl (fun t ht hW => ⟨rfl, ht⟩) (fun q h => by cases h) (by decide +kernel : decode mt_cod.2.1 14 = .ok (.ireturn, 1)) hlocks
theorem tx_lat {i : Nat} (hi : i < 2) : Met l mt_lat.1 (am_mw mt_lat) (tx_rm 1) (tx_Pc sp base [.ref (sp (2 + i))]) (tx_Qc (some (.int 1))) 0 0 (fun _ => False) := by
  refine tx_met (by decide) (Nat.le_of_ble_eq_true rfl) ?_
  intro p e s m below meth c ls hx hb hml hr hlocks hown hts hE hl
  obtain ⟨-, -, hT, hZ, -⟩ := hE
  have hl : lv_has ls 1 [(0, .ref (sp (2 + i)))] := hl
  have hS : va_S (fun q => base ≤ q) s.heap s.heap [] := va_S.rf
  refine va_gets (ref := "java/lang/String") hx hb hZ hS hown (hts _ mt_f38) (fun _ h => h) (by decide +kernel : decode mt_lat.2.1 0 = .ok (.getstatic 38, 3)) ?_
  refine lv_if_eq (tgt := 17) hx hb (by decide +kernel : decode mt_lat.2.1 3 = .ok (.ifCond .eq 14, 3)) (by decide) (fun h => absurd h (by decide)) (fun _ => ?_)
  refine lv_aload_n hx hb (by decide +kernel : decode mt_lat.2.1 6 = .ok (.aload_n 0, 1)) rfl (lv_at hl 0 rfl) ?_
  refine vk_getf (ref := "java/lang/String") hx hb (hT.1 i hi).2.1 hS hown (hts _ mt_f15) (fun _ h => h) (by decide +kernel : decode mt_lat.2.1 7 = .ok (.getfield 15, 3)) ?_
  refine lv_if_ne (tgt := 17) hx hb (by decide +kernel : decode mt_lat.2.1 10 = .ok (.ifCond .ne 7, 3)) (by decide) (fun h => absurd rfl h) (fun _ => ?_)
  refine lv_iconst (v := 1) hx hb (by decide +kernel : decode mt_lat.2.1 13 = .ok (.iconst 1, 1)) (by decide) ?_
  refine lv_goto (tgt := 18) hx hb (by decide +kernel : decode mt_lat.2.1 14 = .ok (.goto 4, 3)) (by decide) ?_
  exact W.zret (ty := .boolean) hx hb hr rfl (fun t ht hW => ⟨rfl, ht⟩) (fun q h => by cases h) (by decide +kernel : decode mt_lat.2.1 18 = .ok (.ireturn, 1)) hlocks
theorem tx_len {i : Nat} (hi : i < 2) : Met l mt_len.1 (am_mw mt_len) (tx_rm 2) (tx_Pc sp base [.ref (sp (2 + i))]) (tx_Qc (some (.int (Int32.ofNat ([4, 3].getD i 0))))) 0 0 (fun _ => False) := by
  refine tx_met (by decide) (Nat.le_of_ble_eq_true rfl) ?_
  intro p e s m below meth c ls hx hb hml hr hlocks hown hts hE hl
  have hE0 := hE
  obtain ⟨-, -, hT, hZ, -⟩ := hE
  have hl : lv_has ls 1 [(0, .ref (sp (2 + i)))] := hl
  have hS : va_S (fun q => base ≤ q) s.heap s.heap [] := va_S.rf
  obtain ⟨cell, g1, g2, g3, g4, g5, g6, g7⟩ := (hT.1 i hi).2.2.2
  refine lv_aload_n hx hb (by decide +kernel : decode mt_len.2.1 0 = .ok (.aload_n 0, 1)) rfl (lv_at hl 0 rfl) ?_
  refine vk_getf (ref := "java/lang/String") hx hb (hT.1 i hi).2.2.1 hS hown (hts _ mt_f9) (fun _ h => h) (by decide +kernel : decode mt_len.2.1 1 = .ok (.getfield 9, 3)) ?_
  refine W.alen (n := Int32.ofNat ([4, 3].getD i 0)) hx hb g1 g2 g5 rfl rfl (by decide +kernel : decode mt_len.2.1 4 = .ok (.arraylength, 1)) ?_
  refine lv_aload_n hx hb (by decide +kernel : decode mt_len.2.1 5 = .ok (.aload_n 0, 1)) rfl (lv_at hl 0 rfl) ?_
  refine tx_after (rest := [.int (Int32.ofNat ([4, 3].getD i 0))]) (va_runV (C := "java/lang/String") (As := []) (b := sp (2 + i)) ⟨hx, hb, hml, hown, hts⟩ (tx_cod hi) ⟨callB_of (own := "java/lang/String") 0 hts (am_goodIn mt_cod_c) (am_mw_eq mt_cod) rfl rfl (hts _ mt_iS) (hts _ mt_k335) (by decide +kernel) (tx_room (by decide) (by decide)), hts _ mt_cod_s, hts _ mt_cod_l⟩ ⟨tx_blind, vk_recv (adK := fun i => sp (2 + i)) (i := i) hT hi hS, fun U hU hW => ⟨rfl, hE0.warm hW (fun _ _ _ => by rw [hU])⟩⟩ rfl rfl hl.1 rfl (lv_room (Nat.le_of_ble_eq_true rfl)) (by decide +kernel : decode mt_len.2.1 6 = .ok (.invokevirtual 335, 3)) ⟨Nat.le_refl _, Nat.le_refl _⟩) ?_
  refine lv_ishr hx hb (by decide +kernel : decode mt_len.2.1 9 = .ok (.ishr, 1)) ?_
  have e9 : Int32.ofNat ([4, 3].getD i 0) >>> ((0 : Int32) &&& 31) = Int32.ofNat ([4, 3].getD i 0) := by
    rcases (show i = 0 ∨ i = 1 by omega) with rfl | rfl <;> decide
  rw [e9]
  exact W.iret hx hb hr (fun t ht hW => ⟨rfl, ht⟩) (fun q h => by cases h) (by decide +kernel : decode mt_len.2.1 10 = .ok (.ireturn, 1)) hlocks
theorem tx_pre {a n : Int32} {v : Value} (hv : v = .null ∨ ∃ t, v = .ref t) (h0 : ¬ a < 0) (h1 : a < n) : Met l mt_pre.1 (am_mw mt_pre) (tx_rm 1) (tx_Pc sp base [.int a, .int n, v]) (tx_Qc (some (.int a))) 0 0 (fun _ => False) := by
  have hlv : (lg_sl [.int a, .int n, v]).length ≤ 3 ∧ lv_args 0 [.int a, .int n, v] = [(0, .int a), (1, .int n), (2, v)] := by
    rcases hv with rfl | ⟨t, rfl⟩ <;> exact ⟨Nat.le_of_ble_eq_true rfl, rfl⟩
  refine tx_met (by decide) hlv.1 ?_
  intro p e s m below meth c ls hx hb hml hr hlocks hown hts hE hl
  rw [hlv.2] at hl
  have hl : lv_has ls 3 [(0, .int a), (1, .int n), (2, v)] := hl
  refine lv_iload_n hx hb (by decide +kernel : decode mt_pre.2.1 0 = .ok (.iload_n 0, 1)) rfl (lv_at hl 0 rfl) ?_
  refine lv_if_lt (tgt := 9) hx hb (by decide +kernel : decode mt_pre.2.1 1 = .ok (.ifCond .lt 8, 3)) (by decide) (fun h => absurd h h0) (fun _ => ?_)
  refine lv_iload_n hx hb (by decide +kernel : decode mt_pre.2.1 4 = .ok (.iload_n 0, 1)) rfl (lv_at hl 0 rfl) ?_
  refine lv_iload_n hx hb (by decide +kernel : decode mt_pre.2.1 5 = .ok (.iload_n 1, 1)) rfl (lv_at hl 1 rfl) ?_
  refine lv_icmp_lt (tgt := 16) hx hb (by decide +kernel : decode mt_pre.2.1 6 = .ok (.if_icmp .lt 10, 3)) (by decide) (fun _ => ?_) (fun h => absurd h1 h)
  refine lv_iload_n hx hb (by decide +kernel : decode mt_pre.2.1 16 = .ok (.iload_n 0, 1)) rfl (lv_at hl 0 rfl) ?_
  exact W.iret hx hb hr (fun t ht hW => ⟨rfl, ht⟩) (fun q h => by cases h) (by decide +kernel : decode mt_pre.2.1 17 = .ok (.ireturn, 1)) hlocks
theorem tx_chk {a n : Int32} (h0 : ¬ a < 0) (h1 : a < n) : Met l mt_chk.1 (am_mw mt_chk) (tx_rm 2) (tx_Pc sp base [.int a, .int n]) (tx_Qc none) 0 0 (fun _ => False) := by
  refine tx_met (by decide) (Nat.le_of_ble_eq_true rfl) ?_
  intro p e s m below meth c ls hx hb hml hr hlocks hown hts hE hl
  have hE0 := hE
  obtain ⟨-, -, -, -, hq, -⟩ := hE
  have hl : lv_has ls 2 [(0, .int a), (1, .int n)] := hl
  have hS : va_S (fun q => base ≤ q) s.heap s.heap [] := va_S.rf
  refine lv_iload_n hx hb (by decide +kernel : decode mt_chk.2.1 0 = .ok (.iload_n 0, 1)) rfl (lv_at hl 0 rfl) ?_
  refine lv_iload_n hx hb (by decide +kernel : decode mt_chk.2.1 1 = .ok (.iload_n 1, 1)) rfl (lv_at hl 1 rfl) ?_
  have key : ∀ v : Value, (v = .null ∨ ∃ t, v = .ref t) → va_Z "jdk/internal/util/Preconditions" "SIOOBE_FORMATTER" "Ljava/util/function/BiFunction;" v (fun q => base ≤ q) s s.heap → W p l e (tx_rm 2) s m [Value.int a, Value.int n].toArray below meth c s.heap [] 0 0 (MQ below (tx_Qc none) [Value.int a, Value.int n].toArray s 0 0 (fun _ => False)) (F0 m 2 ls [.int n, .int a]) := by
    intro v hv hZ
    refine va_gets (ref := "jdk/internal/util/Preconditions") hx hb hZ hS hown (hts _ mt_f1053) (fun _ h => h) (by decide +kernel : decode mt_chk.2.1 2 = .ok (.getstatic 1053, 3)) ?_
    refine tx_after (rest := []) (va_runS (As := [.int a, .int n, v]) ⟨hx, hb, hml, hown, hts⟩ (tx_pre hv h0 h1) ⟨callB_of (own := "java/lang/String") 3 hts (am_goodIn mt_pre_c) (am_mw_eq mt_pre) rfl rfl (hts _ mt_iP) (hts _ mt_k1059) (by decide +kernel) (tx_room (by decide) (by decide)), hts _ mt_pre_s⟩ ⟨tx_blind, fun U hU hW => ⟨rfl, hE0.warm hW (fun _ _ _ => by rw [hU])⟩⟩ rfl rfl hl.1 rfl (lv_room (Nat.le_of_ble_eq_true rfl)) (by decide +kernel : decode mt_chk.2.1 5 = .ok (.invokestatic 1059, 3)) ⟨Nat.le_refl _, Nat.le_refl _⟩) ?_
    refine lv_pop (va := .int a) hx hb (by decide +kernel : decode mt_chk.2.1 8 = .ok (.pop, 1)) rfl ?_
    exact W.vret hx hb hr (fun t ht hW => ⟨rfl, ht⟩) (fun q h => by cases h) (by decide +kernel : decode mt_chk.2.1 9 = .ok (.return_, 1)) hlocks
  rcases hq with hq | ⟨t, hq⟩
  · exact key _ (Or.inl rfl) hq
  · exact key _ (Or.inr ⟨t, rfl⟩) hq
/-- a sign of a text, as charAt gives it -/
theorem tx_sign : ∀ i, i < 2 → ∀ j, j < [4, 3].getD i 0 → ((((([[103, 114, 105, 100], [114, 111, 119]] : List (List Int32)).getD i []).getD j 0) &&& 255).toUInt32 % 65536).toInt32 = (tx_tx i).getD j 0 ∧ narrow .char (.int ((tx_tx i).getD j 0)) = .int ((tx_tx i).getD j 0) := by decide
theorem tx_cha {i j : Nat} (hi : i < 2) (hj : j < [4, 3].getD i 0) : Met l mt_cha.1 (am_mw mt_cha) (tx_rm 3) (tx_Pc sp base [.ref (sp (6 + i)), .int (nI j)]) (tx_Qc (some (.int ((tx_tx i).getD j 0)))) 0 0 (fun _ => False) := by
  have hj5 : j < 5 := by
    rcases (show i = 0 ∨ i = 1 by omega) with rfl | rfl
    · exact Nat.lt_of_lt_of_le hj (by decide)
    · exact Nat.lt_of_lt_of_le hj (by decide)
  have h0 : ¬ nI j < 0 := nI_pos (by omega)
  have h1 : nI j < Int32.ofNat ([4, 3].getD i 0) := nI_lt hj (by rcases (show i = 0 ∨ i = 1 by omega) with rfl | rfl <;> decide)
  have hcl : (nI j).toNatClampNeg = j := nI_clamp (by omega)
  refine tx_met (by decide) (Nat.le_of_ble_eq_true rfl) ?_
  intro p e s m below meth c ls hx hb hml hr hlocks hown hts hE hl
  have hE0 := hE
  obtain ⟨-, -, hT, -⟩ := hE
  have hl : lv_has ls 2 [(0, .ref (sp (6 + i))), (1, .int (nI j))] := hl
  obtain ⟨cell, g1, g2, g3, g4, g5, g6, g7⟩ := (hT.1 i hi).2.2.2
  refine lv_iload_n hx hb (by decide +kernel : decode mt_cha.2.1 0 = .ok (.iload_n 1, 1)) rfl (lv_at hl 1 rfl) ?_
  refine lv_aload_n hx hb (by decide +kernel : decode mt_cha.2.1 1 = .ok (.aload_n 0, 1)) rfl (lv_at hl 0 rfl) ?_
  refine W.alen (n := Int32.ofNat ([4, 3].getD i 0)) hx hb g1 g2 g5 rfl rfl (by decide +kernel : decode mt_cha.2.1 2 = .ok (.arraylength, 1)) ?_
  refine tx_after (rest := []) (va_runS (As := [.int (nI j), .int (Int32.ofNat ([4, 3].getD i 0))]) ⟨hx, hb, hml, hown, hts⟩ (tx_chk h0 h1) ⟨callB_of (own := "java/lang/StringLatin1") 2 hts (am_goodIn mt_chk_c) (am_mw_eq mt_chk) rfl rfl (hts _ mt_iS) (hts _ mt_k9) (by decide +kernel) (tx_room (by decide) (by decide)), hts _ mt_chk_s⟩ ⟨tx_blind, fun U hU hW => ⟨rfl, hE0.warm hW (fun _ _ _ => by rw [hU])⟩⟩ rfl rfl hl.1 rfl (lv_room (Nat.le_of_ble_eq_true rfl)) (by decide +kernel : decode mt_cha.2.1 3 = .ok (.invokestatic 9, 3)) ⟨Nat.le_refl _, Nat.le_refl _⟩) ?_
  refine lv_aload_n hx hb (by decide +kernel : decode mt_cha.2.1 6 = .ok (.aload_n 0, 1)) rfl (lv_at hl 0 rfl) ?_
  refine lv_iload_n hx hb (by decide +kernel : decode mt_cha.2.1 7 = .ok (.iload_n 1, 1)) rfl (lv_at hl 1 rfl) ?_
  refine W.bald (v := .int (((([[103, 114, 105, 100], [114, 111, 119]] : List (List Int32)).getD i []).getD j 0))) hx hb g1 g2 g3 (by rw [hcl]; exact fun z => z.elim (fun y => h0 y) (fun y => absurd (Nat.le_trans g4 y) (Nat.not_le.mpr hj))) (by rw [hcl]; exact g6 j hj) rfl rfl (by decide +kernel : decode mt_cha.2.1 8 = .ok (.baload, 1)) ?_
  refine lv_sipush (v := 255) hx hb (by decide +kernel : decode mt_cha.2.1 9 = .ok (.sipush 255, 3)) (by decide) ?_
  refine lv_iand hx hb (by decide +kernel : decode mt_cha.2.1 12 = .ok (.iand, 1)) ?_
  refine lv_i2c hx hb (by decide +kernel : decode mt_cha.2.1 13 = .ok (.i2c, 1)) (tx_sign i hi j hj).1 ?_
  exact W.zret (ty := .char) hx hb hr (tx_sign i hi j hj).2 (fun t ht hW => ⟨rfl, ht⟩) (fun q h => by cases h) (by decide +kernel : decode mt_cha.2.1 14 = .ok (.ireturn, 1)) hlocks
theorem tx_chr {i j : Nat} (hi : i < 2) (hj : j < [4, 3].getD i 0) : Met l mt_chr.1 (am_mw mt_chr) (tx_rm 4) (tx_Pc sp base [.ref (sp (2 + i)), .int (nI j)]) (tx_Qc (some (.int ((tx_tx i).getD j 0)))) 0 0 (fun _ => False) := by
  refine tx_met (by decide) (Nat.le_of_ble_eq_true rfl) ?_
  intro p e s m below meth c ls hx hb hml hr hlocks hown hts hE hl
  have hE0 := hE
  obtain ⟨-, -, hT, -⟩ := hE
  have hl : lv_has ls 2 [(0, .ref (sp (2 + i))), (1, .int (nI j))] := hl
  have hS : va_S (fun q => base ≤ q) s.heap s.heap [] := va_S.rf
  refine lv_aload_n hx hb (by decide +kernel : decode mt_chr.2.1 0 = .ok (.aload_n 0, 1)) rfl (lv_at hl 0 rfl) ?_
  refine tx_after (rest := []) (va_runV (C := "java/lang/String") (As := []) (b := sp (2 + i)) ⟨hx, hb, hml, hown, hts⟩ (tx_lat hi) ⟨callB_of (own := "java/lang/String") 0 hts (am_goodIn mt_lat_c) (am_mw_eq mt_lat) rfl rfl (hts _ mt_iS) (hts _ mt_k492) (by decide +kernel) (tx_room (by decide) (by decide)), hts _ mt_lat_s, hts _ mt_lat_l⟩ ⟨tx_blind, vk_recv (adK := fun i => sp (2 + i)) (i := i) hT hi hS, fun U hU hW => ⟨rfl, hE0.warm hW (fun _ _ _ => by rw [hU])⟩⟩ rfl rfl hl.1 rfl (lv_room (Nat.le_of_ble_eq_true rfl)) (by decide +kernel : decode mt_chr.2.1 1 = .ok (.invokevirtual 492, 3)) ⟨Nat.le_refl _, Nat.le_refl _⟩) ?_
  refine lv_if_eq (tgt := 16) hx hb (by decide +kernel : decode mt_chr.2.1 4 = .ok (.ifCond .eq 12, 3)) (by decide) (fun h => absurd h (by decide)) (fun _ => ?_)
  refine lv_aload_n hx hb (by decide +kernel : decode mt_chr.2.1 7 = .ok (.aload_n 0, 1)) rfl (lv_at hl 0 rfl) ?_
  refine vk_getf (ref := "java/lang/String") hx hb (hT.1 i hi).2.2.1 hS hown (hts _ mt_f9) (fun _ h => h) (by decide +kernel : decode mt_chr.2.1 8 = .ok (.getfield 9, 3)) ?_
  refine lv_iload_n hx hb (by decide +kernel : decode mt_chr.2.1 11 = .ok (.iload_n 1, 1)) rfl (lv_at hl 1 rfl) ?_
  refine tx_after (rest := []) (va_runS (As := [.ref (sp (6 + i)), .int (nI j)]) ⟨hx, hb, hml, hown, hts⟩ (tx_cha hi hj) ⟨callB_of (own := "java/lang/String") 2 hts (am_goodIn mt_cha_c) (am_mw_eq mt_cha) rfl rfl (hts _ mt_iL) (hts _ mt_k495) (by decide +kernel) (tx_room (by decide) (by decide)), hts _ mt_cha_s⟩ ⟨tx_blind, fun U hU hW => ⟨rfl, hE0.warm hW (fun _ _ _ => by rw [hU])⟩⟩ rfl rfl hl.1 rfl (lv_room (Nat.le_of_ble_eq_true rfl)) (by decide +kernel : decode mt_chr.2.1 12 = .ok (.invokestatic 495, 3)) ⟨Nat.le_refl _, Nat.le_refl _⟩) ?_
  exact W.zret (ty := .char) hx hb hr (tx_sign i hi j hj).2 (fun t ht hW => ⟨rfl, ht⟩) (fun q h => by cases h) (by decide +kernel : decode mt_chr.2.1 15 = .ok (.ireturn, 1)) hlocks
end TXT
section AMT
variable {p : Program} {l : Launch} {e : Env} {R : Room} {s : State} {m : MethodId} {args : Array Value} {below : List Frame} {meth : Method} {c : Code} {H : Heap} {locs : List Loc} {cells slots : Nat} {Q : State → Prop}
variable {D : va_G} {dA : Nat → ClassId} {sp : Nat → Nat} {base L : Nat} {xs : Nat → Int32} {w : am_W} {M : am_M} {pc : Nat} {ls : Array Slot} {rest : List Value}
theorem am_rldc (hx : p.tables.exec = Jvm.exec) (hb : c.code = M.2.1) (hown : s.vm.findClass (am_cn M.2.2.2.2.1) = some m.cls) (hE : am_env D dA sp base L xs s) {k x : Nat} (ho : (M.2.2.2.2.1 = 3 ∧ k = 65 ∧ x = 2) ∨ (M.2.2.2.2.1 = 3 ∧ k = 74 ∧ x = 3)) (hdg : decode M.2.1 pc = .ok (.ldc k, 2))
    (kk : W p l e R s m args below meth c H locs cells slots Q (F0 m (pc + 2) ls (.ref (am_ad sp base x) :: rest))) : W p l e R s m args below meth c H locs cells slots Q (F0 m pc ls rest) := by
  have hX := hE.2.2.2.2.2
  rcases ho with ⟨h3, rfl, rfl⟩ | ⟨h3, rfl, rfl⟩
  · rw [h3] at hown
    exact va_ldcS hx hb hown hX.1.1 hdg kk
  · rw [h3] at hown
    exact va_ldcS hx hb hown hX.1.2 hdg kk
theorem am_two {w : am_W} (hs : am_sw L xs w) {i n : Nat} {f : Nat → Int32} (h : am_ar w i = some (9, n, .inl f)) (h8 : i < 8) : ∃ q, q < 2 ∧ i = 2 + q ∧ n = [4, 3].getD q 0 ∧ ∀ j, j < n → f j = (tx_tx q).getD j 0 := by
  have h := am_ar_eq h
  obtain ⟨h0, h1, h2, h3, h4⟩ := hs
  rcases (show i = 0 ∨ i = 1 ∨ i = 2 ∨ i = 3 ∨ 4 ≤ i by omega) with rfl | rfl | rfl | rfl | h5
  · rw [h0] at h; cases h
  · rw [h1] at h; cases h
  · rw [h2] at h
    cases h
    exact ⟨0, by decide, rfl, rfl, fun j _ => rfl⟩
  · rw [h3] at h
    cases h
    exact ⟨1, by decide, rfl, rfl, fun j _ => rfl⟩
  · rw [h4 i h5 h8] at h; cases h
theorem am_rtl (hx : p.tables.exec = Jvm.exec) (hb : c.code = M.2.1) (hml : c.maxLocals = M.2.2.1) (hown : s.vm.findClass (am_cn M.2.2.2.2.1) = some m.cls) (hts : ∀ w ∈ am_tbl, w.before args s = true) (hE : am_env D dA sp base L xs s) (hb0 : base ≤ s.heap.size) {k : Nat} (ho : M.2.2.2.2.1 = 3 ∧ k = 114) (hls : ls.size = M.2.2.1) (hrf : 16 ≤ R.frames) (hrl : 1024 ≤ R.locals) (hrc : cells ≤ R.cells) (hrs : slots ≤ R.slots) (hR : am_R D dA sp base L xs w H) (hS : va_S (fun q => base ≤ q) s.heap H locs) (hr : (rest.map fun v => v.category).sum ≤ 8) {i : Nat} {x : Int32} (h : am_tl w i = some x) (hdg : decode M.2.1 pc = .ok (.invokevirtual k, 3))
    (kk : W p l e R s m args below meth c H locs cells slots Q (F0 m (pc + 3) ls (.int x :: rest))) : W p l e R s m args below meth c H locs cells slots Q (F0 m pc ls (.ref (am_ad sp base i) :: rest)) := by
  obtain ⟨h3, rfl⟩ := ho
  rw [h3] at hown
  unfold am_tl at h
  split at h
  · next n f ha =>
    split at h
    · next h8 =>
      cases h
      obtain ⟨q, hq, rfl, rfl, -⟩ := am_two hR.2.2 ha h8
      have hX := hE.2.2.2.2.2
      have ead : am_ad sp base (2 + q) = sp (2 + q) := by unfold am_ad; rw [if_pos h8]
      rw [ead]
      refine tx_after (rest := rest) (va_runV (C := "java/lang/String") (As := []) (b := sp (2 + q)) ⟨hx, hb, hml, hown, hts⟩ (tx_len hq) ⟨callB_of (own := am_cn 3) 0 hts (am_goodIn mt_len_c) (am_mw_eq mt_len) rfl rfl (hts _ mt_iS) (hts _ mt_k114) (by decide +kernel) ⟨?_, ?_⟩, hts _ mt_len_s, hts _ mt_len_l⟩ ⟨tx_blind, vk_recv (adK := fun i => sp (2 + i)) (i := q) hX.2.2.1 hq hS, fun U hU hW => ⟨rfl, hX.warm hW (fun a h1 h2 => by rw [hU]; exact hS.2.1 a h1 h2)⟩⟩ rfl rfl hls rfl (lv_room hr) hdg ⟨hrc, hrs⟩) kk
      · show 2 + 1 ≤ R.frames
        omega
      · show 8 + (1 + 11) + 64 * 2 ≤ R.locals
        omega
    · cases h
  · cases h
theorem am_rtc (hx : p.tables.exec = Jvm.exec) (hb : c.code = M.2.1) (hml : c.maxLocals = M.2.2.1) (hown : s.vm.findClass (am_cn M.2.2.2.2.1) = some m.cls) (hts : ∀ w ∈ am_tbl, w.before args s = true) (hE : am_env D dA sp base L xs s) (hb0 : base ≤ s.heap.size) {k : Nat} (ho : M.2.2.2.2.1 = 3 ∧ k = 117) (hls : ls.size = M.2.2.1) (hrf : 16 ≤ R.frames) (hrl : 1024 ≤ R.locals) (hrc : cells ≤ R.cells) (hrs : slots ≤ R.slots) (hR : am_R D dA sp base L xs w H) (hS : va_S (fun q => base ≤ q) s.heap H locs) (hr : (rest.map fun v => v.category).sum ≤ 8) {i : Nat} {j x : Int32} (h : am_tc w i j = some x) (hdg : decode M.2.1 pc = .ok (.invokevirtual k, 3))
    (kk : W p l e R s m args below meth c H locs cells slots Q (F0 m (pc + 3) ls (.int x :: rest))) : W p l e R s m args below meth c H locs cells slots Q (F0 m pc ls (.int j :: .ref (am_ad sp base i) :: rest)) := by
  obtain ⟨h3, rfl⟩ := ho
  rw [h3] at hown
  unfold am_tc at h
  split at h
  · next n f ha =>
    split at h
    · cases h
    · next hj =>
      cases h
      have h8 : i < 8 := Nat.not_le.mp fun z => hj (Or.inr (Or.inr z))
      obtain ⟨q, hq, rfl, rfl, hf⟩ := am_two hR.2.2 ha h8
      have hX := hE.2.2.2.2.2
      have ead : am_ad sp base (2 + q) = sp (2 + q) := by unfold am_ad; rw [if_pos h8]
      have hlt : j.toNatClampNeg < [4, 3].getD q 0 := Nat.not_le.mp fun z => hj (Or.inr (Or.inl z))
      obtain ⟨a, ha2, ha3⟩ := nI_of (x := j) (fun z => hj (Or.inl z))
      have hcl : (nI a).toNatClampNeg = a := nI_clamp ha2
      subst ha3
      rw [hcl] at hlt kk
      rw [hf a hlt] at kk
      rw [ead]
      refine tx_after (rest := rest) (va_runV (C := "java/lang/String") (As := [.int (nI a)]) (b := sp (2 + q)) ⟨hx, hb, hml, hown, hts⟩ (tx_chr hq hlt) ⟨callB_of (own := am_cn 3) 1 hts (am_goodIn mt_chr_c) (am_mw_eq mt_chr) rfl rfl (hts _ mt_iS) (hts _ mt_k117) (by decide +kernel) ⟨?_, ?_⟩, hts _ mt_chr_s, hts _ mt_chr_l⟩ ⟨tx_blind, vk_recv (adK := fun i => sp (2 + i)) (i := q) hX.2.2.1 hq hS, fun U hU hW => ⟨rfl, hX.warm hW (fun a h1 h2 => by rw [hU]; exact hS.2.1 a h1 h2)⟩⟩ rfl rfl hls rfl (lv_room hr) hdg ⟨hrc, hrs⟩) kk
      · show 4 + 1 ≤ R.frames
        omega
      · show 8 + (2 + 11) + 64 * 4 ≤ R.locals
        omega
  · cases h
end AMT

