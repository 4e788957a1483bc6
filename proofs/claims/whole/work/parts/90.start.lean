/-! THE CLAIM OUT OF ONE WALK OF THE LAW'S BODY. Your part is whole_start (and what it stands on); all else here is the same for every law, but numbers. -/
def R_law : String := "GridColoursLaw"
def lw_P (b : Addr) (xs : List Int32) (args : Array Value) (s : State) : Prop := args = #[.ref b] ∧ s.IntsAt b xs ∧ xs.length ≤ 3072 ∧ (Jvm.Cond.and given_1 narrow_1).before args s = true
def lw_Q (_ : Array Value) (s : State) (o : Outcome) (t : State) : Prop := o = .returned (some (.int 1)) ∧ Framed s o t [] 601024 7293034
def lw_Z (below : List Frame) (a : Array Value) (s : State) : State → Prop := fun t => ∃ o, t.status = .running ∧ Ended t below o ∧ lw_Q a s o t
/-- the law's own end, with 1 on the stack, nothing written that was there before, its room as the claim has it -/
theorem lw_ret {p : Program} {l : Launch} {e : Env} {s : State} {m : MethodId} {below : List Frame} {meth : Method} {c : Code} {b : Nat} (hx : p.tables.exec = Jvm.exec) (hb : c.code = code) (hr : meth.sig.returnType = ret) (hlocks : meth.locks = false) {pc : Nat} {H : Heap} {ls : Array Slot} (hdg : decode code pc = .ok (.ireturn, 1)) : W p l e room_1 s m #[Value.ref b] below meth c H [] 601024 7293034 (lw_Z below #[Value.ref b] s) (F0 m pc ls [.int 1]) := by
  intro T hT X
  obtain ⟨fs, hret, hrun, hended, hW, hframe⟩ := X.leave (v := some (.int 1)) (hlocks := hlocks) (fun h => by rw [hr] at h; cases h)
  have hmeth' : T.vm.method? m = some meth := X.method'
  refine ⟨T.setFrames fs, ?_, .returned (some (.int 1)), hrun, hended, rfl, ⟨_, rfl⟩, hW, hframe⟩
  jvm_step X.here [X.here.top, hx, hb, hdg, hmeth', hr, ret, narrow_b1]
  (try refine ⟨rfl, ?_⟩); (try refine ⟨rfl, ?_⟩)
  first | (intro acts; rw [hret _ acts rfl rfl rfl]) | rw [hret _ _ rfl rfl rfl]
  exact Steps.refl _
/-- what holds at the law's entry: the machine, the code, the tables' words (any of lw_tbl by 'hts w (by decide +kernel)'), the script of L ints xs at the cell b, what the Statement gives of the start (any of its parts by flat_of_before) -/
def lw_At (p : Program) (s : State) (m : MethodId) (meth : Method) (c : Code) (b L : Nat) (xs : Nat → Int32) : Prop :=
  p.tables.exec = Jvm.exec ∧ c.code = code ∧ meth.sig.returnType = ret ∧ c.maxLocals = 8 ∧ s.vm.findClass R_law = some m.cls ∧ (∀ w ∈ lw_tbl, w.before #[Value.ref b] s = true) ∧ va_X b L xs s s.heap ∧ b < s.heap.size ∧ meth.locks = false ∧ (Jvm.Cond.and given_1 narrow_1).before #[Value.ref b] s = true
theorem am_w0_sw (L : Nat) (xs : Nat → Int32) : am_sw L xs (am_w0 L xs) := by
  refine ⟨rfl, rfl, rfl, rfl, fun i h1 h2 => ?_⟩
  rcases (show i = 4 ∨ i = 5 ∨ i = 6 ∨ i = 7 by omega) with rfl | rfl | rfl | rfl <;> rfl
theorem am_w0_R {D : va_G} {dA : Nat → ClassId} {sp : Nat → Nat} (L : Nat) (xs : Nat → Int32) (H : Heap) : am_R D dA sp H.size L xs (am_w0 L xs) H := by
  refine ⟨fun i x h8 hx => ?_, ⟨Nat.le_refl 8, Nat.le_refl _⟩, am_w0_sw L xs⟩
  have h9 : i < 8 := (List.getElem?_eq_some_iff.mp hx).1
  omega
def st_oc : Term := .static "GridColours" "OPEN_CELLS" "[I"
theorem st_el : ∀ j, j < 48 → (Cond.eq (.elem st_oc (.int (Int32.ofNat j))) (.int (am_oc j))) ∈ flatC (Jvm.Cond.and given_1 narrow_1) := by decide +kernel
def st_tm (i : Nat) : Term := .string "GridColours$Reader" (if i = 0 then 65 else 74)
theorem st_s1 : ∀ i, i < 2 → (Cond.exactly (st_tm i) "java/lang/String") ∈ flatC (Jvm.Cond.and given_1 narrow_1) := by decide +kernel
theorem st_s2 : ∀ i, i < 2 → (Cond.eq (.field (st_tm i) "java/lang/String" "coder" "B") (.int 0)) ∈ flatC (Jvm.Cond.and given_1 narrow_1) := by decide +kernel
theorem st_s3 : ∀ i, i < 2 → (Cond.arrayOf (.field (st_tm i) "java/lang/String" "value" "[B") .byte) ∈ flatC (Jvm.Cond.and given_1 narrow_1) := by decide +kernel
theorem st_s4 : ∀ i, i < 2 → (Cond.eq (.length (.field (st_tm i) "java/lang/String" "value" "[B")) (.int (Int32.ofNat ([4, 3].getD i 0)))) ∈ flatC (Jvm.Cond.and given_1 narrow_1) := by decide +kernel
theorem st_s5 : ∀ i, i < 2 → ∀ j, j < [4, 3].getD i 0 → (Cond.eq (.elem (.field (st_tm i) "java/lang/String" "value" "[B") (.int (Int32.ofNat j))) (.int ((([[103, 114, 105, 100], [114, 111, 119]] : List (List Int32)).getD i []).getD j 0))) ∈ flatC (Jvm.Cond.and given_1 narrow_1) := by decide +kernel
theorem st_s6 : (Cond.not (Cond.eq (st_tm 0) (st_tm 1))) ∈ flatC (Jvm.Cond.and given_1 narrow_1) := by decide +kernel
theorem st_w1 : (Cond.laysStatic "GridColours" "OPEN_CELLS" "[I") ∈ lw_tbl ∧ (Cond.initialized "GridColours") ∈ lw_tbl := by decide +kernel
theorem st_w2 : (Cond.laysStatic "java/lang/String" "COMPACT_STRINGS" "Z") ∈ lw_tbl ∧ (Cond.initialized "java/lang/String") ∈ lw_tbl := by decide +kernel
theorem st_w3 : (Cond.laysStatic "jdk/internal/util/Preconditions" "SIOOBE_FORMATTER" "Ljava/util/function/BiFunction;") ∈ lw_tbl ∧ (Cond.initialized "jdk/internal/util/Preconditions") ∈ lw_tbl := by decide +kernel
theorem st_w4 : (Cond.laysStatic Bundle.tN "UNASSIGNED_STACK" Bundle.steD) ∈ lw_tbl ∧ (Cond.laysStatic Bundle.tN "SUPPRESSED_SENTINEL" Bundle.listD) ∈ lw_tbl ∧ (Cond.initialized Bundle.tN) ∈ lw_tbl := by decide +kernel
theorem st_w5 : (Cond.stringRef "GridColours$Reader" 65 "grid") ∈ lw_tbl ∧ (Cond.stringRef "GridColours$Reader" 74 "row") ∈ lw_tbl ∧ (Cond.stringRef "GridColours" 133 "no such colour") ∈ lw_tbl ∧ (Cond.stringRef "GridColours" 158 "more than three cells") ∈ lw_tbl := by decide +kernel
theorem st_w6 : ∀ w ∈ am_xb, w ∈ lw_tbl := by decide +kernel
theorem st_w7 : ∀ w ∈ am_nst, w ∈ lw_tbl ∧ w.onTables = true := by decide +kernel
theorem st_w8 : (Cond.arrayOver (.object "GridColours$Grid")) ∈ lw_tbl := by decide +kernel
theorem st_w9 : ∀ ci, ci < 8 → (Cond.instantiable (am_cn ci) (am_FN ci)) ∈ lw_tbl := by decide +kernel
theorem st_n1 : (Cond.arrayOf st_oc .int) ∈ flatC (Jvm.Cond.and given_1 narrow_1) ∧ (Cond.eq (.length st_oc) (.int 48)) ∈ flatC (Jvm.Cond.and given_1 narrow_1) ∧ (Cond.eq (.static "java/lang/String" "COMPACT_STRINGS" "Z") (.int 1)) ∈ flatC (Jvm.Cond.and given_1 narrow_1) ∧ (Cond.isRef (.static "jdk/internal/util/Preconditions" "SIOOBE_FORMATTER" "Ljava/util/function/BiFunction;")) ∈ flatC (Jvm.Cond.and given_1 narrow_1) ∧ (Cond.isRef (.static Bundle.tN "UNASSIGNED_STACK" Bundle.steD)) ∈ flatC (Jvm.Cond.and given_1 narrow_1) ∧ (Cond.isRef (.static Bundle.tN "SUPPRESSED_SENTINEL" Bundle.listD)) ∈ flatC (Jvm.Cond.and given_1 narrow_1) ∧ (Cond.exactly (.string "GridColours" 133) "java/lang/String") ∈ flatC (Jvm.Cond.and given_1 narrow_1) ∧ (Cond.exactly (.string "GridColours" 158) "java/lang/String") ∈ flatC (Jvm.Cond.and given_1 narrow_1) := by decide +kernel
theorem st_arr {s : State} {args : Array Value} {ty : FieldType} (h : (Cond.arrayClass ty).before args s = true) : ∃ cA : ClassId, ArrOfT s cA ty ∧ s.vm.findClass ("[" ++ ty.toString) = some cA := by
  obtain ⟨cA, kA, comp, hf, hk, hkind⟩ := Cond.arrayClass_spec h
  exact ⟨cA, fun n z => ⟨fun k h => (by cases h), kA, hk, comp, hkind⟩, hf⟩
/-- what the Statement gives of the start is what the small machine needs -/
theorem am_start {s : State} {b L : Nat} {xs : Nat → Int32} (hts : ∀ w ∈ lw_tbl, w.before #[Value.ref b] s = true) (hX : va_X b L xs s s.heap) (hbl : b < s.heap.size) (hgv : (Jvm.Cond.and given_1 narrow_1).before #[Value.ref b] s = true) :
    ∃ (D : va_G) (dA : Nat → ClassId) (sp : Nat → Nat), sp 0 = b ∧ am_env D dA sp s.heap.size L xs s := by
  have hs := flat_of_before _ hgv
  have hA : ∀ a : Nat, a < s.heap.size → ¬ (fun q => s.heap.size ≤ q) a := fun a h => Nat.not_le.mpr h
  have htb : ∀ w ∈ am_tbl, w.before #[Value.ref b] s = true := fun w hw => hts w (List.mem_filter.mp hw).1
  -- classes
  have hkn : ∀ ci : Nat, ∃ q : ClassId × (Nat → Nat), ci < 8 → u_Kn s (am_cn ci) (am_FT ci) (am_FN ci) q.1 q.2 := by
    intro ci
    by_cases h : ci < 8
    · obtain ⟨cC, iS, hk⟩ := u_known (n := am_FN ci) htb (am_ci_in h) (hts _ (st_w9 ci h))
      exact ⟨(cC, iS), fun _ => hk⟩
    · exact ⟨(0, fun _ => 0), fun h2 => absurd h2 h⟩
  obtain ⟨kn, hkn⟩ := Classical.axiomOfChoice hkn
  -- arrays
  obtain ⟨c0, a0, f0⟩ := st_arr (htb _ am_arr_i)
  obtain ⟨c1, a1, f1⟩ := st_arr (htb _ am_arr_l)
  obtain ⟨c2, a2, f2⟩ := st_arr (htb _ am_arr_z)
  have hov : va_AO "GridColours$Grid" s := va_AO.of (hts _ st_w8)
  obtain ⟨comp, c3, k3, g1, g2, g3, g4, g5⟩ := Cond.arrayOver_spec hov
  -- the table
  obtain ⟨t1, et1, hT1⟩ := va_Tof (tm := st_oc) (ty := .int) (N := 48) (f := fun j => .int (am_oc j)) (A := fun q => s.heap.size ≤ q) (by decide) (hs _ st_n1.1) (va_eqt (hs _ st_n1.2.1)) (fun j hj => va_eqt (hs _ (st_el j hj))) hA
  have hZ1 : va_Z "GridColours" "OPEN_CELLS" "[I" (.ref t1) (fun q => s.heap.size ≤ q) s s.heap := va_Zof (hts _ st_w1.1) (hts _ st_w1.2) et1 hA
  -- the texts
  obtain ⟨adK, adV, hS, hev⟩ := vk_Sof (N := 2) (tm := st_tm) (len := [4, 3]) (byt := [[103, 114, 105, 100], [114, 111, 119]]) (A := fun q => s.heap.size ≤ q) (args := #[Value.ref b]) (s := s) (by decide) (fun i hi => hs _ (st_s1 i hi)) (fun i hi => hs _ (st_s2 i hi)) (fun i hi => hs _ (st_s3 i hi)) (fun i hi => hs _ (st_s4 i hi)) (fun i hi j hj => hs _ (st_s5 i hi j hj)) (fun i j hi hj hij => by
      rcases (show (i = 0 ∧ j = 1) ∨ (i = 1 ∧ j = 0) by omega) with ⟨rfl, rfl⟩ | ⟨rfl, rfl⟩
      · exact Or.inl (hs _ st_s6)
      · exact Or.inr (hs _ st_s6)) hA
  obtain ⟨a4, e4⟩ : ∃ a : Nat, (Term.string "GridColours" 133).eval #[Value.ref b] s none [] s = some (.ref a) := by
    obtain ⟨a, c, cA, kA, q1, -⟩ := Cond.exactly_spec (args := #[Value.ref b]) (first := s) (o := none) (s := s) (idx := []) (t := .string "GridColours" 133) (cls := "java/lang/String") (hs _ st_n1.2.2.2.2.2.2.1)
    exact ⟨a, q1⟩
  obtain ⟨a5, e5⟩ : ∃ a : Nat, (Term.string "GridColours" 158).eval #[Value.ref b] s none [] s = some (.ref a) := by
    obtain ⟨a, c, cA, kA, q1, -⟩ := Cond.exactly_spec (args := #[Value.ref b]) (first := s) (o := none) (s := s) (idx := []) (t := .string "GridColours" 158) (cls := "java/lang/String") (hs _ st_n1.2.2.2.2.2.2.2)
    exact ⟨a, q1⟩
  refine ⟨(fun ci => (kn ci).1, fun ci => (kn ci).2), fun t => match t with | 0 => c0 | 1 => c1 | 2 => c2 | _ => c3, fun i => match i with | 0 => b | 1 => t1 | 2 => adK 0 | 3 => adK 1 | 4 => a4 | 5 => a5 | 6 => adV 0 | _ => adV 1, rfl, ?_⟩
  refine ⟨⟨fun ci q hq => ?_, fun k q hk => ?_⟩, hov, fun w hw => va_Nw.of (st_w7 w hw).2 (hts w (st_w7 w hw).1), ⟨hX, hbl⟩, ⟨hZ1, hT1⟩, ⟨vk_R.of (hts _ st_w5.1) (hev 0 (by decide)), vk_R.of (hts _ st_w5.2.1) (hev 1 (by decide))⟩, ⟨vk_R.of (hts _ st_w5.2.2.1) e4, vk_R.of (hts _ st_w5.2.2.2) e5⟩, ?_, va_Zof (hts _ st_w2.1) (hts _ st_w2.2) (va_eqi (hs _ st_n1.2.2.1)) hA, (vx_Zqof (hts _ st_w3.1) (hts _ st_w3.2) (hs _ st_n1.2.2.2.1) hA).1, vx_Zqof (hts _ st_w4.1) (hts _ st_w4.2.2) (hs _ st_n1.2.2.2.2.1) hA, vx_Zqof (hts _ st_w4.2.1) (hts _ st_w4.2.2) (hs _ st_n1.2.2.2.2.2.1) hA, fun w hw => va_Nw.of (am_xb_on w hw) (hts w (st_w6 w hw))⟩
  · have h8 : ci < 8 := (List.getElem?_eq_some_iff.mp hq).1
    rw [am_ci h8] at hq
    cases hq
    exact hkn ci h8
  · have h4 : k < 4 := (List.getElem?_eq_some_iff.mp hk).1
    rcases (show k = 0 ∨ k = 1 ∨ k = 2 ∨ k = 3 by omega) with rfl | rfl | rfl | rfl
    · cases hk; exact ⟨a0, f0⟩
    · cases hk; exact ⟨a1, f1⟩
    · cases hk; exact ⟨a2, f2⟩
    · cases hk
      exact ⟨fun n z => ⟨fun k h => (by cases h), k3, g3, comp, g4⟩, k3, comp, g3, g4, g1, g5⟩
  · refine ⟨fun i hi => ?_, fun i j hi hj he => ?_⟩
    · rcases (show i = 0 ∨ i = 1 by omega) with rfl | rfl
      · exact hS.1 0 hi
      · exact hS.1 1 hi
    · refine hS.2 i j hi hj ?_
      rcases (show i = 0 ∨ i = 1 by omega) with rfl | rfl <;> rcases (show j = 0 ∨ j = 1 by omega) with rfl | rfl <;> exact he
/-- THE LAW, from its entry, by what its function says -/
theorem whole_start {p : Program} {e : Env} {s : State} {m : MethodId} {below : List Frame} {meth : Method} {c : Code} (l : Launch) (hflags : l.flags = flags0) {b L : Nat} {xs : Nat → Int32} (hL : L ≤ 3072) (C0 : lw_At p s m meth c b L xs) : W p l e room_1 s m #[Value.ref b] below meth c s.heap [] 0 0 (lw_Z below #[Value.ref b] s) (entryFrame m ([Value.ref b] : List Value).toArray 8) := by
  obtain ⟨hx, hb, hr, hml, hown, hts, hX, hbl, hlocks, hgv⟩ := C0
  have hst : l.stackTraces = false := by
    unfold Launch.stackTraces
    rw [hflags]
    decide +kernel
  obtain ⟨D, dA, sp, hsp, hE⟩ := am_start hts hX hbl hgv
  have htb : ∀ w ∈ am_tbl, w.before #[Value.ref b] s = true := fun w hw => hts w (List.mem_filter.mp hw).1
  obtain ⟨wf, hf, hc1, hc2⟩ := law_ok L xs hL
  obtain ⟨n, hn⟩ := o_L_law 0 0 (am_w0 L xs) _ hf
  have ha : (am_rv sp s.heap.size (.ref 0)) = .ref b := by
    show Value.ref (am_ad sp s.heap.size 0) = _
    unfold am_ad
    rw [if_pos (by decide), hsp]
  have hlv := am_en_lv sp s.heap.size m_L_law [.ref 0] (Nat.le_of_ble_eq_true rfl)
  have hmap : ([.ref 0] : List Value).map (am_rv sp s.heap.size) = [.ref b] := by rw [List.map_cons, ha]; rfl
  rw [hmap] at hlv
  rw [lg_entry_eq]
  have hk := am_walk (l := l) (D := D) (dA := dA) (sp := sp) (base := s.heap.size) (L := L) (xs := xs) hst n 16 m_L_law 0 (am_en m_L_law [.ref 0]) [] (am_w0 L xs) wf (some (.int 1)) hn p e room_1 s m #[Value.ref b] below meth c s.heap [] (lw_Z below #[Value.ref b] s) _ 0 0 hx hb hml hown htb hE (Nat.le_refl _) (fun h => by cases h) (Nat.le_refl _) (Nat.le_refl _) (Nat.le_refl _) hc1 hc2 (Nat.le_of_ble_eq_true rfl) (Nat.le_of_ble_eq_true rfl) hlv (am_w0_R L xs s.heap) va_S.rf ?_
  · exact hk
  · intro pc' i len als' st' w' H' locs' ls' hd hret hl' hR' hS' h1 h2
    rcases am_ret_eq hret with ⟨rfl, rfl, hcase⟩ | ⟨-, -, -, -, hv⟩
    · rcases hcase with ⟨-, hM, -⟩ | ⟨rfl, hM, x, rfl, hv, -⟩ | ⟨-, hM, -⟩ | ⟨-, ⟨n9, hM⟩, -⟩ | ⟨-, hM, -⟩
      · cases hM
      · cases hv
        refine va_forget (fun q hq => hS'.2.2 q hq) ?_
        refine W.widen (k := 601024) (n := 7293034) (by show wf.1 - 0 ≤ _; exact Nat.le_trans (Nat.sub_le _ _) hc1) (by show wf.2.1 - 0 ≤ _; exact Nat.le_trans (Nat.sub_le _ _) hc2) ?_
        exact lw_ret hx hb hr hlocks hd
      · cases hM
      · cases hM
      · cases hM
    · cases hv
-- ===== YOUR PART ENDS =====
set_option maxHeartbeats 4000000 in
theorem lw_walk (l : Launch) (hflags : l.flags = flags0) (b : Addr) (xs : List Int32) : MetFree l x (headSpec (Jvm.Cond.code x code maxLocals ret :: tables_1) room_1) (lw_P b xs) (fun _ _ _ _ _ => True) lw_Q := by
  refine MetFree.of_bodyS (code := code) (maxLocals := maxLocals) (ret := ret) (by decide) ?_ ?_
  · intro args s m h hn
    obtain ⟨meth, c, h1, h2, h3, h4, h5, h6, -, -⟩ := Cond.code_spec hn (atoms_spec (ws := Jvm.Cond.code x code maxLocals ret :: tables_1) h _ List.mem_cons_self)
    exact ⟨meth, c, h1, h2, h3, h4, h5, h6⟩
  · intro p e s m args below meth c s₁ B hml0 hP _
    obtain ⟨rfl, hx, hbd, hgv⟩ := hP
    obtain ⟨scr, harrAt, hlist, hof, hsmall⟩ := hx
    obtain ⟨hcb, hkn, -, -⟩ := State.arrayAt?_spec harrAt
    have hown : s.vm.findClass R_law = some m.cls := findClass_of_methodNamed B.named
    have hts0 : ∀ c ∈ (Jvm.Cond.code x code maxLocals ret :: tables_1), c.before #[Value.ref b] s = true := atoms_spec (ws := Jvm.Cond.code x code maxLocals ret :: tables_1) B.pre
    have hts : ∀ w ∈ lw_tbl, w.before #[Value.ref b] s = true := k2_hts_sels lw_privs (fun w hw => hts0 w (List.mem_cons_of_mem _ hw)) lw_privs_ok
    have hml : c.maxLocals = 8 := B.maxLocals_eq (hts0 _ List.mem_cons_self)
    have X₀ : Stand p l e room_1 s m #[Value.ref b] below meth c s₁ [] 0 0 := Stand.of_body B
    have hh0 : s₁.heap = s.heap := by rw [B.state]; rfl
    have hsz : scr.slots.size = xs.length := by rw [← Array.length_toList, hlist, List.length_map]
    have hval : ∀ j : Nat, j < xs.length → scr.slots[j]? = some (.int (xs.getD j 0)) := fun j hj => by
      rw [← Array.getElem?_toList, hlist]
      simp [hj]
    have hbl : b < s.heap.size := (Array.getElem?_eq_some_iff.mp hcb).1
    have hX : va_X b xs.length (fun j => xs.getD j 0) s s.heap := ⟨scr, hcb, hof, hkn, hsz, hval⟩
    have K : W p l e room_1 s m #[Value.ref b] below meth c s₁.heap [] 0 0 (lw_Z below #[Value.ref b] s) (entryFrame m ([Value.ref b] : List Value).toArray 8) := by
      rw [hh0]
      exact whole_start l hflags hbd ⟨B.exec, B.bytes, B.returns, hml, hown, hts, hX, hbl, B.notSynchronized, hgv⟩
    obtain ⟨t, a1, o, b1, b2, b3⟩ := K s₁ rfl X₀
    exact ⟨t, o, a1, b1, b2, b3⟩
theorem lw_pre_spec {args : Array Value} {s : State} (h : (Jvm.Cond.and given_1 narrow_1).before args s = true) (hr : rest_1_c.before args s = true) : ∃ (b : Addr) (xs : List Int32), lw_P b xs args s := by
  have hs := flat_of_before _ h
  have hq := flat_of_before _ hr
  have hc : (Cond.count 1).before args s = true := hs _ (by decide +kernel)
  have harr : (Cond.arrayOf (.arg 0) .int).before args s = true := hs _ (by decide +kernel)
  have hle : (Cond.le (.length (.arg 0)) (.int 3072)).before args s = true := hs _ (by decide +kernel)
  have hlen : (Cond.isInt (.length (.arg 0))).before args s = true := hq _ (by decide +kernel)
  have hall : (Cond.all (.arg 0) (.isInt (.elem (.arg 0) (.index 0)))).before args s = true := hq _ (by decide +kernel)
  obtain ⟨b, xs, hb, hx⟩ := State.ints_of_pre rfl harr hlen hall
  have hsm : xs.length < 2 ^ 31 := hx.choose_spec.2.2.2
  have hev : (Term.length (.arg 0)).eval args s none [] s = some (.int xs.length.toInt32) := hx.length_eval hb
  have hv := Cond.le_ints hev (show (Term.int 3072).eval args s none [] s = some (.int 3072) from rfl)
  have hd : xs.length.toInt32 ≤ 3072 := by
    simpa [Cond.before, Cond.holds, hv] using hle
  have hN : xs.length ≤ 3072 := (Int32.ofNat_le_ofNat hsm (by decide)).mp (show Int32.ofNat xs.length ≤ Int32.ofNat 3072 from hd)
  exact ⟨b, xs, Cond.one_arg hc (show args[0]? = some (.ref b) from hb), hx, hN, h⟩
theorem lw_comes (l : Launch) (hflags : l.flags = flags0) : Comes l x (Jvm.Cond.code x code maxLocals ret :: tables_1) room_1 (fun tb e args s => Calls_1 tb e args s ∧ rest_1 tb e args s ∧ Pre_1 tb e args s)
    (fun _ _ args s o t => lw_Q args s o t) := by
  intro p e ha hc hk s m args below hf hfit hheap happ hpre
  obtain ⟨b, xs, hP⟩ := lw_pre_spec hpre.2.2 hpre.2.1
  obtain ⟨k, o, h1, h2, h3, hQ⟩ := lw_walk l hflags b xs p e ha hc hk s m args below hf ((Spec.applies_iff_loose hf).mp happ).1 hP trivial
  exact ⟨k, o, h1, h2, h3, hQ⟩
theorem lw_frame {s t : State} {o : Outcome} {args : Array Value} (h : Framed s o t [] 601024 7293034) :
    Framed s o t (fieldLocs frame_1_writes args s ++ arrayLocs frame_1_arrays args s ++ staticLocs frame_1_statics s) 601024 7293034 := h
theorem lw_limb (L : Cond) (hL : ∀ (args : Array Value) (s t : State), L.after args s (.returned (some (.int 1))) t = true) :
    ArmFor flags0 classFile x code maxLocals ret World_1 tables_1 room_1 Calls_1 rest_1 Pre_1
      (fun tb e a s o t => postC L tb e a s o t ∧ Framed s o t (fieldLocs frame_1_writes a s ++ arrayLocs frame_1_arrays a s ++ staticLocs frame_1_statics s) 601024 7293034) := by
  intro l hflags _ _ p e ha hc hk s m args below hf hfit hheap happ hpre
  obtain ⟨k, o, h1, h2, h3, rfl, hF⟩ := lw_comes l hflags p e ha hc hk s m args below hf hfit hheap happ hpre
  exact ⟨k, _, h1, h2, h3, hL args s _, lw_frame hF⟩
theorem i_vc : Claimed_1_1 ∧ Claimed_1_2 := ⟨lw_limb limb_1_1 (fun args s t => by simp [limb_1_1, Cond.after, Cond.holds, Cond.value]), lw_limb limb_1_2 (fun args s t => Cond.after_iff.mpr (by
  first | (rw [show limb_1_2 = Cond.eq .result (.int 1) from rfl, Cond.eq_ints (x := 1) (y := 1) rfl rfl]; simp; done) | (simp [limb_1_2, Cond.value, Term.eval]; done)))⟩
