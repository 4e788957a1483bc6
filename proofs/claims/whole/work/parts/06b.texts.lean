/-! TEXTS: what String.length and String.charAt do with the two texts of the reader -/
theorem am_gsl : (Cond.fieldLink (am_cn 0) am_gs "GridColours" "OPEN_CELLS" "[I") ∈ am_tbl := am_at_mem (ps := [547]) (j := 0) (by decide +kernel)
theorem am_cats (sp : Nat → Nat) (base : Nat) (r : List Value) : ((r.map (am_rv sp base)).map fun v => v.category).sum = (r.map fun v => v.category).sum := by
  rw [List.map_map]
  congr 1
  exact List.map_congr_left (fun v _ => am_rv_cat sp base v)
section AMT
variable {p : Program} {l : Launch} {e : Env} {R : Room} {s : State} {m : MethodId} {args : Array Value} {below : List Frame} {meth : Method} {c : Code} {H : Heap} {locs : List Loc} {cells slots : Nat} {Q : State → Prop}
variable {D : va_G} {dA : Nat → ClassId} {sp : Nat → Nat} {base L : Nat} {xs : Nat → Int32} {w : am_W} {M : am_M} {pc : Nat} {ls : Array Slot} {rest : List Value}
theorem am_rldc (hx : p.tables.exec = Jvm.exec) (hb : c.code = M.2.1) (hown : s.vm.findClass (am_cn M.2.2.2.2.1) = some m.cls) (hE : am_env D dA sp base L xs s) {k x : Nat} (ho : (M.2.2.2.2.1 = 3 ∧ k = 65 ∧ x = 2) ∨ (M.2.2.2.2.1 = 3 ∧ k = 74 ∧ x = 3)) (hdg : decode M.2.1 pc = .ok (.ldc k, 2))
    (kk : W p l e R s m args below meth c H locs cells slots Q (F0 m (pc + 2) ls (.ref (am_ad sp base x) :: rest))) : W p l e R s m args below meth c H locs cells slots Q (F0 m pc ls rest) := by
  sorry
theorem am_rtl (hx : p.tables.exec = Jvm.exec) (hb : c.code = M.2.1) (hml : c.maxLocals = M.2.2.1) (hown : s.vm.findClass (am_cn M.2.2.2.2.1) = some m.cls) (hts : ∀ w ∈ am_tbl, w.before args s = true) (hE : am_env D dA sp base L xs s) (hb0 : base ≤ s.heap.size) {k : Nat} (ho : M.2.2.2.2.1 = 3 ∧ k = 114) (hls : ls.size = M.2.2.1) (hrf : 16 ≤ R.frames) (hrl : 1024 ≤ R.locals) (hrc : cells ≤ R.cells) (hrs : slots ≤ R.slots) (hR : am_R D dA sp base L xs w H) (hS : va_S (fun q => base ≤ q) s.heap H locs) (hr : (rest.map fun v => v.category).sum ≤ 8) {i : Nat} {x : Int32} (h : am_tl w i = some x) (hdg : decode M.2.1 pc = .ok (.invokevirtual k, 3))
    (kk : W p l e R s m args below meth c H locs cells slots Q (F0 m (pc + 3) ls (.int x :: rest))) : W p l e R s m args below meth c H locs cells slots Q (F0 m pc ls (.ref (am_ad sp base i) :: rest)) := by
  sorry
theorem am_rtc (hx : p.tables.exec = Jvm.exec) (hb : c.code = M.2.1) (hml : c.maxLocals = M.2.2.1) (hown : s.vm.findClass (am_cn M.2.2.2.2.1) = some m.cls) (hts : ∀ w ∈ am_tbl, w.before args s = true) (hE : am_env D dA sp base L xs s) (hb0 : base ≤ s.heap.size) {k : Nat} (ho : M.2.2.2.2.1 = 3 ∧ k = 117) (hls : ls.size = M.2.2.1) (hrf : 16 ≤ R.frames) (hrl : 1024 ≤ R.locals) (hrc : cells ≤ R.cells) (hrs : slots ≤ R.slots) (hR : am_R D dA sp base L xs w H) (hS : va_S (fun q => base ≤ q) s.heap H locs) (hr : (rest.map fun v => v.category).sum ≤ 8) {i : Nat} {j x : Int32} (h : am_tc w i j = some x) (hdg : decode M.2.1 pc = .ok (.invokevirtual k, 3))
    (kk : W p l e R s m args below meth c H locs cells slots Q (F0 m (pc + 3) ls (.int x :: rest))) : W p l e R s m args below meth c H locs cells slots Q (F0 m pc ls (.int j :: .ref (am_ad sp base i) :: rest)) := by
  sorry
end AMT
