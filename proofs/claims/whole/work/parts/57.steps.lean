/-! ONE STEP OF THE SMALL MACHINE is one of the machine's -/
theorem am_b2_eq {f : Int32 → Int32 → Int32} {pc : Nat} {ls : List (Option Value)} {st : List Value} {w : am_W} {q : am_F} (h : am_b2 f pc ls st w = some q) : ∃ x y r, st = .int y :: .int x :: r ∧ q = (pc + 1, ls, .int (f x y) :: r, w) := by
  unfold am_b2 at h
  split at h
  · next y x r => exact ⟨x, y, r, rfl, (Option.some.inj h).symm⟩
  · cases h
theorem am_l2_eq {f : Int64 → Int64 → Int64} {pc : Nat} {ls : List (Option Value)} {st : List Value} {w : am_W} {q : am_F} (h : am_l2 f pc ls st w = some q) : ∃ x y r, st = .long y :: .long x :: r ∧ q = (pc + 1, ls, .long (f x y) :: r, w) := by
  unfold am_l2 at h
  split at h
  · next y x r => exact ⟨x, y, r, rfl, (Option.some.inj h).symm⟩
  · cases h
theorem am_tg_eq {pc t : Nat} {off : Int} (h : am_tg pc off = some t) : (pc : Int) + off = (t : Int) := by
  unfold am_tg at h
  split at h
  · next h0 =>
    cases h
    exact (Int.toNat_of_nonneg h0).symm
  · cases h
theorem am_br_eq {c : Bool} {pc : Nat} {off : Int} {ls : List (Option Value)} {r : List Value} {w : am_W} {q : am_F} (h : am_br c pc off ls r w = some q) : ∃ t : Nat, (pc : Int) + off = (t : Int) ∧ ((c = true ∧ q = (t, ls, r, w)) ∨ (c = false ∧ q = (pc + 3, ls, r, w))) := by
  unfold am_br at h
  split at h
  · next t ht =>
    refine ⟨t, am_tg_eq ht, ?_⟩
    cases c
    · exact Or.inr ⟨rfl, (Option.some.inj h).symm⟩
    · exact Or.inl ⟨rfl, (Option.some.inj h).symm⟩
  · cases h
theorem am_ldi_eq {k len pc : Nat} {ls : List (Option Value)} {st : List Value} {w : am_W} {q : am_F} (h : am_ldi k len pc ls st w = some q) : ∃ x, ls[k]? = some (some (.int x)) ∧ q = (pc + len, ls, .int x :: st, w) := by
  unfold am_ldi at h
  split at h
  · next x hx => exact ⟨x, hx, (Option.some.inj h).symm⟩
  · cases h
theorem am_lda_eq {k len pc : Nat} {ls : List (Option Value)} {st : List Value} {w : am_W} {q : am_F} (h : am_lda k len pc ls st w = some q) : ∃ x, ls[k]? = some (some (.ref x)) ∧ q = (pc + len, ls, .ref x :: st, w) := by
  unfold am_lda at h
  split at h
  · next x hx => exact ⟨x, hx, (Option.some.inj h).symm⟩
  · cases h
theorem am_ldl_eq {M : am_M} {k len pc : Nat} {ls : List (Option Value)} {st : List Value} {w : am_W} {q : am_F} (h : am_ldl M k len pc ls st w = some q) : ∃ x, ls[k]? = some (some (.long x)) ∧ k ∈ M.2.2.2.2.2.1 ∧ q = (pc + len, ls, .long x :: st, w) := by
  unfold am_ldl at h
  split at h
  · next x hx =>
    split at h
    · next hk => exact ⟨x, hx, hk, (Option.some.inj h).symm⟩
    · cases h
  · cases h
theorem am_sti_eq {M : am_M} {k len pc : Nat} {ls : List (Option Value)} {st : List Value} {w : am_W} {q : am_F} (h : am_sti M k len pc ls st w = some q) : ∃ x r, st = .int x :: r ∧ am_ok1 M k = true ∧ q = (pc + len, ls.set k (some (.int x)), r, w) := by
  unfold am_sti at h
  split at h
  · next x r =>
    split at h
    · next hk => exact ⟨x, r, rfl, hk, (Option.some.inj h).symm⟩
    · cases h
  · cases h
theorem am_sta_eq {M : am_M} {k len pc : Nat} {ls : List (Option Value)} {st : List Value} {w : am_W} {q : am_F} (h : am_sta M k len pc ls st w = some q) : ∃ x r, st = .ref x :: r ∧ am_ok1 M k = true ∧ q = (pc + len, ls.set k (some (.ref x)), r, w) := by
  unfold am_sta at h
  split at h
  · next x r =>
    split at h
    · next hk => exact ⟨x, r, rfl, hk, (Option.some.inj h).symm⟩
    · cases h
  · cases h
theorem am_stl_eq {M : am_M} {k len pc : Nat} {ls : List (Option Value)} {st : List Value} {w : am_W} {q : am_F} (h : am_stl M k len pc ls st w = some q) : ∃ x r, st = .long x :: r ∧ am_ok2 M k = true ∧ q = (pc + len, (ls.set k (some (.long x))).set (k + 1) none, r, w) := by
  unfold am_stl at h
  split at h
  · next x r =>
    split at h
    · next hk => exact ⟨x, r, rfl, hk, (Option.some.inj h).symm⟩
    · cases h
  · cases h
theorem am_getf_eq {own idx pc : Nat} {ls : List (Option Value)} {st : List Value} {w : am_W} {q : am_F} (h : am_getf own idx pc ls st w = some q) : ∃ ci k t i r v, am_fl own idx = some (ci, k, t) ∧ st = .ref i :: r ∧ am_gv w i ci k = some v ∧ q = (pc + 3, ls, v :: r, w) := by
  unfold am_getf at h
  split at h
  · next ci k i r hf =>
    split at h
    · next x hg => exact ⟨ci, k, _, i, r, _, hf, rfl, am_gi_eq hg, (Option.some.inj h).symm⟩
    · cases h
  · next ci k i r hf =>
    split at h
    · next x hg => exact ⟨ci, k, _, i, r, _, hf, rfl, am_gl_eq hg, (Option.some.inj h).symm⟩
    · cases h
  · next ci k i r hf =>
    split at h
    · next x hg => exact ⟨ci, k, _, i, r, _, hf, rfl, am_gr_eq hg, (Option.some.inj h).symm⟩
    · cases h
  · next ci k i r hf =>
    split at h
    · next x hg => exact ⟨ci, k, _, i, r, _, hf, rfl, am_gr_eq hg, (Option.some.inj h).symm⟩
    · cases h
  · cases h
theorem am_putf_eq {ini : Bool} {own idx pc : Nat} {ls : List (Option Value)} {st : List Value} {w : am_W} {q : am_F} (h : am_putf ini own idx pc ls st w = some q) : ∃ ci k t i r v w', am_fl own idx = some (ci, k, t) ∧ st = v :: .ref i :: r ∧ am_pv w i ci k v = some w' ∧ q = (pc + 3, ls, r, w') ∧ ((t = 0 ∧ ∃ x, v = .int x) ∨ (t = 1 ∧ ∃ x, v = .long x) ∨ (t = 2 ∧ ∃ x, v = .ref x) ∨ (t = 3 ∧ ini = true ∧ ∃ x, v = .ref x)) := by
  unfold am_putf at h
  split at h
  · next ci k x i r hf =>
    split at h
    · next w' hg => exact ⟨ci, k, _, i, r, _, w', hf, rfl, hg, (Option.some.inj h).symm, Or.inl ⟨rfl, x, rfl⟩⟩
    · cases h
  · next ci k x i r hf =>
    split at h
    · next w' hg => exact ⟨ci, k, _, i, r, _, w', hf, rfl, hg, (Option.some.inj h).symm, Or.inr (Or.inl ⟨rfl, x, rfl⟩)⟩
    · cases h
  · next ci k x i r hf =>
    split at h
    · next w' hg => exact ⟨ci, k, _, i, r, _, w', hf, rfl, hg, (Option.some.inj h).symm, Or.inr (Or.inr (Or.inl ⟨rfl, x, rfl⟩))⟩
    · cases h
  · next ci k x i r hf =>
    split at h
    · next hi =>
      split at h
      · next w' hg => exact ⟨ci, k, _, i, r, _, w', hf, rfl, hg, (Option.some.inj h).symm, Or.inr (Or.inr (Or.inr ⟨rfl, hi, x, rfl⟩))⟩
      · cases h
    · cases h
  · cases h
theorem am_na_eq {w w' : am_W} {t : Nat} {n : Int32} (h : am_na w t n = some w') : ¬ n < 0 ∧ n.toNatClampNeg ≤ 100000 ∧ ((t = 0 ∧ am_nw w (.inl (0, n.toNatClampNeg, .inl (fun _ => 0))) n.toNatClampNeg = some w') ∨ (t = 1 ∧ am_nw w (.inl (1, n.toNatClampNeg, .inr (.inl (fun _ => 0)))) n.toNatClampNeg = some w') ∨ (t = 2 ∧ am_nw w (.inl (2, n.toNatClampNeg, .inl (fun _ => 0))) n.toNatClampNeg = some w') ∨ (t = 3 ∧ am_nw w (.inl (3, n.toNatClampNeg, .inr (.inr (.inr (.inr (fun _ => none)))))) n.toNatClampNeg = some w')) := by
  unfold am_na at h
  split at h
  · cases h
  · next hn =>
    refine ⟨fun z => hn (Or.inl z), Nat.not_lt.mp fun z => hn (Or.inr z), ?_⟩
    split at h
    · exact Or.inl ⟨rfl, h⟩
    · exact Or.inr (Or.inl ⟨rfl, h⟩)
    · exact Or.inr (Or.inr (Or.inl ⟨rfl, h⟩))
    · exact Or.inr (Or.inr (Or.inr ⟨rfl, h⟩))
    · cases h
theorem am_nw_eq {w w' : am_W} {x : (Nat × vp_A) ⊕ (Nat × List Value)} {n : Nat} (h : am_nw w x n = some w') : w'.1 = w.1 + 1 ∧ w'.2.1 = w.2.1 + n := by
  unfold am_nw at h
  split at h
  · cases h; exact ⟨rfl, rfl⟩
  · cases h
theorem am_si_cs {w w' : am_W} {a : Nat} {j x : Int32} (h : am_si w a j x = some w') : w'.1 = w.1 ∧ w'.2.1 = w.2.1 := by
  unfold am_si at h
  split at h
  · split at h
    · cases h
    · cases h; exact ⟨rfl, rfl⟩
  · cases h
theorem am_sj_cs {w w' : am_W} {a : Nat} {j : Int32} {x : Int64} (h : am_sj w a j x = some w') : w'.1 = w.1 ∧ w'.2.1 = w.2.1 := by
  unfold am_sj at h
  split at h
  · split at h
    · cases h
    · cases h; exact ⟨rfl, rfl⟩
  · cases h
theorem am_sz_cs {w w' : am_W} {a : Nat} {j x : Int32} (h : am_sz w a j x = some w') : w'.1 = w.1 ∧ w'.2.1 = w.2.1 := by
  unfold am_sz at h
  split at h
  · split at h
    · cases h
    · cases h; exact ⟨rfl, rfl⟩
  · cases h
theorem am_sx_cs {w w' : am_W} {a : Nat} {j : Int32} {x : Nat} (h : am_sx w a j x = some w') : w'.1 = w.1 ∧ w'.2.1 = w.2.1 := by
  unfold am_sx at h
  split at h
  · split at h
    · cases h
    · cases h; exact ⟨rfl, rfl⟩
  · cases h
section AMS
variable {p : Program} {l : Launch} {e : Env} {R : Room} {s : State} {m : MethodId} {args : Array Value} {below : List Frame} {meth : Method} {c : Code} {H : Heap} {locs : List Loc} {Q : State → Prop}
variable {D : va_G} {dA : Nat → ClassId} {sp : Nat → Nat} {base L : Nat} {xs : Nat → Int32} {ls : Array Slot}
set_option maxHeartbeats 4000000 in
theorem am_step1 {M : am_M} {i : Instr} {len pc pc' : Nat} {als als' : List (Option Value)} {st st' : List Value} {w w' : am_W} {c0 s0 : Nat}
    (h : am_st M i len pc als st w = some (pc', als', st', w')) (hdg : decode M.2.1 pc = .ok (i, len))
    (hx : p.tables.exec = Jvm.exec) (hb : c.code = M.2.1) (hml : c.maxLocals = M.2.2.1) (hown : s.vm.findClass (am_cn M.2.2.2.2.1) = some m.cls) (hts : ∀ w ∈ am_tbl, w.before args s = true) (hE : am_env D dA sp base L xs s) (hb0 : base ≤ s.heap.size) (hini : M.2.2.2.2.2.2 = true → meth.name = "<init>")
    (hc0 : c0 ≤ w.1) (hs0 : s0 ≤ w.2.1) (hcz : s.heap.size ≤ base + c0) (hrc : w'.1 ≤ R.cells + c0) (hrs : w'.2.1 ≤ R.slots + s0) (hrf : 16 ≤ R.frames) (hrl : 1024 ≤ R.locals)
    (hl : am_lv sp base M als ls) (hR : am_R D dA sp base L xs w H) (hS : va_S (fun q => base ≤ q) s.heap H locs)
    (kk : ∀ (H1 : Heap) (locs1 : List Loc) (ls1 : Array Slot), am_lv sp base M als' ls1 → am_R D dA sp base L xs w' H1 → va_S (fun q => base ≤ q) s.heap H1 locs1 → W p l e R s m args below meth c H1 locs1 (w'.1 - c0) (w'.2.1 - s0) Q (F0 m pc' ls1 (st'.map (am_rv sp base)))) :
    W p l e R s m args below meth c H locs (w.1 - c0) (w.2.1 - s0) Q (F0 m pc ls (st.map (am_rv sp base))) := by
  have hK := hE.1
  cases i
  all_goals first
    | (cases h; done)
    | skip
  case iconst n =>
    simp only [am_st] at h
    split at h
    · next hlen =>
      subst hlen
      cases h
      exact lv_iconst hx hb hdg rfl (kk H locs ls hl hR hS)
    · cases h
  case bipush n =>
    simp only [am_st] at h
    split at h
    · next hlen =>
      subst hlen
      cases h
      exact lv_bipush hx hb hdg rfl (kk H locs ls hl hR hS)
    · cases h
  case sipush n =>
    simp only [am_st] at h
    split at h
    · next hlen =>
      subst hlen
      cases h
      exact lv_sipush hx hb hdg rfl (kk H locs ls hl hR hS)
    · cases h
  case lconst n =>
    simp only [am_st] at h
    split at h
    · next hlen =>
      subst hlen
      cases h
      exact lv_lconst hx hb hdg rfl (kk H locs ls hl hR hS)
    · cases h
  case iload_n k =>
    simp only [am_st] at h
    split at h
    · next hlen =>
      subst hlen
      obtain ⟨x, hk, e9⟩ := am_ldi_eq h
      cases e9
      exact lv_iload_n hx hb hdg rfl (hl.at hk (fun z => by cases z)) (kk H locs ls hl hR hS)
    · cases h
  case iload k =>
    simp only [am_st] at h
    split at h
    · next hlen =>
      subst hlen
      obtain ⟨x, hk, e9⟩ := am_ldi_eq h
      cases e9
      exact lv_iload hx hb hdg (hl.at hk (fun z => by cases z)) (kk H locs ls hl hR hS)
    · cases h
  case aload_n k =>
    simp only [am_st] at h
    split at h
    · next hlen =>
      subst hlen
      obtain ⟨x, hk, e9⟩ := am_lda_eq h
      cases e9
      exact lv_aload_n hx hb hdg rfl (hl.at hk (fun z => by cases z)) (kk H locs ls hl hR hS)
    · cases h
  case aload k =>
    simp only [am_st] at h
    split at h
    · next hlen =>
      subst hlen
      obtain ⟨x, hk, e9⟩ := am_lda_eq h
      cases e9
      exact lv_aload hx hb hdg (hl.at hk (fun z => by cases z)) (kk H locs ls hl hR hS)
    · cases h
  case lload_n k =>
    simp only [am_st] at h
    split at h
    · next hlen =>
      subst hlen
      obtain ⟨x, hk, hm, e9⟩ := am_ldl_eq h
      cases e9
      exact lv_lload_n hx hb hdg rfl (hl.at hk (fun _ => hm)) (kk H locs ls hl hR hS)
    · cases h
  case lload k =>
    simp only [am_st] at h
    split at h
    · next hlen =>
      subst hlen
      obtain ⟨x, hk, hm, e9⟩ := am_ldl_eq h
      cases e9
      exact lv_lload hx hb hdg (hl.at hk (fun _ => hm)) (kk H locs ls hl hR hS)
    · cases h
  case istore_n k =>
    simp only [am_st] at h
    split at h
    · next hlen =>
      subst hlen
      obtain ⟨x, r, e8, ho, e9⟩ := am_sti_eq h
      subst e8
      cases e9
      obtain ⟨lv, h1, h2⟩ := hl.has
      exact lv_istore_n hx hb hdg rfl h1 (am_ok1_eq ho).1 rfl (fun ls' h' => kk H locs ls' (hl.put1 h2 (x := .int x) ho h') hR hS)
    · cases h
  case istore k =>
    simp only [am_st] at h
    split at h
    · next hlen =>
      subst hlen
      obtain ⟨x, r, e8, ho, e9⟩ := am_sti_eq h
      subst e8
      cases e9
      obtain ⟨lv, h1, h2⟩ := hl.has
      exact lv_istore hx hb hdg h1 (am_ok1_eq ho).1 rfl (fun ls' h' => kk H locs ls' (hl.put1 h2 (x := .int x) ho h') hR hS)
    · cases h
  case astore_n k =>
    simp only [am_st] at h
    split at h
    · next hlen =>
      subst hlen
      obtain ⟨x, r, e8, ho, e9⟩ := am_sta_eq h
      subst e8
      cases e9
      obtain ⟨lv, h1, h2⟩ := hl.has
      exact lv_astore_n hx hb hdg rfl h1 (am_ok1_eq ho).1 rfl (fun ls' h' => kk H locs ls' (hl.put1 h2 (x := .ref x) ho h') hR hS)
    · cases h
  case astore k =>
    simp only [am_st] at h
    split at h
    · next hlen =>
      subst hlen
      obtain ⟨x, r, e8, ho, e9⟩ := am_sta_eq h
      subst e8
      cases e9
      obtain ⟨lv, h1, h2⟩ := hl.has
      exact lv_astore hx hb hdg h1 (am_ok1_eq ho).1 rfl (fun ls' h' => kk H locs ls' (hl.put1 h2 (x := .ref x) ho h') hR hS)
    · cases h
  case lstore_n k =>
    simp only [am_st] at h
    split at h
    · next hlen =>
      subst hlen
      obtain ⟨x, r, e8, ho, e9⟩ := am_stl_eq h
      subst e8
      cases e9
      obtain ⟨lv, h1, h2⟩ := hl.has
      exact lv_lstore_n hx hb hdg rfl h1 (am_ok2_eq ho).1 rfl (fun ls' h' => kk H locs ls' (hl.put2 h2 (x := .long x) ho h') hR hS)
    · cases h
  case lstore k =>
    simp only [am_st] at h
    split at h
    · next hlen =>
      subst hlen
      obtain ⟨x, r, e8, ho, e9⟩ := am_stl_eq h
      subst e8
      cases e9
      obtain ⟨lv, h1, h2⟩ := hl.has
      exact lv_lstore hx hb hdg h1 (am_ok2_eq ho).1 rfl (fun ls' h' => kk H locs ls' (hl.put2 h2 (x := .long x) ho h') hR hS)
    · cases h
  case iinc k n =>
    simp only [am_st] at h
    split at h
    · next hlen =>
      subst hlen
      split at h
      · next x hk =>
        split at h
        · next ho =>
          cases h
          obtain ⟨lv, h1, h2⟩ := hl.has
          obtain ⟨j, hj⟩ := List.getElem?_of_mem (h2 k _ hk (fun z => by cases z))
          exact lv_iinc hx hb hdg h1 hj rfl (am_ok1_eq ho).1 rfl (fun ls' h' => kk H locs ls' (hl.put1 h2 (x := .int (x + Int32.ofInt n)) ho h') hR hS)
        · cases h
      · cases h
    · cases h
  case iadd =>
    simp only [am_st] at h
    split at h
    · next hlen =>
      subst hlen
      obtain ⟨x, y, r, e8, e9⟩ := am_b2_eq h
      subst e8
      cases e9
      exact lv_iadd hx hb hdg (kk H locs ls hl hR hS)
    · cases h
  case isub =>
    simp only [am_st] at h
    split at h
    · next hlen =>
      subst hlen
      obtain ⟨x, y, r, e8, e9⟩ := am_b2_eq h
      subst e8
      cases e9
      exact lv_isub hx hb hdg (kk H locs ls hl hR hS)
    · cases h
  case imul =>
    simp only [am_st] at h
    split at h
    · next hlen =>
      subst hlen
      obtain ⟨x, y, r, e8, e9⟩ := am_b2_eq h
      subst e8
      cases e9
      exact lv_imul hx hb hdg (kk H locs ls hl hR hS)
    · cases h
  case iand =>
    simp only [am_st] at h
    split at h
    · next hlen =>
      subst hlen
      obtain ⟨x, y, r, e8, e9⟩ := am_b2_eq h
      subst e8
      cases e9
      exact lv_iand hx hb hdg (kk H locs ls hl hR hS)
    · cases h
  case ior =>
    simp only [am_st] at h
    split at h
    · next hlen =>
      subst hlen
      obtain ⟨x, y, r, e8, e9⟩ := am_b2_eq h
      subst e8
      cases e9
      exact lv_ior hx hb hdg (kk H locs ls hl hR hS)
    · cases h
  case ixor =>
    simp only [am_st] at h
    split at h
    · next hlen =>
      subst hlen
      obtain ⟨x, y, r, e8, e9⟩ := am_b2_eq h
      subst e8
      cases e9
      exact lv_ixor hx hb hdg (kk H locs ls hl hR hS)
    · cases h
  case ishl =>
    simp only [am_st] at h
    split at h
    · next hlen =>
      subst hlen
      obtain ⟨x, y, r, e8, e9⟩ := am_b2_eq h
      subst e8
      cases e9
      exact lv_ishl hx hb hdg (kk H locs ls hl hR hS)
    · cases h
  case ishr =>
    simp only [am_st] at h
    split at h
    · next hlen =>
      subst hlen
      obtain ⟨x, y, r, e8, e9⟩ := am_b2_eq h
      subst e8
      cases e9
      exact lv_ishr hx hb hdg (kk H locs ls hl hR hS)
    · cases h
  case iushr =>
    simp only [am_st] at h
    split at h
    · next hlen =>
      subst hlen
      obtain ⟨x, y, r, e8, e9⟩ := am_b2_eq h
      subst e8
      cases e9
      exact lv_iushr hx hb hdg rfl (kk H locs ls hl hR hS)
    · cases h
  case idiv =>
    simp only [am_st] at h
    split at h
    · next hlen =>
      subst hlen
      split at h
      · next y x r =>
        split at h
        · cases h
        · next hy =>
          cases h
          exact lv_idiv hx hb hdg hy (kk H locs ls hl hR hS)
      · cases h
    · cases h
  case irem =>
    simp only [am_st] at h
    split at h
    · next hlen =>
      subst hlen
      split at h
      · next y x r =>
        split at h
        · cases h
        · next hy =>
          cases h
          exact lv_irem hx hb hdg hy (kk H locs ls hl hR hS)
      · cases h
    · cases h
  case ineg =>
    simp only [am_st] at h
    split at h
    · next hlen =>
      subst hlen
      split at h
      · next x r =>
        cases h
        exact lv_ineg hx hb hdg (kk H locs ls hl hR hS)
      · cases h
    · cases h
  case ladd =>
    simp only [am_st] at h
    split at h
    · next hlen =>
      subst hlen
      obtain ⟨x, y, r, e8, e9⟩ := am_l2_eq h
      subst e8
      cases e9
      exact lv_ladd hx hb hdg (kk H locs ls hl hR hS)
    · cases h
  case lsub =>
    simp only [am_st] at h
    split at h
    · next hlen =>
      subst hlen
      obtain ⟨x, y, r, e8, e9⟩ := am_l2_eq h
      subst e8
      cases e9
      exact lv_lsub hx hb hdg (kk H locs ls hl hR hS)
    · cases h
  case lmul =>
    simp only [am_st] at h
    split at h
    · next hlen =>
      subst hlen
      obtain ⟨x, y, r, e8, e9⟩ := am_l2_eq h
      subst e8
      cases e9
      exact lv_lmul hx hb hdg (kk H locs ls hl hR hS)
    · cases h
  case land =>
    simp only [am_st] at h
    split at h
    · next hlen =>
      subst hlen
      obtain ⟨x, y, r, e8, e9⟩ := am_l2_eq h
      subst e8
      cases e9
      exact lv_land hx hb hdg (kk H locs ls hl hR hS)
    · cases h
  case lor =>
    simp only [am_st] at h
    split at h
    · next hlen =>
      subst hlen
      obtain ⟨x, y, r, e8, e9⟩ := am_l2_eq h
      subst e8
      cases e9
      exact lv_lor hx hb hdg (kk H locs ls hl hR hS)
    · cases h
  case lxor =>
    simp only [am_st] at h
    split at h
    · next hlen =>
      subst hlen
      obtain ⟨x, y, r, e8, e9⟩ := am_l2_eq h
      subst e8
      cases e9
      exact lv_lxor hx hb hdg (kk H locs ls hl hR hS)
    · cases h
  case lshl =>
    simp only [am_st] at h
    split at h
    · next hlen =>
      subst hlen
      split at h
      · next y x r =>
        cases h
        exact lv_lshl hx hb hdg rfl (kk H locs ls hl hR hS)
      · cases h
    · cases h
  case lushr =>
    simp only [am_st] at h
    split at h
    · next hlen =>
      subst hlen
      split at h
      · next y x r =>
        cases h
        exact lv_lushr hx hb hdg rfl (kk H locs ls hl hR hS)
      · cases h
    · cases h
  case lcmp =>
    simp only [am_st] at h
    split at h
    · next hlen =>
      subst hlen
      split at h
      · next y x r =>
        cases h
        exact W.lcmp hx hb hdg (kk H locs ls hl hR hS)
      · cases h
    · cases h
  case i2l =>
    simp only [am_st] at h
    split at h
    · next hlen =>
      subst hlen
      split at h
      · next x r =>
        cases h
        exact lv_i2l hx hb hdg rfl (kk H locs ls hl hR hS)
      · cases h
    · cases h
  case l2i =>
    simp only [am_st] at h
    split at h
    · next hlen =>
      subst hlen
      split at h
      · next x r =>
        cases h
        exact lv_l2i hx hb hdg rfl (kk H locs ls hl hR hS)
      · cases h
    · cases h
  case dup =>
    simp only [am_st] at h
    split at h
    · next hlen =>
      subst hlen
      split at h
      · next x r =>
        cases h
        exact lv_dup (va := .int x) hx hb hdg rfl (kk H locs ls hl hR hS)
      · next x r =>
        cases h
        exact lv_dup (va := .ref (am_ad sp base x)) hx hb hdg rfl (kk H locs ls hl hR hS)
      · cases h
    · cases h
  case dup2 =>
    simp only [am_st] at h
    split at h
    · next hlen =>
      subst hlen
      split at h
      · next y x r =>
        cases h
        exact lv_dup2_11 (va := .int y) (vb := .ref (am_ad sp base x)) hx hb hdg rfl rfl (kk H locs ls hl hR hS)
      · cases h
    · cases h
  case pop =>
    simp only [am_st] at h
    split at h
    · next hlen =>
      subst hlen
      split at h
      · next x r =>
        cases h
        exact lv_pop (va := .int x) hx hb hdg rfl (kk H locs ls hl hR hS)
      · next x r =>
        cases h
        exact lv_pop (va := .ref (am_ad sp base x)) hx hb hdg rfl (kk H locs ls hl hR hS)
      · cases h
    · cases h
  case goto off =>
    simp only [am_st] at h
    split at h
    · next hlen =>
      subst hlen
      split at h
      · next t ht =>
        cases h
        exact lv_goto hx hb hdg (am_tg_eq ht) (kk H locs ls hl hR hS)
      · cases h
    · cases h
  case ifCond cnd off =>
    simp only [am_st] at h
    split at h
    · next hlen =>
      subst hlen
      split at h
      · next x r =>
        cases cnd <;> (simp only at h; obtain ⟨t, ht, hc⟩ := am_br_eq h; rcases hc with ⟨hc, e9⟩ | ⟨hc, e9⟩ <;> cases e9)
        · exact lv_if_eq hx hb hdg ht (fun _ => kk H locs ls hl hR hS) (fun hn => absurd (of_decide_eq_true hc) hn)
        · exact lv_if_eq hx hb hdg ht (fun hn => absurd hn (of_decide_eq_false hc)) (fun _ => kk H locs ls hl hR hS)
        · exact lv_if_ne hx hb hdg ht (fun _ => kk H locs ls hl hR hS) (fun hn => absurd hn (of_decide_eq_true hc))
        · exact lv_if_ne hx hb hdg ht (fun hn => absurd hn (of_decide_eq_false hc)) (fun _ => kk H locs ls hl hR hS)
        · exact lv_if_lt hx hb hdg ht (fun _ => kk H locs ls hl hR hS) (fun hn => absurd (of_decide_eq_true hc) hn)
        · exact lv_if_lt hx hb hdg ht (fun hn => absurd hn (of_decide_eq_false hc)) (fun _ => kk H locs ls hl hR hS)
        · exact lv_if_ge hx hb hdg ht (fun _ => kk H locs ls hl hR hS) (fun hn => absurd (of_decide_eq_true hc) hn)
        · exact lv_if_ge hx hb hdg ht (fun hn => absurd hn (of_decide_eq_false hc)) (fun _ => kk H locs ls hl hR hS)
        · exact lv_if_gt hx hb hdg ht (fun _ => kk H locs ls hl hR hS) (fun hn => absurd (of_decide_eq_true hc) hn)
        · exact lv_if_gt hx hb hdg ht (fun hn => absurd hn (of_decide_eq_false hc)) (fun _ => kk H locs ls hl hR hS)
        · exact lv_if_le hx hb hdg ht (fun _ => kk H locs ls hl hR hS) (fun hn => absurd (of_decide_eq_true hc) hn)
        · exact lv_if_le hx hb hdg ht (fun hn => absurd hn (of_decide_eq_false hc)) (fun _ => kk H locs ls hl hR hS)
      · cases h
    · cases h
  case if_icmp cnd off =>
    simp only [am_st] at h
    split at h
    · next hlen =>
      subst hlen
      split at h
      · next y x r =>
        cases cnd <;> (simp only at h; obtain ⟨t, ht, hc⟩ := am_br_eq h; rcases hc with ⟨hc, e9⟩ | ⟨hc, e9⟩ <;> cases e9)
        · exact lv_icmp_eq hx hb hdg ht (fun _ => kk H locs ls hl hR hS) (fun hn => absurd (of_decide_eq_true hc) hn)
        · exact lv_icmp_eq hx hb hdg ht (fun hn => absurd hn (of_decide_eq_false hc)) (fun _ => kk H locs ls hl hR hS)
        · exact lv_icmp_ne hx hb hdg ht (fun _ => kk H locs ls hl hR hS) (fun hn => absurd hn (of_decide_eq_true hc))
        · exact lv_icmp_ne hx hb hdg ht (fun hn => absurd hn (of_decide_eq_false hc)) (fun _ => kk H locs ls hl hR hS)
        · exact lv_icmp_lt hx hb hdg ht (fun _ => kk H locs ls hl hR hS) (fun hn => absurd (of_decide_eq_true hc) hn)
        · exact lv_icmp_lt hx hb hdg ht (fun hn => absurd hn (of_decide_eq_false hc)) (fun _ => kk H locs ls hl hR hS)
        · exact lv_icmp_ge hx hb hdg ht (fun _ => kk H locs ls hl hR hS) (fun hn => absurd (of_decide_eq_true hc) hn)
        · exact lv_icmp_ge hx hb hdg ht (fun hn => absurd hn (of_decide_eq_false hc)) (fun _ => kk H locs ls hl hR hS)
        · exact lv_icmp_gt hx hb hdg ht (fun _ => kk H locs ls hl hR hS) (fun hn => absurd (of_decide_eq_true hc) hn)
        · exact lv_icmp_gt hx hb hdg ht (fun hn => absurd hn (of_decide_eq_false hc)) (fun _ => kk H locs ls hl hR hS)
        · exact lv_icmp_le hx hb hdg ht (fun _ => kk H locs ls hl hR hS) (fun hn => absurd (of_decide_eq_true hc) hn)
        · exact lv_icmp_le hx hb hdg ht (fun hn => absurd hn (of_decide_eq_false hc)) (fun _ => kk H locs ls hl hR hS)
      · cases h
    · cases h
  case ifnull off =>
    simp only [am_st] at h
    split at h
    · next hlen =>
      subst hlen
      split at h
      · next x r =>
        cases h
        exact lv_ifnull hx hb hdg (kk H locs ls hl hR hS)
      · cases h
    · cases h
  case getfield k =>
    simp only [am_st] at h
    split at h
    · next hlen =>
      subst hlen
      obtain ⟨ci, f, t, i0, r, v, hf, e8, hg, e9⟩ := am_getf_eq h
      subst e8
      cases e9
      have ho := am_flx hf
      simp only [am_flok, Bool.and_eq_true, decide_eq_true_eq] at ho
      obtain ⟨⟨⟨h8, hk⟩, h1, g1⟩, -⟩ := ho
      exact am_rget hx hb hts (am_ci_in h8) hown hK hR (am_ci h8) hk (List.mem_filter.mpr ⟨h1, g1⟩) hg hdg (kk H locs ls hl hR hS)
    · cases h
  case putfield k =>
    simp only [am_st] at h
    split at h
    · next hlen =>
      subst hlen
      obtain ⟨ci, f, t, i0, r, v, w2, hf, e8, hg, e9, hv⟩ := am_putf_eq h
      subst e8
      cases e9
      have ho := am_flx hf
      simp only [am_flok, Bool.and_eq_true, decide_eq_true_eq] at ho
      obtain ⟨⟨⟨h8, hk⟩, h1, g1⟩, h2⟩ := ho
      obtain ⟨fs, -, -, -, ew⟩ := am_pv_eq hg
      have hcs : w'.1 - c0 = w.1 - c0 ∧ w'.2.1 - s0 = w.2.1 - s0 := by subst ew; exact ⟨rfl, rfl⟩
      rw [hcs.1, hcs.2] at kk
      refine am_rput hx hb hts (am_ci_in h8) (am_Fy ci) (am_ci_ty h8) (am_ci_nm h8) hown hK hR hS (am_ci h8) hk (List.mem_filter.mpr ⟨h1, g1⟩) ?_ hg ?_ hdg (fun H1 locs1 hR1 hS1 => kk H1 locs1 ls hl hR1 hS1)
      · rcases hv with ⟨rfl, hv⟩ | ⟨rfl, hv⟩ | ⟨rfl, hv⟩ | ⟨rfl, hi, hv⟩ <;> simp only [Bool.and_eq_true, decide_eq_true_eq, Bool.not_eq_true'] at h2
        · exact Or.inl h2.2
        · exact Or.inl h2.2
        · exact Or.inl h2.2
        · exact Or.inr ⟨h2.1.2, hini hi, h2.2⟩
      · rcases hv with ⟨rfl, hv⟩ | ⟨rfl, hv⟩ | ⟨rfl, hv⟩ | ⟨rfl, hi, hv⟩ <;> simp only [Bool.and_eq_true, decide_eq_true_eq, Bool.not_eq_true'] at h2
        · exact Or.inl ⟨h2.1, hv⟩
        · exact Or.inr (Or.inl ⟨h2.1, hv⟩)
        · refine Or.inr (Or.inr ⟨?_, hv⟩)
          have h3 := h2.1
          split at h3
          · next n hn => exact Or.inl ⟨n, hn⟩
          · next n hn => exact Or.inr ⟨n, hn⟩
          · cases h3
        · refine Or.inr (Or.inr ⟨?_, hv⟩)
          have h3 := h2.1.1
          split at h3
          · next n hn => exact Or.inl ⟨n, hn⟩
          · next n hn => exact Or.inr ⟨n, hn⟩
          · cases h3
    · cases h
  case iaload =>
    simp only [am_st] at h
    split at h
    · next hlen =>
      subst hlen
      split at h
      · next j a r =>
        split at h
        · next x ha =>
          cases h
          exact am_rai hx hb hE hb0 hR hS ha hdg (kk H locs ls hl hR hS)
        · cases h
      · cases h
    · cases h
  case laload =>
    simp only [am_st] at h
    split at h
    · next hlen =>
      subst hlen
      split at h
      · next j a r =>
        split at h
        · next x ha =>
          cases h
          exact am_raj hx hb hK hR ha hdg (kk H locs ls hl hR hS)
        · cases h
      · cases h
    · cases h
  case baload =>
    simp only [am_st] at h
    split at h
    · next hlen =>
      subst hlen
      split at h
      · next j a r =>
        split at h
        · next x ha =>
          cases h
          exact am_raz hx hb hK hR ha hdg (kk H locs ls hl hR hS)
        · cases h
      · cases h
    · cases h
  case aaload =>
    simp only [am_st] at h
    split at h
    · next hlen =>
      subst hlen
      split at h
      · next j a r =>
        split at h
        · next x ha =>
          cases h
          exact am_rax hx hb hK hR ha hdg (kk H locs ls hl hR hS)
        · cases h
      · cases h
    · cases h
  case arraylength =>
    simp only [am_st] at h
    split at h
    · next hlen =>
      subst hlen
      split at h
      · next a r =>
        split at h
        · next x ha =>
          cases h
          exact am_ral hx hb hE hb0 hR hS ha hdg (kk H locs ls hl hR hS)
        · cases h
      · cases h
    · cases h
  case iastore =>
    simp only [am_st] at h
    split at h
    · next hlen =>
      subst hlen
      split at h
      · next x j a r =>
        split at h
        · next w2 ha =>
          cases h
          have hcs := am_si_cs ha
          rw [hcs.1, hcs.2] at kk
          exact am_rsi hx hb hK hR hS ha hdg (fun H1 locs1 hR1 hS1 => kk H1 locs1 ls hl hR1 hS1)
        · cases h
      · cases h
    · cases h
  case lastore =>
    simp only [am_st] at h
    split at h
    · next hlen =>
      subst hlen
      split at h
      · next x j a r =>
        split at h
        · next w2 ha =>
          cases h
          have hcs := am_sj_cs ha
          rw [hcs.1, hcs.2] at kk
          exact am_rsj hx hb hK hR hS ha hdg (fun H1 locs1 hR1 hS1 => kk H1 locs1 ls hl hR1 hS1)
        · cases h
      · cases h
    · cases h
  case bastore =>
    simp only [am_st] at h
    split at h
    · next hlen =>
      subst hlen
      split at h
      · next x j a r =>
        split at h
        · next w2 ha =>
          cases h
          have hcs := am_sz_cs ha
          rw [hcs.1, hcs.2] at kk
          exact am_rsz1 hx hb hK hR hS ha hdg (fun H1 locs1 hR1 hS1 => kk H1 locs1 ls hl hR1 hS1)
        · cases h
      · cases h
    · cases h
  case aastore =>
    simp only [am_st] at h
    split at h
    · next hlen =>
      subst hlen
      split at h
      · next x j a r =>
        split at h
        · next w2 ha =>
          cases h
          have hcs := am_sx_cs ha
          rw [hcs.1, hcs.2] at kk
          exact am_rsx hx hb hK hR hS ha hdg (fun H1 locs1 hR1 hS1 => kk H1 locs1 ls hl hR1 hS1)
        · cases h
      · cases h
    · cases h
  case newarray t =>
    simp only [am_st] at h
    split at h
    · next hlen =>
      subst hlen
      split at h
      · next n r =>
        split at h
        · next w2 ha =>
          cases h
          obtain ⟨hn0, hn1, hcase⟩ := am_na_eq ha
          refine am_rsz (fun hsz => ?_)
          have hcs : w'.1 = w.1 + 1 ∧ w'.2.1 = w.2.1 + n.toNatClampNeg := by
            rcases hcase with ⟨-, q⟩ | ⟨-, q⟩ | ⟨-, q⟩ | ⟨-, q⟩ <;> exact am_nw_eq q
          have k2 : ∀ (H1 : Heap), am_R D dA sp base L xs w' H1 → va_S (fun q => base ≤ q) s.heap H1 locs → W p l e R s m args below meth c H1 locs (w.1 - c0 + 1) (w.2.1 - s0 + n.toNatClampNeg) Q (F0 m (pc + 2) ls (.ref (am_ad sp base w.2.2.length) :: r.map (am_rv sp base))) := by
            intro H1 hR1 hS1
            have h9 := kk H1 locs ls hl hR1 hS1
            rw [hcs.1, hcs.2, show w.1 + 1 - c0 = w.1 - c0 + 1 by omega, show w.2.1 + n.toNatClampNeg - s0 = w.2.1 - s0 + n.toNatClampNeg by omega] at h9
            exact h9
          cases t
          case int =>
            rcases hcase with ⟨-, q⟩ | ⟨q, -⟩ | ⟨q, -⟩ | ⟨q, -⟩
            · exact am_rna0 (t := 0) (atype := .int) (ty := .int) rfl hx hb (hts _ am_arr_i) hK rfl rfl hR hS (by omega) hn0 hn1 (by decide) rfl rfl q (by omega) (by omega) hdg k2
            · cases q
            · cases q
            · cases q
          case long =>
            rcases hcase with ⟨q, -⟩ | ⟨-, q⟩ | ⟨q, -⟩ | ⟨q, -⟩
            · cases q
            · exact am_rna0 (t := 1) (atype := .long) (ty := .long) rfl hx hb (hts _ am_arr_l) hK rfl rfl hR hS (by omega) hn0 hn1 (by decide) rfl rfl q (by omega) (by omega) hdg k2
            · cases q
            · cases q
          case boolean =>
            rcases hcase with ⟨q, -⟩ | ⟨q, -⟩ | ⟨-, q⟩ | ⟨q, -⟩
            · cases q
            · cases q
            · exact am_rna0 (t := 2) (atype := .boolean) (ty := .boolean) rfl hx hb (hts _ am_arr_z) hK rfl rfl hR hS (by omega) hn0 hn1 (by decide) rfl rfl q (by omega) (by omega) hdg k2
            · cases q
          all_goals (rcases hcase with ⟨q, -⟩ | ⟨q, -⟩ | ⟨q, -⟩ | ⟨q, -⟩ <;> cases q)
        · cases h
      · cases h
    · cases h
  case new k =>
    simp only [am_st] at h
    split at h
    · next hlen =>
      subst hlen
      split at h
      · next ci hc =>
        split at h
        · next fs hf =>
          split at h
          · next w2 hn =>
            cases h
            refine am_rsz (fun hsz => ?_)
            have hcs := am_nw_eq hn
            refine am_rnew hx hb hts hown hK hR hS (by omega) hc hf hn (by omega) (by omega) hdg (fun H1 hR1 hS1 => ?_)
            have h9 := kk H1 locs ls hl hR1 hS1
            rw [hcs.1, hcs.2, show w.1 + 1 - c0 = w.1 - c0 + 1 by omega, show w.2.1 + fs.length - s0 = w.2.1 - s0 + fs.length by omega] at h9
            exact h9
          · cases h
        · cases h
      · cases h
    · cases h
  case getstatic k =>
    simp only [am_st] at h
    split at h
    · next hlen =>
      obtain ⟨rfl, h1, rfl⟩ := hlen
      cases h
      rw [h1] at hown
      exact va_gets (ref := "GridColours") hx hb hE.2.2.2.2.1.1 hS hown (hts _ am_gsl) (fun _ h9 => h9) hdg (kk H locs ls hl hR hS)
    · cases h
  case anewarray k =>
    simp only [am_st] at h
    split at h
    · next hlen =>
      obtain ⟨rfl, hc⟩ := hlen
      split at h
      · next n r =>
        split at h
        · next w2 ha =>
          cases h
          obtain ⟨hn0, hn1, hcase⟩ := am_na_eq ha
          refine am_rsz (fun hsz => ?_)
          rcases hcase with ⟨q, -⟩ | ⟨q, -⟩ | ⟨q, -⟩ | ⟨-, q⟩
          · cases q
          · cases q
          · cases q
          · have hcs := am_nw_eq q
            refine am_rnq hx hb hts hown hE hR hS (by omega) hc hn0 hn1 q (by omega) (by omega) hdg (fun H1 hR1 hS1 => ?_)
            have h9 := kk H1 locs ls hl hR1 hS1
            rw [hcs.1, hcs.2, show w.1 + 1 - c0 = w.1 - c0 + 1 by omega, show w.2.1 + n.toNatClampNeg - s0 = w.2.1 - s0 + n.toNatClampNeg by omega] at h9
            exact h9
        · cases h
      · cases h
    · cases h
  case tableswitch df lo hi offs =>
    simp only [am_st] at h
    split at h
    · next x r =>
      split at h
      · next hout =>
        split at h
        · next t ht =>
          cases h
          exact lv_tableOut hx hb hdg hout (am_tg_eq ht) (kk H locs ls hl hR hS)
        · cases h
      · next hin =>
        split at h
        · next o ho =>
          split at h
          · next t ht =>
            cases h
            exact lv_tableIn hx hb hdg (fun z => hin (Or.inl z)) (fun z => hin (Or.inr z)) ho (am_tg_eq ht) (kk H locs ls hl hR hS)
          · cases h
        · cases h
    · cases h
  case ldc k =>
    simp only [am_st] at h
    split at h
    · next hlen =>
      subst hlen
      split at h
      · next x hc =>
        cases h
        have ho := am_ctx hc
        simp only [am_ctok, Bool.and_eq_true, decide_eq_true_eq] at ho
        exact lv_ldc hx hb hown (hts _ (List.mem_filter.mpr ho)) hdg (kk H locs ls hl hR hS)
      · next x hc =>
        cases h
        have ho := am_ctx hc
        simp only [am_ctok, decide_eq_true_eq] at ho
        exact am_rldc hx hb hown hE ho hdg (kk H locs ls hl hR hS)
      · cases h
    · cases h
  case ldc_w k =>
    simp only [am_st] at h
    split at h
    · next hlen =>
      subst hlen
      split at h
      · next x hc =>
        cases h
        have ho := am_ctx hc
        simp only [am_ctok, Bool.and_eq_true, decide_eq_true_eq] at ho
        exact lv_ldcw hx hb hown (hts _ (List.mem_filter.mpr ho)) hdg (kk H locs ls hl hR hS)
      · cases h
    · cases h
  case ldc2_w k =>
    simp only [am_st] at h
    split at h
    · next hlen =>
      subst hlen
      split at h
      · next x hc =>
        cases h
        have ho := am_ctx hc
        simp only [am_ctok, Bool.and_eq_true, decide_eq_true_eq] at ho
        exact lv_ldc2 hx hb hown (hts _ (List.mem_filter.mpr ho)) hdg (kk H locs ls hl hR hS)
      · cases h
    · cases h
  case invokespecial k =>
    simp only [am_st] at h
    split at h
    · next hlen =>
      subst hlen
      split at h
      · next M' n' x r hm =>
        split at h
        · next hr8 =>
          cases h
          obtain ⟨ps, ho⟩ := am_mtx hm
          have ho : am_at ps 0 (.methodLink (am_cn M.2.2.2.2.1) k Lib.objectInit) = true := ho
          have hr9 : ((st'.map (am_rv sp base)).map fun v => v.category).sum ≤ 8 := by rw [am_cats]; exact hr8
          exact W.objInit hx hb hown (hts _ (am_at_mem ho)) (hts _ am_objm) (hts _ am_objc) rfl (by rw [hml]; exact hl.1) rfl hdg (by omega) (by have h9 : (F0 m pc ls (.ref (am_ad sp base x) :: st'.map (am_rv sp base))).monitorRoom = 0 := rfl; rw [h9]; omega) (kk H locs ls hl hR hS)
        · cases h
      · cases h
    · cases h
  case invokestatic k =>
    simp only [am_st] at h
    split at h
    · next hlen =>
      subst hlen
      split at h
      · next M' n' y x r hm =>
        split at h
        · next hr8 =>
          cases h
          obtain ⟨ps, ho⟩ := am_mtx hm
          have ho : am_at ps 0 (.methodLink (am_cn M.2.2.2.2.1) k Lib.Math.min.name) = true := ho
          have hr9 : ((r.map (am_rv sp base)).map fun v => v.category).sum ≤ 8 := by rw [am_cats]; exact hr8
          exact va_mmin hx hb (by rw [hml]; exact hl.1.symm) hown (hts _ (am_at_mem ho)) (hts _ am_min_s) (hts _ am_math_i) (hts _ am_min_c) (by omega) (by omega) (by omega) (by omega) hdg (kk H locs ls hl hR hS)
        · cases h
      · next M' n' y x r hm =>
        split at h
        · next hr8 =>
          cases h
          obtain ⟨ps, ho⟩ := am_mtx hm
          have ho : am_at ps 0 (.methodLink (am_cn M.2.2.2.2.1) k Lib.Math.max.name) = true := ho
          have hr9 : ((r.map (am_rv sp base)).map fun v => v.category).sum ≤ 8 := by rw [am_cats]; exact hr8
          exact va_mmax hx hb (by rw [hml]; exact hl.1.symm) hown (hts _ (am_at_mem ho)) (hts _ am_max_s) (hts _ am_math_i) (hts _ am_max_c) (by omega) (by omega) (by omega) (by omega) hdg (kk H locs ls hl hR hS)
        · cases h
      · cases h
    · cases h
  case invokevirtual k =>
    simp only [am_st] at h
    split at h
    · next hlen =>
      subst hlen
      split at h
      · next M' n' i0 r hm =>
        split at h
        · next hr8 =>
          split at h
          · next x hc =>
            cases h
            obtain ⟨ps, ho⟩ := am_mtx hm
            have ho : decide (M.2.2.2.2.1 = 3 ∧ k = 114) = true := ho
            have hr9 : ((r.map (am_rv sp base)).map fun v => v.category).sum ≤ 8 := by rw [am_cats]; exact hr8
            exact am_rtl hx hb hml hown hts hE hb0 (of_decide_eq_true ho) hl.1 hrf hrl (by omega) (by omega) hR hS hr9 hc hdg (kk H locs ls hl hR hS)
          · cases h
        · cases h
      · next M' n' j i0 r hm =>
        split at h
        · next hr8 =>
          split at h
          · next x hc =>
            cases h
            obtain ⟨ps, ho⟩ := am_mtx hm
            have ho : decide (M.2.2.2.2.1 = 3 ∧ k = 117) = true := ho
            have hr9 : ((r.map (am_rv sp base)).map fun v => v.category).sum ≤ 8 := by rw [am_cats]; exact hr8
            exact am_rtc hx hb hml hown hts hE hb0 (of_decide_eq_true ho) hl.1 hrf hrl (by omega) (by omega) hR hS hr9 hc hdg (kk H locs ls hl hR hS)
          · cases h
        · cases h
      · cases h
    · cases h
end AMS
