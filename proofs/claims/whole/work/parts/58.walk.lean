/-! THE WALK: what the small machine comes to, the machine comes to -/
theorem am_st_mono {M : am_M} {i : Instr} {len pc pc' : Nat} {ls ls' : List (Option Value)} {st st' : List Value} {w w' : am_W} (h : am_st M i len pc ls st w = some (pc', ls', st', w')) : w.1 ≤ w'.1 ∧ w.2.1 ≤ w'.2.1 := by
  have hs : ∀ {a b : Nat}, a = b → b ≤ a := fun e => Nat.le_of_eq e.symm
  cases i
  all_goals first
    | (cases h; done)
    | skip
  all_goals simp only [am_st] at h
  all_goals (try (split at h <;> try (cases h; done)))
  case iload_n => obtain ⟨x, hk, e9⟩ := am_ldi_eq h; cases e9; exact ⟨Nat.le_refl _, Nat.le_refl _⟩
  case iload => obtain ⟨x, hk, e9⟩ := am_ldi_eq h; cases e9; exact ⟨Nat.le_refl _, Nat.le_refl _⟩
  case aload_n => obtain ⟨x, hk, e9⟩ := am_lda_eq h; cases e9; exact ⟨Nat.le_refl _, Nat.le_refl _⟩
  case aload => obtain ⟨x, hk, e9⟩ := am_lda_eq h; cases e9; exact ⟨Nat.le_refl _, Nat.le_refl _⟩
  case lload_n => obtain ⟨x, hk, hm, e9⟩ := am_ldl_eq h; cases e9; exact ⟨Nat.le_refl _, Nat.le_refl _⟩
  case lload => obtain ⟨x, hk, hm, e9⟩ := am_ldl_eq h; cases e9; exact ⟨Nat.le_refl _, Nat.le_refl _⟩
  case istore_n => obtain ⟨x, r, hk, hm, e9⟩ := am_sti_eq h; cases e9; exact ⟨Nat.le_refl _, Nat.le_refl _⟩
  case istore => obtain ⟨x, r, hk, hm, e9⟩ := am_sti_eq h; cases e9; exact ⟨Nat.le_refl _, Nat.le_refl _⟩
  case astore_n => obtain ⟨x, r, hk, hm, e9⟩ := am_sta_eq h; cases e9; exact ⟨Nat.le_refl _, Nat.le_refl _⟩
  case astore => obtain ⟨x, r, hk, hm, e9⟩ := am_sta_eq h; cases e9; exact ⟨Nat.le_refl _, Nat.le_refl _⟩
  case lstore_n => obtain ⟨x, r, hk, hm, e9⟩ := am_stl_eq h; cases e9; exact ⟨Nat.le_refl _, Nat.le_refl _⟩
  case lstore => obtain ⟨x, r, hk, hm, e9⟩ := am_stl_eq h; cases e9; exact ⟨Nat.le_refl _, Nat.le_refl _⟩
  case getfield => obtain ⟨ci, f, t, i0, r, v, hf, e8, hg, e9⟩ := am_getf_eq h; cases e9; exact ⟨Nat.le_refl _, Nat.le_refl _⟩
  case putfield =>
    obtain ⟨ci, f, t, i0, r, v, w2, hf, e8, hg, e9, hv⟩ := am_putf_eq h
    cases e9
    obtain ⟨fs, -, -, -, rfl⟩ := am_pv_eq hg
    exact ⟨Nat.le_refl _, Nat.le_refl _⟩
  case new =>
    split at h
    · split at h
      · split at h
        · next w2 hn => cases h; have := am_nw_eq hn; omega
        · cases h
      · cases h
    · cases h
  case newarray =>
    split at h
    · split at h
      · next w2 hn =>
        cases h
        obtain ⟨-, -, q⟩ := am_na_eq hn
        rcases q with ⟨-, q⟩ | ⟨-, q⟩ | ⟨-, q⟩ | ⟨-, q⟩ <;> (have := am_nw_eq q; omega)
      · cases h
    · cases h
  case anewarray =>
    split at h
    · split at h
      · next w2 hn =>
        cases h
        obtain ⟨-, -, q⟩ := am_na_eq hn
        rcases q with ⟨-, q⟩ | ⟨-, q⟩ | ⟨-, q⟩ | ⟨-, q⟩ <;> (have := am_nw_eq q; omega)
      · cases h
    · cases h
  case iastore =>
    split at h
    · split at h
      · next w2 hn => cases h; have := am_si_cs hn; omega
      · cases h
    · cases h
  case lastore =>
    split at h
    · split at h
      · next w2 hn => cases h; have := am_sj_cs hn; omega
      · cases h
    · cases h
  case bastore =>
    split at h
    · split at h
      · next w2 hn => cases h; have := am_sz_cs hn; omega
      · cases h
    · cases h
  case aastore =>
    split at h
    · split at h
      · next w2 hn => cases h; have := am_sx_cs hn; omega
      · cases h
    · cases h
  case ifCond =>
    split at h
    · split at h <;> (obtain ⟨t, ht, hc⟩ := am_br_eq h; rcases hc with ⟨hc, e9⟩ | ⟨hc, e9⟩ <;> cases e9 <;> exact ⟨Nat.le_refl _, Nat.le_refl _⟩)
    · cases h
  case if_icmp =>
    split at h
    · split at h <;> (obtain ⟨t, ht, hc⟩ := am_br_eq h; rcases hc with ⟨hc, e9⟩ | ⟨hc, e9⟩ <;> cases e9 <;> exact ⟨Nat.le_refl _, Nat.le_refl _⟩)
    · cases h
  all_goals first
    | (obtain ⟨x, y, r, e8, e9⟩ := am_b2_eq h; cases e9; exact ⟨Nat.le_refl _, Nat.le_refl _⟩)
    | (obtain ⟨x, y, r, e8, e9⟩ := am_l2_eq h; cases e9; exact ⟨Nat.le_refl _, Nat.le_refl _⟩)
    | (cases h; exact ⟨Nat.le_refl _, Nat.le_refl _⟩)
    | (split at h <;> first | (cases h; done) | (cases h; exact ⟨Nat.le_refl _, Nat.le_refl _⟩))
    | (split at h <;> first | (cases h; done) | (cases h; exact ⟨Nat.le_refl _, Nat.le_refl _⟩) | (split at h <;> first | (cases h; done) | (cases h; exact ⟨Nat.le_refl _, Nat.le_refl _⟩)))
    | (split at h <;> first | (cases h; done) | (cases h; exact ⟨Nat.le_refl _, Nat.le_refl _⟩) | (split at h <;> first | (cases h; done) | (cases h; exact ⟨Nat.le_refl _, Nat.le_refl _⟩) | (split at h <;> first | (cases h; done) | (cases h; exact ⟨Nat.le_refl _, Nat.le_refl _⟩))))
theorem am_ret_eq {M : am_M} {i : Instr} {len : Nat} {st : List Value} {w wf : am_W} {v : Option Value} (h : am_ret M i len st w = some (wf, v)) :
    (len = 1 ∧ wf = w ∧ ((i = .ireturn ∧ M.2.2.2.1 = some .int ∧ ∃ x, st = [.int x] ∧ v = some (.int x)) ∨ (i = .ireturn ∧ M.2.2.2.1 = some .boolean ∧ ∃ x, st = [.int x] ∧ v = some (.int x) ∧ (x = 0 ∨ x = 1)) ∨ (i = .lreturn ∧ M.2.2.2.1 = some .long ∧ ∃ x, st = [.long x] ∧ v = some (.long x)) ∨ (i = .areturn ∧ (∃ n, M.2.2.2.1 = some (.object n)) ∧ ∃ x, st = [.ref x] ∧ v = some (.ref x)) ∨ (i = .return_ ∧ M.2.2.2.1 = none ∧ st = [] ∧ v = none))) ∨
    (M.2.2.2.2.1 = 0 ∧ i = .new 131 ∧ st = [] ∧ wf = (w.1 + 1, w.2.1 + 6, w.2.2) ∧ v = some (.retAddr 0)) := by
  unfold am_ret at h
  split at h
  · next hl =>
    left
    refine ⟨hl, ?_⟩
    split at h
    · split at h
      · next x hr => cases h; exact ⟨rfl, Or.inl ⟨rfl, hr, x, rfl, rfl⟩⟩
      · next x hr =>
        split at h
        · next hx => cases h; exact ⟨rfl, Or.inr (Or.inl ⟨rfl, hr, x, rfl, rfl, hx⟩)⟩
        · cases h
      · cases h
    · split at h
      · next x hr => cases h; exact ⟨rfl, Or.inr (Or.inr (Or.inl ⟨rfl, hr, x, rfl, rfl⟩))⟩
      · cases h
    · split at h
      · next n x hr => cases h; exact ⟨rfl, Or.inr (Or.inr (Or.inr (Or.inl ⟨rfl, ⟨_, hr⟩, x, rfl, rfl⟩)))⟩
      · cases h
    · split at h
      · next hr => cases h; exact ⟨rfl, Or.inr (Or.inr (Or.inr (Or.inr ⟨rfl, hr, rfl, rfl⟩)))⟩
      · cases h
    · cases h
  · right
    split at h
    · split at h
      · next hq => obtain ⟨h1, rfl, h2⟩ := hq; cases h; exact ⟨h1, rfl, h2, rfl, rfl⟩
      · cases h
    · cases h
theorem am_ret_mono {M : am_M} {i : Instr} {len : Nat} {st : List Value} {w wf : am_W} {v : Option Value} (h : am_ret M i len st w = some (wf, v)) : w.1 ≤ wf.1 ∧ w.2.1 ≤ wf.2.1 := by
  rcases am_ret_eq h with ⟨-, rfl, -⟩ | ⟨-, -, -, rfl, -⟩
  · exact ⟨Nat.le_refl _, Nat.le_refl _⟩
  · exact ⟨Nat.le_succ _, Nat.le_add_right _ _⟩
theorem am_aft_mono {kd : Nat} {v : Option Value} {w w' : am_W} {vs : List Value} (h : am_aft kd v w = some (w', vs)) : w'.1 = w.1 ∧ w'.2.1 = w.2.1 := by
  unfold am_aft at h
  split at h
  · cases h
  · cases h; exact ⟨rfl, rfl⟩
  · cases h; exact ⟨rfl, rfl⟩
  · split at h
    · next w2 hn => cases h; exact am_sj_cs hn
    · cases h
  · cases h
theorem am_grow : ∀ (n d : Nat) (M : am_M) (pc : Nat) (ls : List (Option Value)) (st : List Value) (w wf : am_W) (v : Option Value), am n d M pc ls st w = some (wf, v) → w.1 ≤ wf.1 ∧ w.2.1 ≤ wf.2.1 := by
  intro n
  induction n with
  | zero => intro d M pc ls st w wf v h; cases h
  | succ n ih =>
    intro d M pc ls st w wf v h
    unfold am at h
    split at h
    · cases h
    · split at h
      · next r hr => cases h; exact am_ret_mono hr
      · split at h
        · split at h
          · cases h
          · split at h
            · cases h
            · next w' v' hc =>
              split at h
              · cases h
              · next w'' vs ha =>
                have h1 := ih _ _ _ _ _ _ _ _ hc
                have h2 := ih _ _ _ _ _ _ _ _ h
                have h3 := am_aft_mono ha
                omega
        · split at h
          · cases h
          · next p1 l1 s1 w1 hs =>
            have h1 := am_st_mono hs
            have h2 := ih _ _ _ _ _ _ _ _ h
            omega
