/-! A WHOLE TEXT -/
noncomputable def pLine (b : Nat → Nat) (t ln h v s : Nat) (col : Nat → Nat) (rr p : Nat) : Except (Nat × Nat) (Nat × Nat × Nat × Nat × (Nat → Nat) × Nat) :=
  if ln = 0 then (@ite _ (wdP b (tks b t p).1 (tks b t p).2.1 (tks b t p).2.2.1 am_g4 4) (Classical.propDecidable _) (match pGrid b t (tks b t p).2.2.1 with
    | .error e => .error e
    | .ok x => .ok (x.2.2.2, x.1, x.2.1, x.2.2.1, (fun _ => 0), rr)) (.error (1, (tks b t p).2.1)))
  else (@ite _ (wdP b (tks b t p).1 (tks b t p).2.1 (tks b t p).2.2.1 am_g3 3) (Classical.propDecidable _) (if rr < h then (match pCells b t v s rr v 0 (tks b t p).2.2.1 col with
    | .error e => .error e
    | .ok x => .ok (x.1, h, v, s, x.2, rr + 1)) else .error (3, (tks b t p).2.1)) (.error (1, (tks b t p).2.1)))
noncomputable def pAll (b : Nat → Nat) (t : Nat) : Nat → Nat → Nat → Nat → Nat → Nat → (Nat → Nat) → Nat → Except (Nat × Nat) (Nat × Nat × Nat × Nat × (Nat → Nat))
  | 0, _, _, _, _, _, _, _ => .error (0, 0)
  | N + 1, ln, p, h, v, s, col, rr => if (tks b t p).1 = 0 then (if t ≤ 400 then .ok (ln, h, v, s, col) else .error (1, (tks b t p).2.1)) else match pLine b t ln h v s col rr p with
    | .error e => .error e
    | .ok x => if (tks b t x.1).1 = 3 then pAll b t N (ln + 1) (tks b t x.1).2.2.1 x.2.1 x.2.2.1 x.2.2.2.1 x.2.2.2.2.1 x.2.2.2.2.2 else .error (1, (tks b t x.1).2.1)
section PTA
variable {n1 n2 L : Nat} {xs : Nat → Int32} {g : Nat → GR} {i : Nat → Int32} {A : Nat → Nat → Int32} {m : Nat → Int32} {B : Nat → Nat → Int32} {J : Nat → Int64} {wd : Int64} {o : Nat → Int64} {t : Nat} {b : Nat → Nat} {f' : Nat → Int32} {h v s : Nat} {col : Nat → Nat}
theorem R_line (ht : t ≤ 440) (T : tpp t b (A 10) f') {p ln rr : Nat} (hp : p ≤ t) (hi : i 73 = nI t) (h1 : i 121 = nI (tks b t p).1) (h2 : i 122 = nI (tks b t p).2.1) (h3 : ((tks b t p).1 = 1 ∨ (tks b t p).1 = 2 ∨ (tks b t p).1 = 3) → i 123 = nI (tks b t p).2.2.1) (h7 : i 127 = nI rr) (hrr : rr ≤ h) (C : cg g 16 h v s col) (O : gokz h v s col) (hln : ln = 0 ↔ h = 0) :
    (∀ x, pLine b t ln h v s col rr p = .ok x → ∃ f2 i', (if ln = 0 then f_R_readGrid 15 9 (mk n1 n2 L xs g i A m B J wd o) else f_R_readRow 15 9 (mk n1 n2 L xs g i A m B J wd o)) = some (mk n1 n2 L xs (up g 16 (x.2.1, x.2.2.1, x.2.2.2.1, f2)) i' A m B J wd o, 1) ∧ fs f2 x.2.1 x.2.2.1 x.2.2.2.2.1 ∧ gokz x.2.1 x.2.2.1 x.2.2.2.1 x.2.2.2.2.1 ∧ 0 < x.2.1 ∧ x.2.2.2.2.2 ≤ x.2.1 ∧ (∀ a, a < 121 ∨ a = 125 ∨ a = 126 ∨ 127 < a → i' a = i a) ∧ i' 123 = nI x.1 ∧ i' 127 = nI x.2.2.2.2.2 ∧ p < x.1 ∧ x.1 ≤ t) ∧
    (∀ e, pLine b t ln h v s col rr p = .error e → ∃ g' i', (if ln = 0 then f_R_readGrid 15 9 (mk n1 n2 L xs g i A m B J wd o) else f_R_readRow 15 9 (mk n1 n2 L xs g i A m B J wd o)) = some (mk n1 n2 L xs g' i' A m B J wd o, 0) ∧ (∀ a, a ≠ 16 → g' a = g a) ∧ (∀ a, a < 121 ∨ 127 < a → i' a = i a) ∧ i' 125 = nI e.1 ∧ i' 122 = nI e.2) := by
  have K := tks_ok b hp
  have k4 := TK_k4 K
  have h8 := O.1.1
  have h3w : (tks b t p).1 = 1 → i 123 = nI (tks b t p).2.2.1 ∧ (tks b t p).2.1 < (tks b t p).2.2.1 ∧ (tks b t p).2.2.1 ≤ t := fun z => ⟨h3 (Or.inl z), (TK_pos K (Or.inl z)).2.1, (TK_pos K (Or.inl z)).2.2.1⟩
  unfold pLine
  by_cases z : ln = 0
  · rw [if_pos z, if_pos z]
    unfold f_R_readGrid e_R_readGrid
    rw [sf15]
    rcases R_isWord (n1 := n1) (n2 := n2) (L := L) (xs := xs) (g := g) (m := m) (B := B) (J := J) (wd := wd) (o := o) ht T hi ar2 (by decide) (by decide) k4 h1 h2 h3w with ⟨w, ew⟩ | ⟨w, ew⟩
    · have tp := TK_pos K (Or.inl w.1)
      rw [if_pos w, ew, Option.bind_some, if_pos (show ¬ (1 : Int32) = 0 by decide)]
      obtain ⟨G1, G2⟩ := R_grid (n1 := n1) (n2 := n2) (L := L) (xs := xs) (g := g) (i := i) (m := m) (B := B) (J := J) (wd := wd) (o := o) ht T tp.2.2.1 hi (h3 (Or.inl w.1))
      cases hq : pGrid b t (tks b t p).2.2.1 with
      | error e =>
        refine ⟨fun x hx => (by cases hx), fun e' he => ?_⟩
        cases he
        obtain ⟨i', a1, a2, a3, a4⟩ := G2 e hq
        exact ⟨g, i', a1, fun _ _ => rfl, fun a ha => a2 a (by omega), a3, a4⟩
      | ok y =>
        refine ⟨fun x hx => ?_, fun e' he => (by cases he)⟩
        cases hx
        obtain ⟨f2, i', a1, a2, a3, a4, a5, a6, a7, a8⟩ := G1 y hq
        have h0 := hln.mp z
        exact ⟨f2, i', a1, a2, a3, a4, by show rr ≤ y.1; omega, fun a ha => a5 a (by omega) (by omega) (by omega) (by omega), a6, by rw [a5 127 (by decide) (by decide) (by decide) (by decide), h7], by show p < y.2.2.2; omega, a8⟩
    · rw [if_neg w, ew, Option.bind_some, if_neg (fun q => q rfl), R_refuse, Option.bind_some]
      refine ⟨fun x hx => (by cases hx), fun e' he => ?_⟩
      cases he
      exact ⟨g, up i 125 1, rfl, fun _ _ => rfl, fun a ha => up_n _ _ (by omega), up_s _ _ _, by rw [up_n _ _ (by decide), h2]⟩
  · rw [if_neg z, if_neg z]
    unfold f_R_readRow e_R_readRow
    rw [sf15]
    rcases R_isWord (n1 := n1) (n2 := n2) (L := L) (xs := xs) (g := g) (m := m) (B := B) (J := J) (wd := wd) (o := o) ht T hi ar3 (by decide) (by decide) k4 h1 h2 h3w with ⟨w, ew⟩ | ⟨w, ew⟩
    · have tp := TK_pos K (Or.inl w.1)
      rw [if_pos w, ew, Option.bind_some, if_pos (show ¬ (1 : Int32) = 0 by decide), rd15_7, Option.bind_some, h7, rd15_0, Option.bind_some, G_high C.g16, Option.bind_some]
      by_cases y : rr < h
      · rw [if_pos y, if_pos (nI_lt y (by omega))]
        obtain ⟨G1, G2⟩ := R_cells (n1 := n1) (n2 := n2) (L := L) (xs := xs) (m := m) (B := B) (J := J) (wd := wd) (o := o) ht T y v am_N 0 (tks b t p).2.2.1 g i col (by omega) (by have := O.1.2.1; unfold am_N; omega) O C tp.2.2.1 hi (h3 (Or.inl w.1)) h7
        cases hq : pCells b t v s rr v 0 (tks b t p).2.2.1 col with
        | error e =>
          refine ⟨fun x hx => (by cases hx), fun e' he => ?_⟩
          cases he
          obtain ⟨g', i', a1, a2, a3, a4, a5⟩ := G2 e hq
          exact ⟨g', i', a1, a2, a3, a4, a5⟩
        | ok u =>
          refine ⟨fun x hx => ?_, fun e' he => (by cases he)⟩
          cases hx
          obtain ⟨f2, i', a1, a2, a3, a4, a5, a6, a7, a8⟩ := G1 u hq
          exact ⟨f2, i', a1, a2, a3, by show 0 < h; omega, by show rr + 1 ≤ h; omega, fun a ha => a4 a (by omega) (by omega) (by omega) (by omega) (by omega), a5, a6, by show p < u.1; omega, a8⟩
      · rw [if_neg y, if_neg (nI_nlt (by omega) (by omega)), R_refuse, Option.bind_some]
        refine ⟨fun x hx => (by cases hx), fun e' he => ?_⟩
        cases he
        exact ⟨g, up i 125 3, rfl, fun _ _ => rfl, fun a ha => up_n _ _ (by omega), up_s _ _ _, by rw [up_n _ _ (by decide), h2]⟩
    · rw [if_neg w, ew, Option.bind_some, if_neg (fun q => q rfl), R_refuse, Option.bind_some]
      refine ⟨fun x hx => (by cases hx), fun e' he => ?_⟩
      cases he
      exact ⟨g, up i 125 1, rfl, fun _ _ => rfl, fun a ha => up_n _ _ (by omega), up_s _ _ _, by rw [up_n _ _ (by decide), h2]⟩
theorem R_all (ht : t ≤ 440) (T : tpp t b (A 10) f') : ∀ N n ln p h v s col rr g i, t - p < N → N < n → p ≤ t → 2 * ln ≤ p → i 73 = nI t → i 123 = nI p → i 125 = 0 → i 126 = nI ln → i 127 = nI rr → rr ≤ h → cg g 16 h v s col → gokz h v s col → (ln = 0 ↔ h = 0) →
    (∀ x, pAll b t N ln p h v s col rr = .ok x → ∃ g' i', f_R_read_p32 n 15 9 (nI ln) (mk n1 n2 L xs g i A m B J wd o) = some (mk n1 n2 L xs g' i' A m B J wd o, 1) ∧ (∀ a, a ≠ 16 → g' a = g a) ∧ (∀ a, a < 121 ∨ 127 < a → i' a = i a) ∧ i' 125 = 0 ∧ i' 126 = nI x.1 ∧ cg g' 16 x.2.1 x.2.2.1 x.2.2.2.1 x.2.2.2.2 ∧ gokz x.2.1 x.2.2.1 x.2.2.2.1 x.2.2.2.2) ∧
    (∀ e, pAll b t N ln p h v s col rr = .error e → ∃ g' i', f_R_read_p32 n 15 9 (nI ln) (mk n1 n2 L xs g i A m B J wd o) = some (mk n1 n2 L xs g' i' A m B J wd o, 0) ∧ (∀ a, a ≠ 16 → g' a = g a) ∧ (∀ a, a < 121 ∨ 127 < a → i' a = i a) ∧ i' 125 = nI e.1 ∧ i' 122 = nI e.2) := by
  intro N
  induction N with
  | zero => intro n ln p h v s col rr g i h1; omega
  | succ N ih =>
    intro n ln p h v s col rr g i hN hn hp hl hi h3 h5 h6 h7 hrr C O hln
    obtain ⟨n, rfl⟩ : ∃ m, n = m + 1 := ⟨n - 1, by omega⟩
    have K := tks_ok b hp
    have k4 := TK_k4 K
    obtain ⟨i1, e1, fr, c1, c2, c3, c4⟩ := R_step (n1 := n1) (n2 := n2) (L := L) (xs := xs) (g := g) (i := i) (m := m) (B := B) (J := J) (wd := wd) (o := o) ht T K hp hi h3
    have q400 : ¬ (400 : Int32) < nI ln := nI_nlt (a := 400) (by omega) (by decide)
    have i73 : i1 73 = nI t := by rw [fr 73 (by decide) (by decide) (by decide) (by decide), hi]
    have i125 : i1 125 = 0 := by rw [fr 125 (by decide) (by decide) (by decide) (by decide), h5]
    have i126 : i1 126 = nI ln := by rw [fr 126 (by decide) (by decide) (by decide) (by decide), h6]
    have i127 : i1 127 = nI rr := by rw [fr 127 (by decide) (by decide) (by decide) (by decide), h7]
    have frl : ∀ a, a < 121 ∨ 127 < a → i1 a = i a := fun a ha => fr a (by omega) (by omega) (by omega) (by omega)
    rw [f_R_read_p32, if_neg q400, e1, Option.bind_some, rd15_1, Option.bind_some, c1, pAll]
    by_cases z : (tks b t p).1 = 0
    · rw [if_pos z, z, if_neg (show ¬ ¬ nI 0 = (0 : Int32) from fun q => q rfl), T_length, Option.bind_some, i73]
      unfold f_R_read_p69 f_R_read_p74
      by_cases y : t ≤ 400
      · have q : nI t ≤ (400 : Int32) := nI_le (b := 400) y (by decide)
        rw [if_pos y, if_pos q]
        refine ⟨fun x hx => ?_, fun e he => (by cases he)⟩
        cases hx
        exact ⟨g, i1, rfl, fun _ _ => rfl, frl, i125, i126, C, O⟩
      · have q : ¬ nI t ≤ (400 : Int32) := nI_ge (a := 400) (by omega) (by omega)
        rw [if_neg y, if_neg q, R_refuse, Option.bind_some, if_pos rfl]
        refine ⟨fun x hx => (by cases hx), fun e he => ?_⟩
        cases he
        exact ⟨g, up i1 125 1, rfl, fun _ _ => rfl, fun a ha => by rw [up_n _ _ (by omega), frl a ha], up_s _ _ _, by rw [up_n _ _ (by decide), c2]⟩
    · have hln' : (if ¬ nI ln = (0 : Int32) then ((f_R_readRow (15) (9) (mk n1 n2 L xs g i1 A m B J wd o)).bind fun r24 => (f_R_read_p95 (f_R_read_p32 n) 15 9 (nI ln) r24.2 r24.1)) else ((f_R_readGrid (15) (9) (mk n1 n2 L xs g i1 A m B J wd o)).bind fun r26 => (f_R_read_p95 (f_R_read_p32 n) 15 9 (nI ln) r26.2 r26.1))) = ((if ln = 0 then f_R_readGrid 15 9 (mk n1 n2 L xs g i1 A m B J wd o) else f_R_readRow 15 9 (mk n1 n2 L xs g i1 A m B J wd o)).bind fun r => f_R_read_p95 (f_R_read_p32 n) 15 9 (nI ln) r.2 r.1) := by
        by_cases y : ln = 0
        · rw [if_pos y, if_neg (by rw [y]; exact fun q => q rfl)]
        · rw [if_neg y, if_pos (nI_ne0 (by omega) (by omega))]
      rw [if_neg z, if_pos (nI_ne0 (by omega) (by omega)), rd15_6, Option.bind_some, i126, hln']
      obtain ⟨L1, L2⟩ := R_line (n1 := n1) (n2 := n2) (L := L) (xs := xs) (g := g) (i := i1) (m := m) (B := B) (J := J) (wd := wd) (o := o) ht T hp i73 c1 c2 c3 i127 hrr C O hln
      cases hq : pLine b t ln h v s col rr p with
      | error e =>
        refine ⟨fun x hx => (by cases hx), fun e' he => ?_⟩
        cases he
        obtain ⟨g', i', a1, a2, a3, a4, a5⟩ := L2 e hq
        refine ⟨g', i', ?_, a2, fun a ha => by rw [a3 a ha, frl a ha], a4, a5⟩
        rw [a1, Option.bind_some]
        unfold f_R_read_p95
        rw [if_neg (fun q => q rfl)]
      | ok x =>
        obtain ⟨f2, i2, a1, a2, a3, a4, a5, a6, a7, a8, a9, a10⟩ := L1 x hq
        have K2 := tks_ok b a10
        have k42 := TK_k4 K2
        have j73 : i2 73 = nI t := by rw [a6 73 (by omega), i73]
        obtain ⟨i3, e3, fr3, d1, d2, d3, d4⟩ := R_step (n1 := n1) (n2 := n2) (L := L) (xs := xs) (g := up g 16 (x.2.1, x.2.2.1, x.2.2.2.1, f2)) (i := i2) (m := m) (B := B) (J := J) (wd := wd) (o := o) ht T K2 a10 j73 a7
        have fr3l : ∀ a, a < 121 ∨ 127 < a → i3 a = i a := fun a ha => by rw [fr3 a (by omega) (by omega) (by omega) (by omega), a6 a (by omega), frl a ha]
        rw [a1, Option.bind_some]
        unfold f_R_read_p95
        rw [if_pos (show ¬ (1 : Int32) = 0 by decide), e3, Option.bind_some, rd15_1, Option.bind_some, d1]
        simp only []
        by_cases y : (tks b t x.1).1 = 3
        · have tp := TK_pos K2 (Or.inr (Or.inr y))
          have j126 : i3 126 = nI ln := by rw [fr3 126 (by decide) (by decide) (by decide) (by decide), a6 126 (by omega), i126]
          rw [if_pos y, y, if_pos (show nI 3 = (3 : Int32) from rfl), rd15_6, Option.bind_some, j126, wr15_6, Option.bind_some, nI_1]
          obtain ⟨I1, I2⟩ := ih n (ln + 1) (tks b t x.1).2.2.1 x.2.1 x.2.2.1 x.2.2.2.1 x.2.2.2.2.1 x.2.2.2.2.2 (up g 16 (x.2.1, x.2.2.1, x.2.2.2.1, f2)) (up i3 126 (nI (ln + 1))) (by omega) (by omega) tp.2.2.1 (by omega) (by rw [up_n _ _ (by decide), fr3 73 (by decide) (by decide) (by decide) (by decide), j73]) (by rw [up_n _ _ (by decide), d3 (Or.inr (Or.inr y))]) (by rw [up_n _ _ (by decide), fr3 125 (by decide) (by decide) (by decide) (by decide), a6 125 (by omega), i125]) (up_s _ _ _) (by rw [up_n _ _ (by decide), fr3 127 (by decide) (by decide) (by decide) (by decide), a8]) a5 (cg16 a2) a3 (by omega)
          refine ⟨fun w hw => ?_, fun e he => ?_⟩
          · obtain ⟨g4, i4, r1, r2, r3, r4⟩ := I1 w hw
            exact ⟨g4, i4, r1, fun a ha => by rw [r2 a ha, up_n _ _ ha], fun a ha => by rw [r3 a ha, up_n _ _ (by omega), fr3l a ha], r4⟩
          · obtain ⟨g4, i4, r1, r2, r3, r4⟩ := I2 e he
            exact ⟨g4, i4, r1, fun a ha => by rw [r2 a ha, up_n _ _ ha], fun a ha => by rw [r3 a ha, up_n _ _ (by omega), fr3l a ha], r4⟩
        · rw [if_neg y, if_neg (show ¬ nI (tks b t x.1).1 = (3 : Int32) from fun q => y ((nI_eq (by omega) (b := 3) (by decide)).mp q)), R_refuse, Option.bind_some]
          refine ⟨fun w hw => (by cases hw), fun e he => ?_⟩
          cases he
          exact ⟨_, up i3 125 1, rfl, fun a ha => up_n _ _ ha, fun a ha => by rw [up_n _ _ (by omega), fr3l a ha], up_s _ _ _, by rw [up_n _ _ (by decide), d2]⟩
theorem R_read (ht : t ≤ 440) (T : tpp t b (A 10) f') (hi : i 73 = nI t) :
    (∀ x, pAll b t 500 0 0 0 0 0 (fun _ => 0) 0 = .ok x → ∃ g' i', f_R_read 15 9 (mk n1 n2 L xs g i A m B J wd o) = some (mk n1 n2 L xs g' i' A m B J wd o, 1) ∧ (∀ a, a ≠ 16 → g' a = g a) ∧ (∀ a, a < 121 ∨ 127 < a → i' a = i a) ∧ i' 125 = 0 ∧ i' 126 = nI x.1 ∧ cg g' 16 x.2.1 x.2.2.1 x.2.2.2.1 x.2.2.2.2 ∧ gokz x.2.1 x.2.2.1 x.2.2.2.1 x.2.2.2.2) ∧
    (∀ e, pAll b t 500 0 0 0 0 0 (fun _ => 0) 0 = .error e → ∃ g' i', f_R_read 15 9 (mk n1 n2 L xs g i A m B J wd o) = some (mk n1 n2 L xs g' i' A m B J wd o, 0) ∧ (∀ a, a ≠ 16 → g' a = g a) ∧ (∀ a, a < 121 ∨ 127 < a → i' a = i a) ∧ i' 125 = nI e.1 ∧ i' 122 = nI e.2) := by
  unfold f_R_read e_R_read
  rw [sf15, wr15_3, Option.bind_some, wr15_5, Option.bind_some, wr15_6, Option.bind_some, wr15_7, Option.bind_some, rd15_0, Option.bind_some]
  obtain ⟨f2, e4, F2⟩ := G_start (g16 (n1 := n1) (n2 := n2) (L := L) (xs := xs) (g := g) (i := up (up (up (up i 123 0) 125 0) 126 0) 127 0) (A := A) (m := m) (B := B) (J := J) (wd := wd) (o := o)) 0 0 0 (by decide)
  have e4' : f_G_start 16 0 0 0 (mk n1 n2 L xs g (up (up (up (up i 123 0) 125 0) 126 0) 127 0) A m B J wd o) = _ := e4
  rw [e4', Option.bind_some, gp16]
  obtain ⟨I1, I2⟩ := R_all (n1 := n1) (n2 := n2) (L := L) (xs := xs) (m := m) (B := B) (J := J) (wd := wd) (o := o) ht T 500 am_N 0 0 0 0 0 (fun _ => 0) 0 (up g 16 (0, 0, 0, f2)) (up (up (up (up i 123 0) 125 0) 126 0) 127 0) (by omega) (by unfold am_N; omega) (by omega) (by omega) hi rfl rfl rfl rfl (by omega) (cg16 F2) ⟨⟨by omega, by omega, by omega, Iff.rfl, Iff.rfl, fun k hk => Nat.le_refl _⟩, fun _ _ => rfl⟩ Iff.rfl
  have frz : ∀ a, a < 121 ∨ 127 < a → up (up (up (up i 123 0) 125 0) 126 0) 127 0 a = i a := fun a ha => by rw [up_n _ _ (by omega), up_n _ _ (by omega), up_n _ _ (by omega), up_n _ _ (by omega)]
  refine ⟨fun w hw => ?_, fun e he => ?_⟩
  · obtain ⟨g4, i4, r1, r2, r3, r4⟩ := I1 w hw
    exact ⟨g4, i4, r1, fun a ha => by rw [r2 a ha, up_n _ _ ha], fun a ha => by rw [r3 a ha, frz a ha], r4⟩
  · obtain ⟨g4, i4, r1, r2, r3, r4⟩ := I2 e he
    exact ⟨g4, i4, r1, fun a ha => by rw [r2 a ha, up_n _ _ ha], fun a ha => by rw [r3 a ha, frz a ha], r4⟩
end PTA
