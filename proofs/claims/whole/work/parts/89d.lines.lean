/-! LINES OF A TEXT -/
noncomputable def pGrid (b : Nat → Nat) (t p : Nat) : Except (Nat × Nat) (Nat × Nat × Nat × Nat) := match pNum b t 1 8 p with
  | .error e => .error e
  | .ok x => match pNum b t 1 8 x.2 with
    | .error e => .error e
    | .ok y => match pNum b t 1 4 y.2 with
      | .error e => .error e
      | .ok z => .ok (x.1, y.1, z.1, z.2)
theorem hsh_lt {b : Nat → Nat} {q : Nat} : ∀ k, (∀ j, j < k → b (q + j) - 96 ≤ 26) → hsh b q k < 27 ^ k := by
  intro k
  induction k with
  | zero => intro _; exact Nat.one_pos
  | succ k ih =>
    intro h
    have h1 := ih (fun j hj => h j (by omega))
    have h2 := h k (by omega)
    show 27 * hsh b q k + (b (q + k) - 96) < 27 ^ (k + 1)
    rw [Nat.pow_succ]
    omega
section PLA
variable {n1 n2 L : Nat} {xs : Nat → Int32} {g : Nat → GR} {i : Nat → Int32} {A : Nat → Nat → Int32} {m : Nat → Int32} {B : Nat → Nat → Int32} {J : Nat → Int64} {wd : Int64} {o : Nat → Int64} {t : Nat} {b : Nat → Nat} {f' : Nat → Int32} {h v s : Nat} {col : Nat → Nat}
theorem cg.g16 (C : cg g 16 h v s col) : gr (mk n1 n2 L xs g i A m B J wd o) 16 17 h v s (g 16).2.2.2 := by obtain ⟨rfl, rfl, rfl, -⟩ := C; exact g16
theorem cg16 {f2 : Nat → Int64} (F : fs f2 h v col) : cg (up g 16 (h, v, s, f2)) 16 h v s col := by unfold cg; rw [up_s]; exact ⟨rfl, rfl, rfl, F⟩
theorem mN.g4 (H : mN B 54 h v s col) : mgr (mk n1 n2 L xs g i A m B J wd o) 54 h v s col := ⟨B 54, rfl, H⟩
theorem R_cells (ht : t ≤ 440) (T : tpp t b (A 10) f') {r : Nat} (hr : r < h) : ∀ d n c p g i col, c + d = v → d < n → gokz h v s col → cg g 16 h v s col → p ≤ t → i 73 = nI t → i 123 = nI p → i 127 = nI r →
    (∀ x, pCells b t v s r d c p col = .ok x → ∃ f2 i', f_R_readRow_p38 n 15 9 (nI c) (mk n1 n2 L xs g i A m B J wd o) = some (mk n1 n2 L xs (up g 16 (h, v, s, f2)) i' A m B J wd o, 1) ∧ fs f2 h v x.2 ∧ gokz h v s x.2 ∧ (∀ a, a ≠ 121 → a ≠ 122 → a ≠ 123 → a ≠ 124 → a ≠ 127 → i' a = i a) ∧ i' 123 = nI x.1 ∧ i' 127 = nI (r + 1) ∧ p ≤ x.1 ∧ x.1 ≤ t) ∧
    (∀ e, pCells b t v s r d c p col = .error e → ∃ g' i', f_R_readRow_p38 n 15 9 (nI c) (mk n1 n2 L xs g i A m B J wd o) = some (mk n1 n2 L xs g' i' A m B J wd o, 0) ∧ (∀ a, a ≠ 16 → g' a = g a) ∧ (∀ a, a < 121 ∨ 127 < a → i' a = i a) ∧ i' 125 = nI e.1 ∧ i' 122 = nI e.2) := by
  intro d
  induction d with
  | zero =>
    intro n c p g i col hc hn O C hp hi h3 h7
    obtain ⟨n, rfl⟩ : ∃ m, n = m + 1 := ⟨n - 1, by omega⟩
    have v8 := O.1.2.1
    rw [pCells]
    refine ⟨fun x hx => ?_, fun e he => (by cases he)⟩
    cases hx
    refine ⟨(g 16).2.2.2, up i 127 (nI (r + 1)), ?_, C.2.2.2, O, fun a _ _ _ _ h5 => up_n _ _ h5, by rw [up_n _ _ (by decide), h3], up_s _ _ _, Nat.le_refl _, hp⟩
    rw [f_R_readRow_p38, rd15_0, Option.bind_some, G_wide C.g16, Option.bind_some, if_pos (nI_le (by omega) (by omega)), rd15_7, Option.bind_some, h7, wr15_7, Option.bind_some, nI_1]
    obtain ⟨rfl, rfl, rfl, -⟩ := C
    rw [up_id]
  | succ d ih =>
    intro n c p g i col hc hn O C hp hi h3 h7
    obtain ⟨n, rfl⟩ : ∃ m, n = m + 1 := ⟨n - 1, by omega⟩
    have v8 := O.1.2.1
    have h8 := O.1.1
    have s4 := O.1.2.2.1
    obtain ⟨N1, N2⟩ := R_readNumber (n1 := n1) (n2 := n2) (L := L) (xs := xs) (g := g) (i := i) (m := m) (B := B) (J := J) (wd := wd) (o := o) ht T (lo := 0) (hi' := s) hp hi h3 (by omega) (by omega)
    rw [f_R_readRow_p38, rd15_0, Option.bind_some, G_wide C.g16, Option.bind_some, if_neg (nI_ge (by omega) (by omega)), rd15_0, Option.bind_some, G_shades C.g16, Option.bind_some, pCells]
    cases hq : pNum b t 0 s p with
    | error e =>
      obtain ⟨i', e1, fr, k1, k2⟩ := N2 e hq
      have e1' : f_R_readNumber 15 9 0 (nI s) (mk n1 n2 L xs g i A m B J wd o) = _ := e1
      refine ⟨fun x hx => (by cases hx), fun e' he => ?_⟩
      cases he
      refine ⟨g, i', ?_, fun _ _ => rfl, fun a ha => fr a (by omega) (by omega) (by omega) (by omega) (by omega), k1, k2⟩
      rw [e1', Option.bind_some, if_neg (fun q => q rfl)]
    | ok x =>
      obtain ⟨i', e1, fr, k1, k2, k3, k4, k5, k6⟩ := N1 x hq
      have e1' : f_R_readNumber 15 9 0 (nI s) (mk n1 n2 L xs g i A m B J wd o) = _ := e1
      have hk := row_lt hr (show c < v by omega)
      have i7 : i' 127 = nI r := by rw [fr 127 (by decide) (by decide) (by decide) (by decide), h7]
      obtain ⟨f2, e2, F2⟩ := G_put (C.g16 (n1 := n1) (n2 := n2) (L := L) (xs := xs) (i := i') (A := A) (m := m) (B := B) (J := J) (wd := wd) (o := o)) C.2.2.2 O.1 hk k4
      have step : (((f_R_readNumber 15 9 0 (nI s) (mk n1 n2 L xs g i A m B J wd o)).bind fun r14 => (if ¬ r14.2 = 0 then ((am_gr r14.1 15 3 0).bind fun v17 => ((am_gr r14.1 15 3 0).bind fun v19 => ((am_gi r14.1 15 3 7).bind fun v21 => ((f_G_cellAt (v19) (v21) (nI c) r14.1).bind fun r23 => ((am_gi r23.1 15 3 4).bind fun v25 => ((f_G_put (v17) (r23.2) (v25) r23.1).bind fun r27 => (f_R_readRow_p38 n 15 9 (nI c + 1) r27.1))))))) else (some (r14.1, 0)))) : Option (am_W × Int32)) = f_R_readRow_p38 n 15 9 (nI (c + 1)) (mk n1 n2 L xs (up g 16 (h, v, s, f2)) i' A m B J wd o) := by
        rw [e1', Option.bind_some, if_pos (show ¬ (1 : Int32) = 0 by decide), rd15_0, Option.bind_some, Option.bind_some, rd15_7, Option.bind_some, i7, G_cellAt C.g16, Option.bind_some, rd15_4, Option.bind_some, k2, e2, Option.bind_some, gp16, nI_1]
      have hz := gokz_upd O hk k4
      obtain ⟨I1, I2⟩ := ih n (c + 1) x.2 (up g 16 (h, v, s, f2)) i' (updN col (r * v + c) x.1) (by omega) (by omega) hz (cg16 F2) k6 (by rw [fr 73 (by decide) (by decide) (by decide) (by decide), hi]) k1 i7
      simp only [] at *
      rw [step]
      refine ⟨fun y hy => ?_, fun e he => ?_⟩
      · obtain ⟨f3, i3, a1, a2, a3, a4, a5, a6, a7, a8⟩ := I1 y hy
        rw [up_up] at a1
        exact ⟨f3, i3, a1, a2, a3, fun a b1 b2 b3 b4 b5 => by rw [a4 a b1 b2 b3 b4 b5, fr a b1 b2 b3 b4], a5, a6, by omega, a8⟩
      · obtain ⟨g3, i3, a1, a2, a3, a4, a5⟩ := I2 e he
        exact ⟨g3, i3, a1, fun a ha => by rw [a2 a ha, up_n _ _ ha], fun a ha => by rw [a3 a ha, fr a (by omega) (by omega) (by omega) (by omega)], a4, a5⟩
theorem R_grid (ht : t ≤ 440) (T : tpp t b (A 10) f') {p : Nat} (hp : p ≤ t) (hi : i 73 = nI t) (h3 : i 123 = nI p) :
    (∀ x, pGrid b t p = .ok x → ∃ f2 i', ((f_R_readNumber (15) (9) (1) (8) (mk n1 n2 L xs g i A m B J wd o)).bind fun r4 => (if ¬ r4.2 = 0 then ((am_gi r4.1 15 3 4).bind fun v7 => ((f_R_readNumber (15) (9) (1) (8) r4.1).bind fun r9 => (if ¬ r9.2 = 0 then ((am_gi r9.1 15 3 4).bind fun v12 => ((f_R_readNumber (15) (9) (1) (4) r9.1).bind fun r14 => (if ¬ r14.2 = 0 then ((am_gr r14.1 15 3 0).bind fun v17 => ((am_gi r14.1 15 3 4).bind fun v19 => ((f_G_start (v17) (v7) (v12) (v19) r14.1).bind fun r21 => (some (r21.1, (1 : Int32)))))) else (some (r14.1, 0))))) else (some (r9.1, 0))))) else (some (r4.1, 0)))) = some (mk n1 n2 L xs (up g 16 (x.1, x.2.1, x.2.2.1, f2)) i' A m B J wd o, 1) ∧ fs f2 x.1 x.2.1 (fun _ => 0) ∧ gokz x.1 x.2.1 x.2.2.1 (fun _ => 0) ∧ 0 < x.1 ∧ (∀ a, a ≠ 121 → a ≠ 122 → a ≠ 123 → a ≠ 124 → i' a = i a) ∧ i' 123 = nI x.2.2.2 ∧ p < x.2.2.2 ∧ x.2.2.2 ≤ t) ∧
    (∀ e, pGrid b t p = .error e → ∃ i', ((f_R_readNumber (15) (9) (1) (8) (mk n1 n2 L xs g i A m B J wd o)).bind fun r4 => (if ¬ r4.2 = 0 then ((am_gi r4.1 15 3 4).bind fun v7 => ((f_R_readNumber (15) (9) (1) (8) r4.1).bind fun r9 => (if ¬ r9.2 = 0 then ((am_gi r9.1 15 3 4).bind fun v12 => ((f_R_readNumber (15) (9) (1) (4) r9.1).bind fun r14 => (if ¬ r14.2 = 0 then ((am_gr r14.1 15 3 0).bind fun v17 => ((am_gi r14.1 15 3 4).bind fun v19 => ((f_G_start (v17) (v7) (v12) (v19) r14.1).bind fun r21 => (some (r21.1, (1 : Int32)))))) else (some (r14.1, 0))))) else (some (r9.1, 0))))) else (some (r4.1, 0)))) = some (mk n1 n2 L xs g i' A m B J wd o, 0) ∧ (∀ a, a < 121 ∨ 125 < a → i' a = i a) ∧ i' 125 = nI e.1 ∧ i' 122 = nI e.2) := by
  unfold pGrid
  obtain ⟨N1, N2⟩ := R_readNumber (n1 := n1) (n2 := n2) (L := L) (xs := xs) (g := g) (i := i) (m := m) (B := B) (J := J) (wd := wd) (o := o) ht T (lo := 1) (hi' := 8) hp hi h3 (by omega) (by omega)
  cases hq : pNum b t 1 8 p with
  | error e =>
    obtain ⟨i', e1, fr, k1, k2⟩ := N2 e hq
    have e1' : f_R_readNumber 15 9 1 8 (mk n1 n2 L xs g i A m B J wd o) = _ := e1
    refine ⟨fun x hx => (by cases hx), fun e' he => ?_⟩
    cases he
    exact ⟨i', by rw [e1', Option.bind_some, if_neg (fun q => q rfl)], fun a ha => fr a (by omega) (by omega) (by omega) (by omega) (by omega), k1, k2⟩
  | ok x =>
    obtain ⟨i1, e1, fr1, k11, k12, k13, k14, k15, k16⟩ := N1 x hq
    have e1' : f_R_readNumber 15 9 1 8 (mk n1 n2 L xs g i A m B J wd o) = _ := e1
    rw [e1', Option.bind_some, if_pos (show ¬ (1 : Int32) = 0 by decide), rd15_4, Option.bind_some, k12]
    obtain ⟨M1, M2⟩ := R_readNumber (n1 := n1) (n2 := n2) (L := L) (xs := xs) (g := g) (i := i1) (m := m) (B := B) (J := J) (wd := wd) (o := o) ht T (lo := 1) (hi' := 8) k16 (by rw [fr1 73 (by decide) (by decide) (by decide) (by decide), hi]) k11 (by omega) (by omega)
    simp only []
    cases hq2 : pNum b t 1 8 x.2 with
    | error e =>
      obtain ⟨i', e2, fr, k1, k2⟩ := M2 e hq2
      have e2' : f_R_readNumber 15 9 1 8 (mk n1 n2 L xs g i1 A m B J wd o) = _ := e2
      refine ⟨fun x hx => (by cases hx), fun e' he => ?_⟩
      cases he
      exact ⟨i', by rw [e2', Option.bind_some, if_neg (fun q => q rfl)], fun a ha => by rw [fr a (by omega) (by omega) (by omega) (by omega) (by omega), fr1 a (by omega) (by omega) (by omega) (by omega)], k1, k2⟩
    | ok y =>
      obtain ⟨i2, e2, fr2, k21, k22, k23, k24, k25, k26⟩ := M1 y hq2
      have e2' : f_R_readNumber 15 9 1 8 (mk n1 n2 L xs g i1 A m B J wd o) = _ := e2
      rw [e2', Option.bind_some, if_pos (show ¬ (1 : Int32) = 0 by decide), rd15_4, Option.bind_some, k22]
      obtain ⟨P1, P2⟩ := R_readNumber (n1 := n1) (n2 := n2) (L := L) (xs := xs) (g := g) (i := i2) (m := m) (B := B) (J := J) (wd := wd) (o := o) ht T (lo := 1) (hi' := 4) k26 (by rw [fr2 73 (by decide) (by decide) (by decide) (by decide), fr1 73 (by decide) (by decide) (by decide) (by decide), hi]) k21 (by omega) (by omega)
      simp only []
      cases hq3 : pNum b t 1 4 y.2 with
      | error e =>
        obtain ⟨i', e3, fr, k1, k2⟩ := P2 e hq3
        have e3' : f_R_readNumber 15 9 1 4 (mk n1 n2 L xs g i2 A m B J wd o) = _ := e3
        refine ⟨fun x hx => (by cases hx), fun e' he => ?_⟩
        cases he
        exact ⟨i', by rw [e3', Option.bind_some, if_neg (fun q => q rfl)], fun a ha => by rw [fr a (by omega) (by omega) (by omega) (by omega) (by omega), fr2 a (by omega) (by omega) (by omega) (by omega), fr1 a (by omega) (by omega) (by omega) (by omega)], k1, k2⟩
      | ok z =>
        obtain ⟨i3, e3, fr3, k31, k32, k33, k34, k35, k36⟩ := P1 z hq3
        have e3' : f_R_readNumber 15 9 1 4 (mk n1 n2 L xs g i2 A m B J wd o) = _ := e3
        refine ⟨fun w hw => ?_, fun e' he => (by cases he)⟩
        cases hw
        have h64 : x.1 * y.1 ≤ 64 := Nat.mul_le_mul k14 k24
        obtain ⟨f2, e4, F2⟩ := G_start (g16 (n1 := n1) (n2 := n2) (L := L) (xs := xs) (g := g) (i := i3) (A := A) (m := m) (B := B) (J := J) (wd := wd) (o := o)) x.1 y.1 z.1 h64
        refine ⟨f2, i3, ?_, F2, ⟨⟨k14, k24, k34, by show x.1 = 0 ↔ y.1 = 0; omega, by show x.1 = 0 ↔ z.1 = 0; omega, fun _ _ => Nat.zero_le _⟩, fun _ _ => rfl⟩, by show 0 < x.1; omega, fun a b1 b2 b3 b4 => by rw [fr3 a b1 b2 b3 b4, fr2 a b1 b2 b3 b4, fr1 a b1 b2 b3 b4], k31, by show p < z.2; omega, k36⟩
        rw [e3', Option.bind_some, if_pos (show ¬ (1 : Int32) = 0 by decide), rd15_0, Option.bind_some, rd15_4, Option.bind_some, k32, e4, Option.bind_some, gp16]
/-! the model's lines -/
theorem m1_ne {x : Nat} (h : x ≤ 99) : ¬ nI x = (-1 : Int32) := by
  intro q
  have := congrArg Int32.toInt q
  rw [nI_toInt (by omega), show (-1 : Int32).toInt = -1 by decide] at this
  omega
theorem M_cells (ht : t ≤ 440) (T : tpp t b f' (B 52)) {r : Nat} (hr : r < h) : ∀ d n c p (f : Nat → Int32) (m : Nat → Int32) (wd : Int64) (col : Nat → Nat), c + d = v → d < n → gok h v s col → (∀ j, j < 67 → f j = enc h v s col j) → p ≤ t → m 3 = nI t → m 20 = nI r → mtk b t m wd (tks b t p).1 (tks b t p).2.1 (tks b t p).2.2.1 (tks b t p).2.2.2 →
    (∀ x, pCells b t v s r d c p col = .ok x → ∃ f2 m' wd', f_M_readCells_p25 n 51 (nI c) (mk n1 n2 L xs g i A m (up B 54 f) J wd o) = some (mk n1 n2 L xs g i A m' (up B 54 f2) J wd' o, 1) ∧ (∀ j, j < 67 → f2 j = enc h v s x.2 j) ∧ (∀ a, a ≠ 4 → a ≠ 5 → a ≠ 6 → a ≠ 7 → a ≠ 20 → m' a = m a) ∧ m' 20 = nI (r + 1) ∧ x.1 ≤ t ∧ mtk b t m' wd' (tks b t x.1).1 (tks b t x.1).2.1 (tks b t x.1).2.2.1 (tks b t x.1).2.2.2) ∧
    (∀ e, pCells b t v s r d c p col = .error e → ∃ f2 m' wd', f_M_readCells_p25 n 51 (nI c) (mk n1 n2 L xs g i A m (up B 54 f) J wd o) = some (mk n1 n2 L xs g i A m' (up B 54 f2) J wd' o, 0) ∧ (∀ a, a ≠ 4 → a ≠ 5 → a ≠ 6 → a ≠ 7 → a ≠ 8 → a ≠ 9 → a ≠ 20 → m' a = m a) ∧ m' 8 = nI e.1 ∧ m' 9 = nI e.2) := by
  intro d
  induction d with
  | zero =>
    intro n c p f m wd col hc hn O hf hp h3 h20 K
    obtain ⟨n, rfl⟩ : ∃ m, n = m + 1 := ⟨n - 1, by omega⟩
    have v8 := O.2.1
    have M : mN (up B 54 f) 54 h v s col := fun x hx => by rw [up_s]; exact hf x hx
    rw [pCells]
    refine ⟨fun x hx => ?_, fun e he => (by cases he)⟩
    cases hx
    refine ⟨f, up m 20 (nI (r + 1)), wd, ?_, hf, fun a _ _ _ _ h5 => up_n _ _ h5, up_s _ _ _, hp, K⟩
    rw [f_M_readCells_p25, rd51_12, Option.bind_some, (mN.g4 M).wi, Option.bind_some, if_pos (nI_le (by omega) (by omega)), rd51_20, Option.bind_some, h20, wr51_20, Option.bind_some, nI_1]
  | succ d ih =>
    intro n c p f m wd col hc hn O hf hp h3 h20 K
    obtain ⟨n, rfl⟩ : ∃ m, n = m + 1 := ⟨n - 1, by omega⟩
    have v8 := O.2.1
    have h64 := O.hv
    have s4 := O.2.2.1
    have M : mN (up B 54 f) 54 h v s col := fun x hx => by rw [up_s]; exact hf x hx
    have T' : tpp t b f' ((up B 54 f) 52) := T
    obtain ⟨N1, N2⟩ := M_told (n1 := n1) (n2 := n2) (L := L) (xs := xs) (g := g) (i := i) (A := A) (m := m) (B := up B 54 f) (J := J) (wd := wd) (o := o) ht T' (lo := 0) (hi' := s) hp h3 K (by omega) (by omega)
    rw [f_M_readCells_p25, rd51_12, Option.bind_some, (mN.g4 M).wi, Option.bind_some, if_neg (nI_ge (by omega) (by omega)), Option.bind_some, (mN.g4 M).sh, Option.bind_some, pCells]
    cases hq : pNum b t 0 s p with
    | error e =>
      obtain ⟨m', e1, fr, k1, k2⟩ := N2 e hq
      have e1' : f_M_told 51 0 (nI s) (mk n1 n2 L xs g i A m (up B 54 f) J wd o) = _ := e1
      refine ⟨fun x hx => (by cases hx), fun e' he => ?_⟩
      cases he
      refine ⟨f, m', wd, ?_, fun a _ _ _ _ h5 h6 _ => fr a h5 h6, k1, k2⟩
      rw [e1', Option.bind_some, if_neg (fun q => q rfl)]
    | ok x =>
      obtain ⟨m', wd', e1, fr, k1, k2, k3⟩ := N1 x hq
      have e1' : f_M_told 51 0 (nI s) (mk n1 n2 L xs g i A m (up B 54 f) J wd o) = _ := e1
      have hk := row_lt hr (show c < v by omega)
      have m20 : m' 20 = nI r := by rw [fr 20 (by decide) (by decide) (by decide) (by decide), h20]
      have ei : (3 : Int32) + nI v * nI r + nI c = nI (r * v + c + 3) := by rw [pk_mul, Int32.add_assoc, nI_add, three, Nat.mul_comm v r]
      have xs' : x.1 ≤ s := by
        have KT := tks_ok b hp
        unfold pNum at hq
        split at hq
        · split at hq
          · next y => cases hq; exact y.2
          · cases hq
        · cases hq
      rw [e1', Option.bind_some, if_pos (m1_ne k1), rd51_12, Option.bind_some, Option.bind_some, (mN.g4 M).wi, Option.bind_some, rd51_20, Option.bind_some, m20, ei, w_si ar54 (by omega) (by decide) (by decide), Option.bind_some, st54, up_s, up_up, nI_1]
      simp only []
      obtain ⟨I1, I2⟩ := ih n (c + 1) x.2 (upd f (r * v + c + 3) (nI x.1)) m' wd' (updN col (r * v + c) x.1) (by omega) (by omega) (updN_ok O _ xs') (enc_upd h v s col _ _ hf) k2 (by rw [fr 3 (by decide) (by decide) (by decide) (by decide), h3]) m20 k3
      refine ⟨fun y hy => ?_, fun e he => ?_⟩
      · obtain ⟨f3, m3, w3, a1, a2, a3, a4, a5, a6⟩ := I1 y hy
        exact ⟨f3, m3, w3, a1, a2, fun a b1 b2 b3 b4 b5 => by rw [a3 a b1 b2 b3 b4 b5, fr a b1 b2 b3 b4], a4, a5, a6⟩
      · obtain ⟨f3, m3, w3, a1, a2, a3, a4⟩ := I2 e he
        exact ⟨f3, m3, w3, a1, fun a b1 b2 b3 b4 b5 b6 b7 => by rw [a2 a b1 b2 b3 b4 b5 b6 b7, fr a b1 b2 b3 b4], a3, a4⟩
theorem mg_step (ht : t ≤ 440) (T : tpp t b f' (B 52)) {k hi' p n : Nat} (hk : k < 3) (hh : hi' = if k < 2 then 8 else 4) (f : Nat → Int32) {m : Nat → Int32} {wd : Int64} (hp : p ≤ t) (h3 : m 3 = nI t) (K : mtk b t m wd (tks b t p).1 (tks b t p).2.1 (tks b t p).2.2.1 (tks b t p).2.2.2) :
    (∀ x, pNum b t 1 hi' p = .ok x → ∃ m' wd', f_M_readGrid_p6 (n + 1) 51 (nI k) (mk n1 n2 L xs g i A m (up B 54 f) J wd o) = f_M_readGrid_p6 n 51 (nI (k + 1)) (mk n1 n2 L xs g i A m' (up B 54 (upd f k (nI x.1))) J wd' o) ∧ (∀ a, a ≠ 4 → a ≠ 5 → a ≠ 6 → a ≠ 7 → m' a = m a) ∧ x.2 ≤ t ∧ mtk b t m' wd' (tks b t x.2).1 (tks b t x.2).2.1 (tks b t x.2).2.2.1 (tks b t x.2).2.2.2) ∧
    (∀ e, pNum b t 1 hi' p = .error e → ∃ m', f_M_readGrid_p6 (n + 1) 51 (nI k) (mk n1 n2 L xs g i A m (up B 54 f) J wd o) = some (mk n1 n2 L xs g i A m' (up B 54 f) J wd o, 0) ∧ (∀ a, a ≠ 8 → a ≠ 9 → m' a = m a) ∧ m' 8 = nI e.1 ∧ m' 9 = nI e.2) := by
  have T' : tpp t b f' ((up B 54 f) 52) := T
  have h9 : hi' ≤ 99 := by rw [hh]; split <;> omega
  obtain ⟨N1, N2⟩ := M_told (n1 := n1) (n2 := n2) (L := L) (xs := xs) (g := g) (i := i) (A := A) (m := m) (B := up B 54 f) (J := J) (wd := wd) (o := o) ht T' (lo := 1) (hi' := hi') hp h3 K (by omega) h9
  have q3 : ¬ (3 : Int32) ≤ nI k := nI_ge (b := 3) (by omega) (by decide)
  have e6 : f_M_readGrid_p6 (n + 1) 51 (nI k) (mk n1 n2 L xs g i A m (up B 54 f) J wd o) = f_M_readGrid_p24 (f_M_readGrid_p6 n) 51 (nI k) 51 1 (nI hi') (mk n1 n2 L xs g i A m (up B 54 f) J wd o) := by
    rw [f_M_readGrid_p6, if_neg q3]
    by_cases z : k < 2
    · have q2 : ¬ (2 : Int32) ≤ nI k := nI_ge (b := 2) z (by decide)
      rw [if_neg q2, hh, if_pos z]
      rfl
    · have q2 : (2 : Int32) ≤ nI k := nI_le (a := 2) (by omega) (by omega)
      rw [if_pos q2, hh, if_neg z]
      rfl
  rw [e6]
  unfold f_M_readGrid_p24
  refine ⟨fun x hx => ?_, fun e he => ?_⟩
  · obtain ⟨m', wd', e1, fr, k1, k2, k3⟩ := N1 x hx
    have e1' : f_M_told 51 1 (nI hi') (mk n1 n2 L xs g i A m (up B 54 f) J wd o) = _ := e1
    refine ⟨m', wd', ?_, fr, k2, k3⟩
    rw [e1', Option.bind_some, if_pos (m1_ne k1), rd51_12, Option.bind_some, w_si ar54 (by omega) (by decide) (by decide), Option.bind_some, st54, up_s, up_up, nI_1]
  · obtain ⟨m', e1, fr, k1, k2⟩ := N2 e he
    have e1' : f_M_told 51 1 (nI hi') (mk n1 n2 L xs g i A m (up B 54 f) J wd o) = _ := e1
    exact ⟨m', by rw [e1', Option.bind_some, if_neg (fun q => q rfl)], fr, k1, k2⟩
theorem M_grid (ht : t ≤ 440) (T : tpp t b f' (B 52)) {p : Nat} (f : Nat → Int32) (hp : p ≤ t) (h3 : m 3 = nI t) (K : mtk b t m wd (tks b t p).1 (tks b t p).2.1 (tks b t p).2.2.1 (tks b t p).2.2.2) :
    (∀ x, pGrid b t p = .ok x → ∃ m' wd', f_M_readGrid_p6 am_N 51 0 (mk n1 n2 L xs g i A m (up B 54 f) J wd o) = some (mk n1 n2 L xs g i A m' (up B 54 (upd (upd (upd f 0 (nI x.1)) 1 (nI x.2.1)) 2 (nI x.2.2.1))) J wd' o, 1) ∧ (∀ a, a ≠ 4 → a ≠ 5 → a ≠ 6 → a ≠ 7 → m' a = m a) ∧ x.2.2.2 ≤ t ∧ mtk b t m' wd' (tks b t x.2.2.2).1 (tks b t x.2.2.2).2.1 (tks b t x.2.2.2).2.2.1 (tks b t x.2.2.2).2.2.2) ∧
    (∀ e, pGrid b t p = .error e → ∃ f2 m' wd', f_M_readGrid_p6 am_N 51 0 (mk n1 n2 L xs g i A m (up B 54 f) J wd o) = some (mk n1 n2 L xs g i A m' (up B 54 f2) J wd' o, 0) ∧ (∀ a, a ≠ 4 → a ≠ 5 → a ≠ 6 → a ≠ 7 → a ≠ 8 → a ≠ 9 → m' a = m a) ∧ m' 8 = nI e.1 ∧ m' 9 = nI e.2) := by
  unfold pGrid
  obtain ⟨N1, N2⟩ := mg_step (n1 := n1) (n2 := n2) (L := L) (xs := xs) (g := g) (i := i) (A := A) (J := J) (o := o) (n := 1048575) ht T (k := 0) (hi' := 8) (by decide) rfl f hp h3 K
  cases hq : pNum b t 1 8 p with
  | error e =>
    obtain ⟨m', e1, fr, k1, k2⟩ := N2 e hq
    refine ⟨fun x hx => (by cases hx), fun e' he => ?_⟩
    cases he
    exact ⟨f, m', wd, e1, fun a _ _ _ _ h5 h6 => fr a h5 h6, k1, k2⟩
  | ok x =>
    obtain ⟨m1, w1, e1, fr1, k12, k13⟩ := N1 x hq
    have e1' : f_M_readGrid_p6 am_N 51 0 (mk n1 n2 L xs g i A m (up B 54 f) J wd o) = _ := e1
    rw [e1']
    simp only []
    obtain ⟨M1, M2⟩ := mg_step (n1 := n1) (n2 := n2) (L := L) (xs := xs) (g := g) (i := i) (A := A) (J := J) (o := o) (n := 1048574) ht T (k := 1) (hi' := 8) (by decide) rfl (upd f 0 (nI x.1)) k12 (by rw [fr1 3 (by decide) (by decide) (by decide) (by decide), h3]) k13
    cases hq2 : pNum b t 1 8 x.2 with
    | error e =>
      obtain ⟨m', e2, fr, k1, k2⟩ := M2 e hq2
      refine ⟨fun x hx => (by cases hx), fun e' he => ?_⟩
      cases he
      exact ⟨_, m', w1, e2, fun a b1 b2 b3 b4 h5 h6 => by rw [fr a h5 h6, fr1 a b1 b2 b3 b4], k1, k2⟩
    | ok y =>
      obtain ⟨m2, w2, e2, fr2, k22, k23⟩ := M1 y hq2
      have e2' : f_M_readGrid_p6 1048575 51 (nI (0 + 1)) (mk n1 n2 L xs g i A m1 (up B 54 (upd f 0 (nI x.1))) J w1 o) = _ := e2
      rw [e2']
      simp only []
      obtain ⟨P1, P2⟩ := mg_step (n1 := n1) (n2 := n2) (L := L) (xs := xs) (g := g) (i := i) (A := A) (J := J) (o := o) (n := 1048573) ht T (k := 2) (hi' := 4) (by decide) rfl (upd (upd f 0 (nI x.1)) 1 (nI y.1)) k22 (by rw [fr2 3 (by decide) (by decide) (by decide) (by decide), fr1 3 (by decide) (by decide) (by decide) (by decide), h3]) k23
      cases hq3 : pNum b t 1 4 y.2 with
      | error e =>
        obtain ⟨m', e3, fr, k1, k2⟩ := P2 e hq3
        refine ⟨fun x hx => (by cases hx), fun e' he => ?_⟩
        cases he
        exact ⟨_, m', w2, e3, fun a b1 b2 b3 b4 h5 h6 => by rw [fr a h5 h6, fr2 a b1 b2 b3 b4, fr1 a b1 b2 b3 b4], k1, k2⟩
      | ok z =>
        obtain ⟨m3, w3, e3, fr3, k32, k33⟩ := P1 z hq3
        refine ⟨fun w hw => ?_, fun e' he => (by cases he)⟩
        cases hw
        refine ⟨m3, w3, ?_, fun a b1 b2 b3 b4 => by rw [fr3 a b1 b2 b3 b4, fr2 a b1 b2 b3 b4, fr1 a b1 b2 b3 b4], k32, k33⟩
        have e3' : f_M_readGrid_p6 1048574 51 (nI (1 + 1)) (mk n1 n2 L xs g i A m2 (up B 54 (upd (upd f 0 (nI x.1)) 1 (nI y.1))) J w2 o) = _ := e3
        rw [e3', f_M_readGrid_p6, if_pos (show (3 : Int32) ≤ nI (2 + 1) by decide)]
end PLA
