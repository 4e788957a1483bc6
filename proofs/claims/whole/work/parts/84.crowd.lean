/-! MOST AND CROWDED -/
section OPB
variable {n1 n2 L : Nat} {xs : Nat → Int32} {g : Nat → GR} {i : Nat → Int32} {A : Nat → Nat → Int32} {m : Nat → Int32} {B : Nat → Nat → Int32} {J : Nat → Int64} {wd : Int64} {o : Nat → Int64}
theorem lm_rows {n M : Nat} (hn : n ≤ 6) (hM : M ≤ 8) (hB : ∀ j, j < 2 ^ n → B 65 j = nI (Pn n j)) (x3 : Int32) : ∀ (d N r : Nat) (f : Nat → Int32) (cur : Nat → Nat), r + d = M → d < N → rep n 21 cur (lsq n r) → (∀ j, j < al n → f j = vI (cur j) ∧ cur j ≤ 7 * r + 1) → ∃ (f' : Nat → Int32) (cur' : Nat → Nat), rep n 21 cur' (lsq n M) ∧ (∀ j, j < al n → f' j = vI (cur' j) ∧ cur' j ≤ 100) ∧ f_M_laysMost_p102 N 51 (nI M) (nI n) x3 (nI (al n)) (nI r) (mk n1 n2 L xs g i A m (up B 63 f) J wd o) = f_M_laysMost_p244 am_N 51 x3 (nI (al n)) 0 0 (mk n1 n2 L xs g i A m (up B 63 f') J wd o) := by
  have ha := al_le hn
  intro d
  induction d with
  | zero =>
    intro N r f cur hr hN R hf
    obtain ⟨N, rfl⟩ : ∃ m, N = m + 1 := ⟨N - 1, by omega⟩
    have er : r = M := by omega
    subst er
    refine ⟨f, cur, R, fun j hj => ⟨(hf j hj).1, by have := (hf j hj).2; omega⟩, ?_⟩
    rw [f_M_laysMost_p102, if_pos (nI_le (by omega) (by omega))]
  | succ d ih =>
    intro N r f cur hr hN R hf
    obtain ⟨N, rfl⟩ : ∃ m, N = m + 1 := ⟨N - 1, by omega⟩
    obtain ⟨f', cur', c1, c2, c3⟩ := lm_u (n1 := n1) (n2 := n2) (L := L) (xs := xs) (g := g) (i := i) (A := A) (m := m) (J := J) (wd := wd) (o := o) (bd := 7 * (r + 1) + 1) (W := cur) hn hB (fun u hu => by have := (hf u hu).2; omega) (by omega) (by omega) (f_M_laysMost_p102 N) (nI M) x3 (nI (al n)) (nI r) (al n) am_N f cur (Nat.le_refl _) (by unfold am_N; omega) (fun j hj => ⟨(hf j hj).1, by have := (hf j hj).2; omega⟩) (fun u _ => rfl) (fun u h1 h2 => by omega)
    rw [f_M_laysMost_p102, if_neg (nI_ge (by omega) (by omega)), c3, nI_1]
    exact ih N (r + 1) f' cur' (by omega) (by omega) (rep_step R c2) c1
theorem lm_best {N0 Mx : Nat} {cur : Nat → Nat} (hN : N0 ≤ 32768) (hf : ∀ j, j < N0 → B 63 j = vI (cur j) ∧ cur j ≤ 100) (hup : ∀ u, u < N0 → cur u ≤ Mx + 1) {kn : Nat} (hk : kn < 63) : ∀ d N u b, u + d = N0 → d < N → b ≤ Mx → Mx ≤ 100 → (b = Mx ∨ ∃ u', u ≤ u' ∧ u' < N0 ∧ cur u' = Mx + 1) → f_M_laysMost_p244 N 51 (nI kn) (nI N0) (nI b) (nI u) (mk n1 n2 L xs g i A m B J wd o) = some (mk n1 n2 L xs g i A m (up B 64 (upd (B 64) kn (nI Mx))) J wd o, nI Mx) := by
  intro d
  induction d with
  | zero =>
    intro N u b hu hN' hb hM hor
    obtain ⟨N, rfl⟩ : ∃ m, N = m + 1 := ⟨N - 1, by omega⟩
    have eb : b = Mx := by
      rcases hor with h | ⟨u', h1, h2, -⟩
      · exact h
      · omega
    subst eb
    rw [f_M_laysMost_p244, if_pos (nI_le (by omega) (by omega)), rd51_25, Option.bind_some, w_si ar64 hk (by decide) (by decide), Option.bind_some, st64]
  | succ d ih =>
    intro N u b hu hN' hb hM hor
    obtain ⟨N, rfl⟩ : ∃ m, N = m + 1 := ⟨N - 1, by omega⟩
    obtain ⟨f1, f2⟩ := hf u (by omega)
    have hu1 := hup u (by omega)
    have e63 : am_ai (mk n1 n2 L xs g i A m B J wd o) 63 (nI u) = some (vI (cur u)) := by
      rw [r_ai ar63 (by omega) (by decide), f1]
    rw [f_M_laysMost_p244, if_neg (nI_ge (by omega) (by omega)), rd51_24, Option.bind_some, e63, Option.bind_some]
    unfold f_M_laysMost_p272
    by_cases q : cur u ≤ b + 1
    · rw [if_pos (show vI (cur u) ≤ nI b by rw [fa_le, nI_toInt (by omega), vI_toInt (by omega)]; omega), nI_1]
      refine ih N (u + 1) b (by omega) (by omega) hb hM ?_
      rcases hor with h | ⟨u', h1, h2, h3⟩
      · exact Or.inl h
      · by_cases z : u' = u
        · subst z; exact Or.inl (by omega)
        · exact Or.inr ⟨u', by omega, h2, h3⟩
    · rw [if_neg (show ¬ vI (cur u) ≤ nI b by rw [fa_le, nI_toInt (by omega), vI_toInt (by omega)]; omega), Option.bind_some, e63, Option.bind_some, nI_1]
      obtain ⟨c, hc⟩ : ∃ c, cur u = c + 1 := ⟨cur u - 1, by omega⟩
      rw [hc, vI_s]
      refine ih N (u + 1) c (by omega) (by omega) (by omega) hM ?_
      rcases hor with h | ⟨u', h1, h2, h3⟩
      · exact Or.inl (by omega)
      · by_cases z : u' = u
        · subst z; exact Or.inl (by omega)
        · exact Or.inr ⟨u', by omega, h2, h3⟩
theorem oc_pos : ∀ j : Fin 48, 1 ≤ ocN j.val := by decide
theorem M_laysMost {a b : Nat} (a1 : 1 ≤ a) (a8 : a ≤ 8) (b1 : 1 ≤ b) (b6 : b ≤ 6) (K : KI B) : ∃ B', f_M_laysMost 51 (nI a) (nI b) (mk n1 n2 L xs g i A m B J wd o) = some (mk n1 n2 L xs g i A m B' J wd o, nI (ocN (6 * (a - 1) + (b - 1)))) ∧ KI B' ∧ ∀ x, x ≠ 63 → x ≠ 64 → x ≠ 65 → B' x = B x := by
  have hoc := oc_eq ⟨6 * (a - 1) + (b - 1), by omega⟩
  simp only [] at hoc
  have hop := oc_pos ⟨6 * (a - 1) + (b - 1), by omega⟩
  simp only [] at hop
  have hol := oc_le ⟨6 * (a - 1) + (b - 1), by omega⟩
  simp only [] at hol
  have ei : (7 : Int32) * (nI a - 1) + nI b = nI (7 * (a - 1) + b) := by
    rw [show nI a - 1 = nI (a - 1) from pk_sub (b := 1) a1, show (7 : Int32) = nI 7 from rfl, pk_mul, nI_add]
  have hk := K (a - 1) (b - 1) (by omega) (by omega)
  rw [show 7 * (a - 1) + (b - 1 + 1) = 7 * (a - 1) + b by omega, hoc] at hk
  have e64 : am_ai (mk n1 n2 L xs g i A m B J wd o) 64 (nI (7 * (a - 1) + b)) = some (B 64 (7 * (a - 1) + b)) := r_ai ar64 (by omega) (by decide)
  unfold f_M_laysMost e_M_laysMost
  rw [sf51, rd51_25, Option.bind_some, ei, e64, Option.bind_some]
  have q0 : ¬ nI (ocN (6 * (a - 1) + (b - 1))) ≤ (0 : Int32) := nI_ge (a := 0) (by omega) (by omega)
  rcases hk with hk | hk
  · rw [hk, if_pos (by decide), if_neg (show ¬ (2 : Nat) = 0 by decide), pr_I (by omega)]
    have hpr : pr b ≤ 15 := by
      have : ∀ b : Fin 7, pr b.val ≤ 15 := by decide
      exact this ⟨b, by omega⟩
    rw [nI_shl1 (by omega), show 2 ^ pr b = al b from rfl]
    obtain ⟨f1, F1, e1⟩ := lm_pairs (n1 := n1) (n2 := n2) (L := L) (xs := xs) (g := g) (i := i) (A := A) (m := m) (B := B) (J := J) (wd := wd) (o := o) b6 (nI a) (nI (7 * (a - 1) + b)) (nI (al b)) (2 ^ b) am_N 0 (B 65) (by omega) (by have := pow6 b6; unfold am_N; omega) (fun j hj => by omega)
    rw [up_id] at e1
    have e1' : f_M_laysMost_p39 am_N 51 (nI a) (nI b) (nI (7 * (a - 1) + b)) (nI (al b)) 0 (mk n1 n2 L xs g i A m B J wd o) = _ := e1
    rw [e1']
    obtain ⟨f2, F2, e2⟩ := lm_init (n1 := n1) (n2 := n2) (L := L) (xs := xs) (g := g) (i := i) (A := A) (m := m) (B := up B 65 f1) (J := J) (wd := wd) (o := o) b6 (nI a) (nI b) (nI (7 * (a - 1) + b)) (al b) am_N 0 ((up B 65 f1) 63) (by omega) (by have := al_le b6; unfold am_N; omega) (fun j hj => by omega)
    rw [up_id] at e2
    have e2' : f_M_laysMost_p69 am_N 51 (nI a) (nI b) (nI (7 * (a - 1) + b)) (nI (al b)) 0 (mk n1 n2 L xs g i A m (up B 65 f1) J wd o) = _ := e2
    rw [e2']
    obtain ⟨f3, cur, R, F3, e3⟩ := lm_rows (n1 := n1) (n2 := n2) (L := L) (xs := xs) (g := g) (i := i) (A := A) (m := m) (B := up B 65 f1) (J := J) (wd := wd) (o := o) b6 a8 (fun j hj => by rw [up_s]; exact F1 j hj) (nI (7 * (a - 1) + b)) a am_N 0 f2 (fun u => if u = 0 then 1 else 0) (by omega) (by unfold am_N; omega) (rep_0 b (fun u _ => rfl)) (fun j hj => ⟨F2 j hj, by show (if j = 0 then 1 else 0) ≤ 7 * 0 + 1; split <;> omega⟩)
    have e3' : f_M_laysMost_p102 am_N 51 (nI a) (nI b) (nI (7 * (a - 1) + b)) (nI (al b)) 0 (mk n1 n2 L xs g i A m (up (up B 65 f1) 63 f2) J wd o) = _ := e3
    rw [e3']
    obtain ⟨⟨u, hu, hu2⟩, hup⟩ := best_ok b1 b6 a1 a8 R
    have e4 := lm_best (n1 := n1) (n2 := n2) (L := L) (xs := xs) (g := g) (i := i) (A := A) (m := m) (B := up (up B 65 f1) 63 f3) (J := J) (wd := wd) (o := o) (kn := 7 * (a - 1) + b) (al_le b6) (fun j hj => by rw [up_s]; exact F3 j hj) hup (by omega) (al b) am_N 0 0 (by omega) (by have := al_le b6; unfold am_N; omega) (by omega) (by omega) (Or.inr ⟨u, Nat.zero_le _, hu, hu2⟩)
    refine ⟨_, e4, ?_, ?_⟩
    · intro a0 b0 ha0 hb0
      rw [up_s]
      by_cases z : 7 * a0 + (b0 + 1) = 7 * (a - 1) + b
      · have za : a0 = a - 1 := by omega
        have zb : b0 = b - 1 := by omega
        rw [z, pk_us, za, zb, hoc]
        exact Or.inr rfl
      · rw [pk_un z]
        exact K a0 b0 ha0 hb0
    · intro x h1 h2 h3
      rw [up_n _ _ h2, up_n _ _ h1, up_n _ _ h3]
  · rw [hk, if_neg q0, Option.bind_some, e64, hk, Option.bind_some]
    exact ⟨B, rfl, K, fun _ _ _ _ => rfl⟩
theorem C_openCells {a b : Nat} (a1 : 1 ≤ a) (a8 : a ≤ 8) (b1 : 1 ≤ b) (b6 : b ≤ 6) : f_C_openCells (nI a) (nI b) (mk n1 n2 L xs g i A m B J wd o) = some (mk n1 n2 L xs g i A m B J wd o, nI (ocN (6 * (a - 1) + (b - 1)))) := by
  have hoc := oc_eq ⟨6 * (a - 1) + (b - 1), by omega⟩
  simp only [] at hoc
  have ei : ((nI a - 1) * 6 + nI b) - 1 = nI (6 * (a - 1) + (b - 1)) := by
    rw [show nI a - 1 = nI (a - 1) from pk_sub (b := 1) a1, show (6 : Int32) = nI 6 from rfl, pk_mul, nI_add, show (1 : Int32) = nI 1 from rfl, pk_sub (by omega), show (a - 1) * 6 + b - 1 = 6 * (a - 1) + (b - 1) by omega]
  have e48 : am_al (mk n1 n2 L xs g i A m B J wd o) 1 = some (nI 48) := r_al ar1 (by decide)
  unfold f_C_openCells e_C_openCells f_C_openCells_p32
  rw [ei, if_neg (nI_pos (by omega)), e48, Option.bind_some, if_neg (nI_ge (by omega) (by decide)), r_ai ar1 (by omega) (by decide), Option.bind_some, hoc]
theorem C_isOpen_t {x y : Int32} (x1 : ¬ x < 1) (x8 : ¬ (8 : Int32) < x) (y1 : ¬ y < 1) (y6 : ¬ (6 : Int32) < y) (w : am_W) : f_C_isOpenSize x y w = some (w, 1) := by
  unfold f_C_isOpenSize e_C_isOpenSize f_C_isOpenSize_p27
  rw [if_neg x1, if_neg x8, if_neg y1, if_neg y6]
  rfl
theorem C_isOpen_f {x y : Int32} (q : (x < 1 ∨ (8 : Int32) < x) ∨ (y < 1 ∨ (6 : Int32) < y)) (w : am_W) : f_C_isOpenSize x y w = some (w, 0) := by
  unfold f_C_isOpenSize e_C_isOpenSize f_C_isOpenSize_p26 f_C_isOpenSize_p27
  have e : am_rb w 0 = some (w, 0) := rfl
  rw [e]
  split
  · rfl
  · split
    · rfl
    · split
      · rfl
      · split
        · rfl
        · rcases q with (q | q) | (q | q) <;> contradiction
theorem M_isSize_t {x y : Int32} (x1 : ¬ x < 1) (x8 : ¬ (8 : Int32) < x) (y1 : ¬ y < 1) (y6 : ¬ (6 : Int32) < y) (w : am_W) : f_M_isSize x y w = some (w, 1) := by
  unfold f_M_isSize e_M_isSize f_M_isSize_p25
  rw [M_isIn_t x1 x8, Option.bind_some, if_neg (show ¬ (1 : Int32) = 0 by decide), M_isIn_t y1 y6, Option.bind_some, if_neg (show ¬ (1 : Int32) = 0 by decide)]
  rfl
theorem M_isSize_f {x y : Int32} (q : (x < 1 ∨ (8 : Int32) < x) ∨ (y < 1 ∨ (6 : Int32) < y)) (w : am_W) : f_M_isSize x y w = some (w, 0) := by
  unfold f_M_isSize e_M_isSize f_M_isSize_p24 f_M_isSize_p25
  by_cases z : x < 1 ∨ (8 : Int32) < x
  · rw [M_isIn_f z]; rfl
  · rw [M_isIn_t (fun h => z (Or.inl h)) (fun h => z (Or.inr h)), Option.bind_some, if_neg (show ¬ (1 : Int32) = 0 by decide), M_isIn_f (by rcases q with q | q; exact absurd q z; exact q)]
    rfl
end OPB
theorem INV_most {g : Nat → GR} {i : Nat → Int32} {A : Nat → Nat → Int32} {m : Nat → Int32} {B B' : Nat → Nat → Int32} (H : INV g i A m B) (K : KI B') (hB : ∀ x, x ≠ 63 → x ≠ 64 → x ≠ 65 → B' x = B x) : INV g i A (up m 0 0) B' := by
  obtain ⟨⟨h, v, s, col, O, C, M⟩, e8, T, Hh, I, S, -⟩ := H
  exact ⟨⟨h, v, s, col, O, C, fun j hj => by rw [hB 53 (by decide) (by decide) (by decide)]; exact M j hj⟩, e8, TI_same T rfl rfl rfl (hB 52 (by decide) (by decide) (by decide)), HI_same Hh rfl rfl rfl rfl (hB 56 (by decide) (by decide) (by decide)) (fun _ _ => rfl), II_same I rfl (hB 60 (by decide) (by decide) (by decide)) (hB 55 (by decide) (by decide) (by decide)) (fun _ _ => rfl), S, K⟩
theorem size_case (x y : Int32) : ((x < 1 ∨ (8 : Int32) < x) ∨ (y < 1 ∨ (6 : Int32) < y)) ∨ ∃ a b, 1 ≤ a ∧ a ≤ 8 ∧ 1 ≤ b ∧ b ≤ 6 ∧ x = nI a ∧ y = nI b := by
  rcases in_case x (lo := 1) (hi := 8) (by decide) (by decide) with q | ⟨a, a1, a8, rfl⟩
  · exact Or.inl (Or.inl q)
  rcases in_case y (lo := 1) (hi := 6) (by decide) (by decide) with q | ⟨b, b1, b6, rfl⟩
  · exact Or.inl (Or.inr q)
  exact Or.inr ⟨a, b, a1, a8, b1, b6, rfl, rfl⟩
theorem p_most (x y : Int32) : pOk (f_C_most 8 x y) (f_M_most 51 x y) := by
  intro n1 n2 L xs g i A m B J wd o H
  unfold f_C_most e_C_most f_C_most_p17 f_M_most e_M_most f_M_most_p23
  rcases size_case x y with q | ⟨a, b, a1, a8, b1, b6, rfl, rfl⟩
  · refine ⟨-1, g, i, A, ?_, up m 0 0, B, J, wd, ?_, INV_keep H (keep0 m B 0)⟩
    · rw [sf8, C_isOpen_f q]; rfl
    · rw [sf51, wr51_0, Option.bind_some, M_isSize_f q]; rfl
  · have x1 : ¬ nI a < (1 : Int32) := nI_nlt (b := 1) (by omega) (by omega)
    have x8 : ¬ (8 : Int32) < nI a := nI_nlt (a := 8) (by omega) (by omega)
    have y1 : ¬ nI b < (1 : Int32) := nI_nlt (b := 1) (by omega) (by omega)
    have y6 : ¬ (6 : Int32) < nI b := nI_nlt (a := 6) (by omega) (by omega)
    obtain ⟨-, -, -, -, -, -, K⟩ := id H
    obtain ⟨B', e, K', hB⟩ := M_laysMost (n1 := n1) (n2 := n2) (L := L) (xs := xs) (g := g) (i := i) (A := A) (m := up m 0 0) (J := J) (wd := wd) (o := o) a1 a8 b1 b6 K
    refine ⟨nI (ocN (6 * (a - 1) + (b - 1))), g, i, A, ?_, up m 0 0, B', J, wd, ?_, INV_most H K' hB⟩
    · rw [sf8, C_isOpen_t x1 x8 y1 y6, Option.bind_some, if_neg (show ¬ (1 : Int32) = 0 by decide), C_openCells a1 a8 b1 b6, Option.bind_some]
    · rw [sf51, wr51_0, Option.bind_some, M_isSize_t x1 x8 y1 y6, Option.bind_some, if_neg (show ¬ (1 : Int32) = 0 by decide), e, Option.bind_some]
theorem p_crowded (x y z : Int32) : pOk (f_C_crowded 8 x y z) (f_M_crowded 51 x y z) := by
  intro n1 n2 L xs g i A m B J wd o H
  unfold f_C_crowded e_C_crowded f_C_crowded_p18 f_C_crowded_p38 f_M_crowded e_M_crowded f_M_crowded_p22 f_M_crowded_p43
  rcases size_case x y with q | ⟨a, b, a1, a8, b1, b6, rfl, rfl⟩
  · refine ⟨-1, g, i, A, ?_, up m 0 0, B, J, wd, ?_, INV_keep H (keep0 m B 0)⟩
    · rw [sf8, C_isOpen_f q]; rfl
    · rw [sf51, wr51_0, Option.bind_some, M_isSize_f q]; rfl
  have x1 : ¬ nI a < (1 : Int32) := nI_nlt (b := 1) (by omega) (by omega)
  have x8 : ¬ (8 : Int32) < nI a := nI_nlt (a := 8) (by omega) (by omega)
  have y1 : ¬ nI b < (1 : Int32) := nI_nlt (b := 1) (by omega) (by omega)
  have y6 : ¬ (6 : Int32) < nI b := nI_nlt (a := 6) (by omega) (by omega)
  rcases in_case z (lo := 1) (hi := 4) (by decide) (by decide) with q | ⟨c, c1, c4, rfl⟩
  · refine ⟨-1, g, i, A, ?_, up m 0 0, B, J, wd, ?_, INV_keep H (keep0 m B 0)⟩
    · rw [sf8, C_isOpen_t x1 x8 y1 y6, Option.bind_some, if_neg (show ¬ (1 : Int32) = 0 by decide)]
      by_cases u : z < 1
      · exact if_pos u
      · rw [if_neg u]
        refine if_neg (fun h => ?_)
        rcases q with q | q
        · exact u q
        · exact (fa_of_lt q).2.1 h
    · rw [sf51, wr51_0, Option.bind_some, M_isSize_t x1 x8 y1 y6, Option.bind_some, if_neg (show ¬ (1 : Int32) = 0 by decide), M_isIn_f (show z < 1 ∨ (4 : Int32) < z from q)]
      rfl
  have z1 : ¬ nI c < (1 : Int32) := nI_nlt (b := 1) (by omega) (by omega)
  have z4 : ¬ (4 : Int32) < nI c := nI_nlt (a := 4) (by omega) (by omega)
  have z4' : nI c ≤ (4 : Int32) := nI_le (b := 4) (by omega) (by omega)
  obtain ⟨-, -, -, -, -, -, K⟩ := id H
  obtain ⟨B', e, K', hB⟩ := M_laysMost (n1 := n1) (n2 := n2) (L := L) (xs := xs) (g := g) (i := i) (A := A) (m := up m 0 0) (J := J) (wd := wd) (o := o) a1 a8 b1 b6 K
  refine ⟨if nI a * nI b ≤ nI (ocN (6 * (a - 1) + (b - 1))) * nI c then 0 else 1, g, i, A, ?_, up m 0 0, B', J, wd, ?_, INV_most H K' hB⟩
  · rw [sf8, C_isOpen_t x1 x8 y1 y6, Option.bind_some, if_neg (show ¬ (1 : Int32) = 0 by decide), if_neg z1, if_pos z4', C_openCells a1 a8 b1 b6, Option.bind_some]
    split <;> rfl
  · rw [sf51, wr51_0, Option.bind_some, M_isSize_t x1 x8 y1 y6, Option.bind_some, if_neg (show ¬ (1 : Int32) = 0 by decide), M_isIn_t z1 z4, Option.bind_some, if_pos (show ¬ (1 : Int32) = 0 by decide), e, Option.bind_some]
    split <;> rfl
