/-! COLOURS NAMED ANEW; UNDO; IMAGES -/
def mixN (a b : Nat → Nat) (k : Nat) : Nat → Nat := fun j => if j < k then a j else b j
theorem mixN_s (a b : Nat → Nat) (k : Nat) : updN (mixN a b k) k (a k) = mixN a b (k + 1) := by
  funext j
  unfold updN mixN
  by_cases q : j = k
  · rw [if_pos q, if_pos (by omega), q]
  · rw [if_neg q]
    by_cases z : j < k
    · rw [if_pos z, if_pos (by omega)]
    · rw [if_neg z, if_neg (by omega)]
theorem mixN_e (a b : Nat → Nat) {k : Nat} (e : a k = b k) : mixN a b (k + 1) = mixN a b k := by
  funext j
  unfold mixN
  by_cases q : j = k
  · rw [if_pos (by omega), if_neg (by omega), q, e]
  · by_cases z : j < k
    · rw [if_pos (by omega), if_pos z]
    · rw [if_neg (by omega), if_neg z]
def nmP (col : Nat → Nat) (x y : Nat) (k : Nat) : Bool := decide (col k = x) || decide (col k = y)
theorem swC_z {h v s : Nat} {col : Nat → Nat} (O : gokz h v s col) {x y : Nat} (hx : x ≤ s) (hy : y ≤ s) (x0 : x ≠ 0) (y0 : y ≠ 0) : gokz h v s (swC col x y) := ⟨swC_ok O.1 hx hy, fun k hk => by
  have := O.2 k hk
  unfold swC
  rw [this, if_neg (Ne.symm x0), if_neg (Ne.symm y0)]⟩
section NMA
variable {n1 n2 L : Nat} {xs : Nat → Int32} {g : Nat → GR} {i : Nat → Int32} {A : Nat → Nat → Int32} {m : Nat → Int32} {B : Nat → Nat → Int32} {J : Nat → Int64} {wd : Int64} {o : Nat → Int64} {h v s : Nat} {col : Nat → Nat}
theorem M_isCol1 (H : mN B 53 h v s col) (O : gok h v s col) (h0 : 0 < h) {c : Nat} (c0 : 0 < c) (hc : c ≤ s) : f_M_isColour 51 1 (nI c) (mk n1 n2 L xs g i A m B J wd o) = some (mk n1 n2 L xs g i A m B J wd o, 1) := M_isColour_t H O h0 (a := 1) c0 hc
theorem mname_loop (O : gok h v s col) {x y : Nat} (hx : x ≤ s) (hy : y ≤ s) : ∀ d n k f, k + d = h * v → d < n → (∀ j, j < 67 → f j = enc h v s (mixN (swC col x y) col k) j) → ∃ f', (∀ j, j < 67 → f' j = enc h v s (mixN (swC col x y) col (h * v)) j) ∧ f_M_name_p39 n 51 (nI x) (nI y) (nI (fb_ct (nmP col x y) k)) (nI k) (mk n1 n2 L xs g i A m (up B 53 f) J wd o) = some (mk n1 n2 L xs g i A m (up B 53 f') J wd o, nI (fb_ct (nmP col x y) (h * v))) := by
  have h64 := O.hv
  have h4 := O.2.2.1
  intro d
  induction d with
  | zero =>
    intro n k f hk hn hf
    obtain ⟨n, rfl⟩ : ∃ m, n = m + 1 := ⟨n - 1, by omega⟩
    have M : mN (up B 53 f) 53 h v s _ := fun x hx => by rw [up_s]; exact hf x hx
    have ek : k = h * v := by omega
    refine ⟨f, by rw [← ek]; exact hf, ?_⟩
    rw [f_M_name_p39, M_cellMany M, Option.bind_some, if_pos (nI_le (by omega) (by omega)), ek]
  | succ d ih =>
    intro n k f hk hn hf
    obtain ⟨n, rfl⟩ : ∃ m, n = m + 1 := ⟨n - 1, by omega⟩
    have M : mN (up B 53 f) 53 h v s _ := fun x hx => by rw [up_s]; exact hf x hx
    have hkl : k < h * v := by omega
    have ho := O.2.2.2.2.2 k hkl
    have ecl : am_ai (mk n1 n2 L xs g i A m (up B 53 f) J wd o) 53 (3 + nI k) = some (nI (col k)) := by
      rw [(mN.gr M).cl (by omega)]
      unfold mixN
      rw [if_neg (by omega)]
    have hs := fb_ct_succ (nmP col x y) k
    rw [f_M_name_p39, M_cellMany M, Option.bind_some, if_neg (nI_ge hkl (by omega)), rd51_11, Option.bind_some, ecl, Option.bind_some]
    have step : ∀ z, z = swC col x y k → nI x + nI y - nI (col k) = nI z → nmP col x y k = true → f_M_name_p74 (f_M_name_p39 n) 51 (nI x) (nI y) (nI (fb_ct (nmP col x y) k)) (nI k) (nI (col k)) (mk n1 n2 L xs g i A m (up B 53 f) J wd o) = f_M_name_p39 n 51 (nI x) (nI y) (nI (fb_ct (nmP col x y) (k + 1))) (nI (k + 1)) (mk n1 n2 L xs g i A m (up B 53 (upd f (k + 3) (nI (swC col x y k)))) J wd o) := by
      intro z hz hz2 hp
      unfold f_M_name_p74 f_M_name_p92
      rw [rd51_11, Option.bind_some, hz2, three, w_si ar53 (by omega) (by decide) (by decide), Option.bind_some, st53, up_s, up_up, nI_1, nI_1, hz, hs, hp]
      rfl
    have hf2 : ∀ j, j < 67 → upd f (k + 3) (nI (swC col x y k)) j = enc h v s (mixN (swC col x y) col (k + 1)) j := by
      have := enc_upd h v s _ k (swC col x y k) hf
      rw [mixN_s] at this
      exact this
    by_cases zx : col k = x
    · have e1 : swC col x y k = y := by unfold swC; rw [if_pos zx]
      have e2 : nI x + nI y - nI (col k) = nI y := by rw [zx, nI_add, pk_sub (by omega), Nat.add_sub_cancel_left]
      rw [if_pos (by rw [zx]), step y e1.symm e2 (by unfold nmP; simp [zx])]
      exact ih n (k + 1) _ (by omega) (by omega) hf2
    · rw [if_neg (by rw [nI_eq (by omega) (by omega)]; exact zx)]
      by_cases zy : col k = y
      · have e1 : swC col x y k = x := by unfold swC; rw [if_neg zx, if_pos zy]
        have e2 : nI x + nI y - nI (col k) = nI x := by rw [zy, nI_add, pk_sub (by omega), Nat.add_sub_cancel]
        rw [if_pos (by rw [zy]), step x e1.symm e2 (by unfold nmP; simp [zy])]
        exact ih n (k + 1) _ (by omega) (by omega) hf2
      · rw [if_neg (by rw [nI_eq (by omega) (by omega)]; exact zy)]
        unfold f_M_name_p92
        have e1 : swC col x y k = col k := by unfold swC; rw [if_neg zx, if_neg zy]
        have hp : nmP col x y k = false := by unfold nmP; simp [zx, zy]
        rw [hp] at hs
        have hs' : fb_ct (nmP col x y) (k + 1) = fb_ct (nmP col x y) k := hs
        rw [nI_1, ← hs']
        exact ih n (k + 1) f (by omega) (by omega) (by rw [mixN_e _ _ e1]; exact hf)
end NMA
theorem p_name (x y : Int32) : pOk (f_C_name 8 x y) (f_M_name 51 x y) := by
  intro n1 n2 L xs g i A m B J wd o H
  obtain ⟨⟨h, v, s, col, O, C, M⟩, -, -, Hh, -⟩ := id H
  have h8 := O.1.1
  have h4 := O.1.2.2.1
  have h64 := O.1.hv
  have case1 : ∀ x : Int32, (x = 0 ∨ h = 0 ∨ x < 0 ∨ nI s < x) ∨ (0 < h ∧ ∃ c, 0 < c ∧ c ≤ s ∧ x = nI c) := by
    intro x
    rcases col_case x (h := h) (s := s) h4 with q | ⟨h0, c, hc, rfl⟩
    · exact Or.inl (Or.inr q)
    · rcases Nat.eq_zero_or_pos c with z | z
      · exact Or.inl (Or.inl (by rw [z]; rfl))
      · exact Or.inr ⟨h0, c, z, hc, rfl⟩
  have bad1 : ∀ x : Int32, (x = 0 ∨ h = 0 ∨ x < 0 ∨ nI s < x) → (h = 0 ∨ x < 1 ∨ nI s < x) := by
    intro x q
    rcases q with q | q | q | q
    · subst q; exact Or.inr (Or.inl (by decide))
    · exact Or.inl q
    · refine Or.inr (Or.inl ?_)
      rw [fa_lt] at q ⊢
      have : (0 : Int32).toInt = 0 := rfl
      have : (1 : Int32).toInt = 1 := rfl
      omega
    · exact Or.inr (Or.inr q)
  have bad2 : ∀ x : Int32, (x = 0 ∨ h = 0 ∨ x < 0 ∨ nI s < x) → ¬ x = 0 → (h = 0 ∨ x < 0 ∨ nI s < x) := fun x q z => by
    rcases q with q | q
    · exact absurd q z
    · exact q
  unfold f_C_name e_C_name f_C_name_p35 f_M_name e_M_name f_M_name_p28
  by_cases good : (0 < h ∧ ∃ c, 0 < c ∧ c ≤ s ∧ x = nI c) ∧ (0 < h ∧ ∃ c, 0 < c ∧ c ≤ s ∧ y = nI c) ∧ x ≠ y
  · obtain ⟨⟨h0, a, ha0, has, rfl⟩, ⟨-, b, hb0, hbs, rfl⟩, ne⟩ := good
    have nab : a ≠ b := fun e => ne (by rw [e])
    obtain ⟨gk, ik, Ak, eK, a1, a2, a3, m9, f9, eS, a4⟩ := keep_C Hh C O M
    have C1 : cg gk 11 h v s col := cg_of C (a1 11 (by decide))
    obtain ⟨f', e, F⟩ := G_exchangeColours (C1.g11 (n1 := n1) (n2 := n2) (L := L) (xs := xs) (i := ik) (A := Ak) (m := m) (B := B) (J := J) (wd := wd) (o := o)) C1.2.2.2 (x := a) (y := b) (by omega) (by omega) nab
    have C2 := cg11 (g := gk) (s := s) F
    have O2 := swC_z O has hbs (by omega) (by omega)
    have ez : mixN (swC col a b) col 0 = col := by funext j; unfold mixN; rw [if_neg (by omega)]
    have ef : mixN (swC col a b) col (h * v) = swC col a b := by
      funext j
      unfold mixN
      split
      · rfl
      · next q => rw [O.2 j (by omega), O2.2 j (by omega)]
    obtain ⟨f2, F2, e2⟩ := mname_loop (n1 := n1) (n2 := n2) (L := L) (xs := xs) (g := up gk 11 (h, v, s, f')) (i := ik) (A := Ak) (m := up (up m 0 0) 19 m9) (B := up B 56 f9) (J := J) (wd := wd) (o := o) O.1 has hbs (h * v) am_N 0 (B 53) (by omega) (by unfold am_N; omega) (by rw [ez]; exact M)
    have eu : up (up B 56 f9) 53 (B 53) = up B 56 f9 := up_id (up B 56 f9) 53
    rw [eu] at e2
    rw [ef] at F2
    refine ⟨nI (fb_ct (nmP col a b) (h * v)), up gk 11 (h, v, s, f'), ik, Ak, ?_, up (up m 0 0) 19 m9, up (up B 56 f9) 53 f2, J, wd, ?_, INV_act H a1 a2 a3 a4 (fun a h1 _ => up_n _ _ h1) rfl rfl rfl rfl rfl rfl rfl rfl O2 C2 (fun j hj => by rw [up_s]; exact F2 j hj)⟩
    · rw [sf8, if_neg (nI_ne0 ha0 (by omega)), if_neg (nI_ne0 hb0 (by omega)), if_neg ne, rd8_1, Option.bind_some, G_hasCol_t C.g11 O.1 h0 has, Option.bind_some, if_neg (show ¬ (1 : Int32) = 0 by decide), rd8_1, Option.bind_some, G_hasCol_t C.g11 O.1 h0 hbs, Option.bind_some, if_pos (show ¬ (1 : Int32) = 0 by decide), rd8_5, Option.bind_some, rd8_1, Option.bind_some, eK, Option.bind_some, rd8_1, Option.bind_some, e, Option.bind_some, gp11, rd8_1, Option.bind_some, G_cellsOf C2.g11 (by omega), Option.bind_some, rd8_1, Option.bind_some, G_cellsOf C2.g11 (by omega), Option.bind_some]
      simp only [C2.2.2.2 a (by omega), C2.2.2.2 b (by omega)]
      have eo : lN (stc h v (swC col a b) a) ||| lN (stc h v (swC col a b) b) = lN (bs (fun k => decide (swC col a b k = a) || decide (swC col a b k = b)) (h * v)) := by
        unfold stc
        rw [wb_or (bs_lt64 _ h64) (bs_lt64 _ h64), bs_or]
      have ect : fb_ct (fun k => decide (swC col a b k = a) || decide (swC col a b k = b)) (h * v) = fb_ct (nmP col a b) (h * v) := by
        refine fb_ct_cong (fun k hk => ?_)
        unfold nmP
        have i1 := swC_iff1 (col := col) (x := a) (y := b) (Ne.symm nab) k
        have i2 := swC_iff2 (col := col) (x := a) (y := b) k
        rw [show decide (swC col a b k = a) = decide (col k = b) from decide_eq_decide.mpr i2.symm, show decide (swC col a b k = b) = decide (col k = a) from decide_eq_decide.mpr i1.symm, Bool.or_comm]
      rw [eo, J_bitCount (bs_lt64 _ h64), Option.bind_some, ct64 _ h64, ect]
    · rw [sf51, wr51_0, Option.bind_some, M_isCol1 M O.1 h0 ha0 has, Option.bind_some, if_neg (show ¬ (1 : Int32) = 0 by decide), M_isCol1 M O.1 h0 hb0 hbs, Option.bind_some, if_neg (show ¬ (1 : Int32) = 0 by decide), if_pos ne, eS _ _ _ _ _ _ _ (up m 0 0) B _ _ _ rfl rfl rfl, Option.bind_some]
      exact e2
  · refine ⟨-1, g, i, A, ?_, up m 0 0, B, J, wd, ?_, INV_keep H (keep0 m B 0)⟩
    · rw [sf8]
      by_cases zx : x = 0
      · exact if_pos zx
      rw [if_neg zx]
      by_cases zy : y = 0
      · exact if_pos zy
      rw [if_neg zy]
      by_cases ne : x = y
      · exact if_pos ne
      rw [if_neg ne, rd8_1, Option.bind_some]
      rcases case1 x with q | ⟨h0, a, ha0, has, rfl⟩
      · rw [G_hasCol_f C.g11 (bad2 x q zx)]; rfl
      rw [G_hasCol_t C.g11 O.1 h0 has, Option.bind_some, if_neg (show ¬ (1 : Int32) = 0 by decide), rd8_1, Option.bind_some]
      rcases case1 y with q | ⟨-, b, hb0, hbs, rfl⟩
      · rw [G_hasCol_f C.g11 (bad2 y q zy)]; rfl
      exact absurd ⟨⟨h0, a, ha0, has, rfl⟩, ⟨h0, b, hb0, hbs, rfl⟩, ne⟩ good
    · rw [sf51, wr51_0, Option.bind_some]
      rcases case1 x with q | ⟨h0, a, ha0, has, rfl⟩
      · rw [M_isColour_f M O.1 (bad1 x q)]; rfl
      rw [M_isCol1 M O.1 h0 ha0 has, Option.bind_some, if_neg (show ¬ (1 : Int32) = 0 by decide)]
      rcases case1 y with q | ⟨-, b, hb0, hbs, rfl⟩
      · rw [M_isColour_f M O.1 (bad1 y q)]; rfl
      rw [M_isCol1 M O.1 h0 hb0 hbs, Option.bind_some, if_neg (show ¬ (1 : Int32) = 0 by decide)]
      by_cases ne : nI a = nI b
      · exact if_neg (fun z => z ne)
      · exact absurd ⟨⟨h0, a, ha0, has, rfl⟩, ⟨h0, b, hb0, hbs, rfl⟩, ne⟩ good
/-! undo -/
theorem p_undo : pOk (f_C_undo 8) (f_M_undo 51) := by
  intro n1 n2 L xs g i A m B J wd o H
  obtain ⟨⟨h, v, s, col, O, C, M⟩, e8, T, ⟨n, lat, hn, hl, e1, e2, e3, hk⟩, I, S, K⟩ := id H
  unfold f_C_undo e_C_undo f_C_undo_p25 f_M_undo e_M_undo
  rcases Nat.eq_zero_or_pos n with z | z
  · refine ⟨-1, g, i, A, ?_, up m 0 0, B, J, wd, ?_, INV_keep H (keep0 m B 0)⟩
    · unfold f_H_takeBack e_H_takeBack f_H_takeBack_p22
      rw [sf8, rd8_5, Option.bind_some, rd8_1, Option.bind_some, sf24, rd24_2, Option.bind_some, e2, z, if_pos (show nI 0 ≤ (0 : Int32) by decide), Option.bind_some]
      rfl
    · rw [sf51, wr51_0, Option.bind_some, rd51_19, Option.bind_some]
      rw [show up m 0 0 19 = nI 0 from by rw [up_n _ _ (by decide), e3, z]]
      rfl
  · obtain ⟨h2, v2, s2, col2, O2, C2, k1, k2⟩ := hk (n - 1) (by omega)
    have hsl1 : hsl lat n (n - 1) = lat := by unfold hsl; omega
    rw [hsl1] at C2 k1
    have q8 : ¬ nI n ≤ (0 : Int32) := by
      rw [fa_le, nI_toInt (by omega)]
      have : (0 : Int32).toInt = 0 := rfl
      omega
    have r8 : (nI lat + 8 - 1) - (nI lat + 8 - 1) / 8 * 8 = nI ((lat + 7) % 8) := by
      rw [show (8 : Int32) = nI 8 from rfl, nI_add, show (1 : Int32) = nI 1 from rfl, pk_sub (by omega), show lat + 8 - 1 = lat + 7 by omega]
      exact rem8 (by omega)
    have es : nI n - 1 = nI (n - 1) := pk_sub (b := 1) (by omega)
    refine ⟨nI (n - 1), up g 11 (cpG (g (28 + 2 * lat)) (g 11)), up (up i 193 (nI ((lat + 7) % 8))) 194 (nI (n - 1)), A, ?_, up (up m 0 0) 19 (nI (n - 1)), up B 53 (fb_put (B 53) (fun k => B 56 (67 * (n - 1) + k)) 0 67), J, wd, ?_, ?_⟩
    · unfold f_H_takeBack e_H_takeBack f_H_takeBack_p22 f_H_size e_H_size
      rw [sf8, rd8_5, Option.bind_some, rd8_1, Option.bind_some, sf24, rd24_2, Option.bind_some, e2, if_neg q8, rd24_0, Option.bind_some, rd24_1, Option.bind_some, e1, F_fetch25 hl k1, Option.bind_some, if_pos (show ¬ (1 : Int32) = 0 by decide), rd24_1, Option.bind_some, if_neg (show ¬ (8 : Nat) = 0 by decide), e1, r8, wr24_1, Option.bind_some, rd24_2, Option.bind_some, up_n i _ (by decide), e2, es, wr24_2, Option.bind_some, Option.bind_some, if_neg (show ¬ (1 : Int32) = 0 by decide), rd8_5, Option.bind_some, sf24, rd24_2, Option.bind_some]
      rfl
    · have e19 : up m 0 0 19 = nI n := by rw [up_n _ _ (by decide), e3]
      rw [sf51, wr51_0, Option.bind_some, rd51_19, Option.bind_some, e19, if_pos (nI_ne0 z (by omega)), Option.bind_some, es, wr51_19, Option.bind_some, rd51_14, Option.bind_some, rd51_19, Option.bind_some, up_s, rd51_11, Option.bind_some, show (67 : Int32) * nI (n - 1) = nI (67 * (n - 1)) from by rw [show (67 : Int32) = nI 67 from rfl, pk_mul]]
      have ec := M_copy (w := mk n1 n2 L xs (up g 11 (cpG (g (28 + 2 * lat)) (g 11))) (up (up i 193 (nI ((lat + 7) % 8))) 194 (nI (n - 1))) A (up (up m 0 0) 19 (nI (n - 1))) B J wd o) (o1 := 67 * (n - 1)) (o2 := 0) ar56 ar53 (by decide) (by decide) (by omega) (by decide) (by decide) (by decide)
      rw [st53] at ec
      have ec' : f_M_copy 56 (nI (67 * (n - 1))) 53 0 (mk n1 n2 L xs (up g 11 (cpG (g (28 + 2 * lat)) (g 11))) (up (up i 193 (nI ((lat + 7) % 8))) 194 (nI (n - 1))) A (up (up m 0 0) 19 (nI (n - 1))) B J wd o) = _ := ec
      rw [ec', Option.bind_some, rd51_19, Option.bind_some]
      rfl
    · refine ⟨⟨h2, v2, s2, col2, O2, cg_cp C2 _ _, fun j hj => by rw [up_s, fb_put_in (by omega) (by omega), Nat.sub_zero]; exact k2 j hj⟩, e8, TI_same T rfl rfl rfl rfl, ⟨n - 1, (lat + 7) % 8, by omega, Nat.mod_lt _ (by decide), rfl, rfl, rfl, fun k hk' => ?_⟩, II_same I rfl rfl rfl (fun k hk => up_n _ _ (by omega)), SI_same S rfl rfl rfl rfl, KI_same K rfl⟩
      obtain ⟨h3, v3, s3, col3, O3, C3, y1, y2⟩ := hk k (by omega)
      have eh : hsl ((lat + 7) % 8) (n - 1) k = hsl lat n k := by unfold hsl; omega
      have h38 : hsl lat n k < 8 := Nat.mod_lt _ (by decide)
      rw [eh]
      exact ⟨h3, v3, s3, col3, O3, cg_ne C3 _ (by omega), y1, y2⟩
