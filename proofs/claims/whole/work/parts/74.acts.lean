/-! ACTS -/
theorem gokz_upd {h v s : Nat} {col : Nat → Nat} (O : gokz h v s col) {k c : Nat} (hk : k < h * v) (hc : c ≤ s) : gokz h v s (updN col k c) := ⟨updN_ok O.1 k hc, fun j hj => by rw [updN_n col (by omega)]; exact O.2 j hj⟩
/-- the three ways in which a number isn't a colour -/
theorem col_case (x : Int32) {h s : Nat} (hs : s ≤ 4) : (h = 0 ∨ x < 0 ∨ nI s < x) ∨ (0 < h ∧ ∃ c, c ≤ s ∧ x = nI c) := by
  rcases Nat.eq_zero_or_pos h with z | z
  · exact Or.inl (Or.inl z)
  · rcases pk_ix x (n := s + 1) (by omega) with q | q | ⟨c, hc, rfl⟩
    · exact Or.inl (Or.inr (Or.inl q))
    · refine Or.inl (Or.inr (Or.inr ?_))
      rw [fa_lt, nI_toInt (by omega)]
      rw [fa_le, nI_toInt (by omega)] at q
      omega
    · exact Or.inr ⟨z, c, by omega, rfl⟩
theorem p_paint (x y : Int32) : pOk (f_C_paint 8 x y) (f_M_paint 51 x y) := by
  intro n1 n2 L xs g i A m B J wd o H
  obtain ⟨⟨h, v, s, col, O, C, M⟩, -, -, Hh, -⟩ := id H
  have h64 := O.1.hv
  have h8 := O.1.1
  have h4 := O.1.2.2.1
  unfold f_C_paint e_C_paint f_C_paint_p34 f_M_paint e_M_paint f_M_paint_p39 f_M_paint_p70
  rcases cell_case x (n := h * v) (by omega) with q | ⟨k, hk, rfl⟩
  · refine ⟨-1, g, i, A, ?_, up m 0 0, B, J, wd, ?_, INV_keep H (keep0 m B 0)⟩
    · rw [sf8, rd8_1, Option.bind_some, G_hasCell_f C.g11 q]; rfl
    · rw [sf51, wr51_0, Option.bind_some, M_isCell_f M O.1 q]; rfl
  have h0 : 0 < h := by
    rcases Nat.eq_zero_or_pos h with z | z
    · subst z; omega
    · exact z
  have ho := O.1.2.2.2.2.2 k hk
  rcases col_case y (h := h) (s := s) h4 with q | ⟨-, c, hc, rfl⟩
  · have q' : y < 0 ∨ nI s < y := by
      rcases q with q | q
      · omega
      · exact q
    refine ⟨-1, g, i, A, ?_, up m 0 0, B, J, wd, ?_, INV_keep H (keep0 m B 0)⟩
    · rw [sf8, rd8_1, Option.bind_some, G_hasCell_t C.g11 O.1 hk, Option.bind_some, if_neg (show ¬ (1 : Int32) = 0 by decide), rd8_1, Option.bind_some, G_hasCol_f C.g11 q]; rfl
    · rw [sf51, wr51_0, Option.bind_some, M_isCell_t M O.1 hk, Option.bind_some, if_neg (show ¬ (1 : Int32) = 0 by decide), rd51_11, Option.bind_some, (mN.gr M).sh, Option.bind_some, M_isIn_f q']; rfl
  by_cases z : col k = c
  · refine ⟨-1, g, i, A, ?_, up m 0 0, B, J, wd, ?_, INV_keep H (keep0 m B 0)⟩
    · rw [sf8, rd8_1, Option.bind_some, G_hasCell_t C.g11 O.1 hk, Option.bind_some, if_neg (show ¬ (1 : Int32) = 0 by decide), rd8_1, Option.bind_some, G_hasCol_t C.g11 O.1 h0 hc, Option.bind_some, if_neg (show ¬ (1 : Int32) = 0 by decide), rd8_1, Option.bind_some, G_colourOf C.g11 C.2.2.2 O.1 hk, Option.bind_some, z]
      exact if_neg (fun y => y rfl)
    · rw [sf51, wr51_0, Option.bind_some, M_isCell_t M O.1 hk, Option.bind_some, if_neg (show ¬ (1 : Int32) = 0 by decide), rd51_11, Option.bind_some, (mN.gr M).sh, Option.bind_some, M_isIn_t (nI_pos (by omega)) (nI_nlt (by omega) (by omega)), Option.bind_some, if_neg (show ¬ (1 : Int32) = 0 by decide), rd51_11, Option.bind_some, (mN.gr M).cl (by omega), Option.bind_some, z]
      exact if_neg (fun y => y rfl)
  have z' : ¬ nI (col k) = nI c := by rw [nI_eq (by omega) (by omega)]; exact z
  obtain ⟨gk, ik, Ak, eK, a1, a2, a3, m9, f9, eS, a4⟩ := keep_C Hh C O M
  have C1 : cg gk 11 h v s col := cg_of C (a1 11 (by decide))
  obtain ⟨f', e, F⟩ := G_put (C1.g11 (n1 := n1) (n2 := n2) (L := L) (xs := xs) (i := ik) (A := Ak) (m := m) (B := B) (J := J) (wd := wd) (o := o)) C1.2.2.2 O.1 hk hc
  have C2 := cg11 (g := gk) (s := s) F
  have O2 : gokz h v s (updN col k c) := gokz_upd O hk hc
  have M2 : mN (up (up B 56 f9) 53 (upd (B 53) (k + 3) (nI c))) 53 h v s (updN col k c) := fun j hj => by rw [up_s]; exact enc_upd h v s col k c M j hj
  refine ⟨nI (cth h v col k c), up gk 11 (h, v, s, f'), ik, Ak, ?_, up (up m 0 0) 19 m9, up (up B 56 f9) 53 (upd (B 53) (k + 3) (nI c)), J, wd, ?_, INV_act H a1 a2 a3 a4 (fun a h1 _ => up_n _ _ h1) rfl rfl rfl rfl rfl rfl rfl rfl O2 C2 M2⟩
  · rw [sf8, rd8_1, Option.bind_some, G_hasCell_t C.g11 O.1 hk, Option.bind_some, if_neg (show ¬ (1 : Int32) = 0 by decide), rd8_1, Option.bind_some, G_hasCol_t C.g11 O.1 h0 hc, Option.bind_some, if_neg (show ¬ (1 : Int32) = 0 by decide), rd8_1, Option.bind_some, G_colourOf C.g11 C.2.2.2 O.1 hk, Option.bind_some, if_pos z', rd8_5, Option.bind_some, rd8_1, Option.bind_some, eK, Option.bind_some, rd8_1, Option.bind_some, e, Option.bind_some, gp11, rd8_1, Option.bind_some, G_countThrough C2.g11 C2.2.2.2 O2.1 hk (by omega), Option.bind_some, cth_upd hk]
  · rw [sf51, wr51_0, Option.bind_some, M_isCell_t M O.1 hk, Option.bind_some, if_neg (show ¬ (1 : Int32) = 0 by decide), rd51_11, Option.bind_some, (mN.gr M).sh, Option.bind_some, M_isIn_t (nI_pos (by omega)) (nI_nlt (by omega) (by omega)), Option.bind_some, if_neg (show ¬ (1 : Int32) = 0 by decide), rd51_11, Option.bind_some, (mN.gr M).cl (by omega), Option.bind_some, if_pos z', eS _ _ _ _ _ _ _ (up m 0 0) B _ _ _ rfl rfl rfl, Option.bind_some, rd51_11, Option.bind_some, three, w_si ar53 (by omega) (by decide) (by decide), Option.bind_some, st53, up_n B f9 (by decide)]
    by_cases y : c = 0
    · subst y
      rw [if_neg (show ¬ ¬ nI 0 = (0 : Int32) from fun y => y rfl)]
      rfl
    · rw [if_pos (nI_ne0 (by omega) (by omega)), rd51_11, Option.bind_some, M_through1 M2.gr O2.1 hk, Option.bind_some, updN_s, cth_upd hk]
/-! rows and columns changed about -/
def swR (F : Nat → Nat × Nat) : Nat → Nat → (Nat → Nat) → (Nat → Nat)
  | 0, _, col => col
  | d + 1, c, col => swR F d (c + 1) (updN (updN col (F c).1 (col (F c).2)) (F c).2 (col (F c).1))
theorem swR_ok {h v s : Nat} (F : Nat → Nat × Nat) : ∀ d c col, gokz h v s col → (∀ e, c ≤ e → e < c + d → (F e).1 < h * v ∧ (F e).2 < h * v) → gokz h v s (swR F d c col) := by
  intro d
  induction d with
  | zero => intro c col O _; exact O
  | succ d ih =>
    intro c col O hF
    obtain ⟨h1, h2⟩ := hF c (by omega) (by omega)
    exact ih (c + 1) _ (gokz_upd (gokz_upd O h1 (O.1.2.2.2.2.2 _ h2)) h2 (O.1.2.2.2.2.2 _ h1)) (fun e e1 e2 => hF e (by omega) (by omega))
section ACA
variable {n1 n2 L : Nat} {xs : Nat → Int32} {g : Nat → GR} {i : Nat → Int32} {A : Nat → Nat → Int32} {m : Nat → Int32} {B : Nat → Nat → Int32} {J : Nat → Int64} {wd : Int64} {o : Nat → Int64} {h v s : Nat} {col : Nat → Nat}
theorem M_swap {f : Nat → Int32} (hf : ∀ j, j < 67 → f j = enc h v s col j) (O : gok h v s col) {k j : Nat} (hk : k < h * v) (hj : j < h * v) : ∃ f', (∀ x, x < 67 → f' x = enc h v s (updN (updN col k (col j)) j (col k)) x) ∧ f_M_swap 51 (nI k) (nI j) (mk n1 n2 L xs g i A m (up B 53 f) J wd o) = some (mk n1 n2 L xs g i A m (up B 53 f') J wd o, ()) := by
  have h64 := O.hv
  have M : mN (up B 53 f) 53 h v s col := fun x hx => by rw [up_s]; exact hf x hx
  refine ⟨upd (upd f (k + 3) (nI (col j))) (j + 3) (nI (col k)), enc_upd h v s _ j (col k) (enc_upd h v s col k (col j) hf), ?_⟩
  unfold f_M_swap e_M_swap
  rw [sf51, rd51_11, Option.bind_some, (mN.gr M).cl (by omega), Option.bind_some, Option.bind_some, Option.bind_some, (mN.gr M).cl (by omega), Option.bind_some, three, w_si ar53 (by omega) (by decide) (by decide), Option.bind_some, st53, up_s, up_up, rd51_11, Option.bind_some, three, w_si ar53 (by omega) (by decide) (by decide), Option.bind_some, st53, up_s, up_up]
theorem crow_loop {r q : Nat} (hr : r < h) (hq : q < h) : ∀ d n c g col, c + d = v → d < n → gok h v s col → cg g 11 h v s col → ∃ f', fs f' h v (swR (fun c => (r * v + c, q * v + c)) d c col) ∧ f_C_rows_p30 n 8 (nI r) (nI q) (nI c) (mk n1 n2 L xs g i A m B J wd o) = some (mk n1 n2 L xs (up g 11 (h, v, s, f')) i A m B J wd o, 1) := by
  intro d
  induction d with
  | zero =>
    intro n c g col hc hn O C
    obtain ⟨n, rfl⟩ : ∃ m, n = m + 1 := ⟨n - 1, by omega⟩
    have v8 := O.2.1
    refine ⟨(g 11).2.2.2, C.2.2.2, ?_⟩
    rw [f_C_rows_p30, rd8_1, Option.bind_some, G_wide C.g11, Option.bind_some, if_pos (nI_le (by omega) (by omega))]
    obtain ⟨rfl, rfl, rfl, -⟩ := C
    rw [up_id]
  | succ d ih =>
    intro n c g col hc hn O C
    obtain ⟨n, rfl⟩ : ∃ m, n = m + 1 := ⟨n - 1, by omega⟩
    have v8 := O.2.1
    have k1 := row_lt hr (show c < v by omega)
    have k2 := row_lt hq (show c < v by omega)
    obtain ⟨f', e, F⟩ := G_exchange (C.g11 (n1 := n1) (n2 := n2) (L := L) (xs := xs) (i := i) (A := A) (m := m) (B := B) (J := J) (wd := wd) (o := o)) C.2.2.2 O k1 k2
    rw [f_C_rows_p30, rd8_1, Option.bind_some, G_wide C.g11, Option.bind_some, if_neg (nI_ge (by omega) (by omega)), rd8_1, Option.bind_some, Option.bind_some, G_cellAt C.g11, Option.bind_some, rd8_1, Option.bind_some, G_cellAt C.g11, Option.bind_some, e, Option.bind_some, gp11, nI_1]
    obtain ⟨f2, F2, e2⟩ := ih n (c + 1) (up g 11 (h, v, s, f')) _ (by omega) (by omega) (updN_ok (updN_ok O _ (O.2.2.2.2.2 _ k2)) _ (O.2.2.2.2.2 _ k1)) (cg11 F)
    rw [up_up] at e2
    exact ⟨f2, F2, e2⟩
theorem mrow_loop {r q : Nat} (hr : r < h) (hq : q < h) : ∀ d n c f col, c + d = v → d < n → gok h v s col → (∀ j, j < 67 → f j = enc h v s col j) → ∃ f', (∀ j, j < 67 → f' j = enc h v s (swR (fun c => (r * v + c, q * v + c)) d c col) j) ∧ f_M_rows_p46 n 51 (nI r) (nI q) (nI c) (mk n1 n2 L xs g i A m (up B 53 f) J wd o) = some (mk n1 n2 L xs g i A m (up B 53 f') J wd o, 1) := by
  intro d
  induction d with
  | zero =>
    intro n c f col hc hn O hf
    obtain ⟨n, rfl⟩ : ∃ m, n = m + 1 := ⟨n - 1, by omega⟩
    have v8 := O.2.1
    have M : mN (up B 53 f) 53 h v s col := fun x hx => by rw [up_s]; exact hf x hx
    refine ⟨f, hf, ?_⟩
    rw [f_M_rows_p46, M_broad M, Option.bind_some, if_pos (nI_le (by omega) (by omega))]
  | succ d ih =>
    intro n c f col hc hn O hf
    obtain ⟨n, rfl⟩ : ∃ m, n = m + 1 := ⟨n - 1, by omega⟩
    have v8 := O.2.1
    have k1 := row_lt hr (show c < v by omega)
    have k2 := row_lt hq (show c < v by omega)
    have M : mN (up B 53 f) 53 h v s col := fun x hx => by rw [up_s]; exact hf x hx
    obtain ⟨f', F, e⟩ := M_swap (n1 := n1) (n2 := n2) (L := L) (xs := xs) (g := g) (i := i) (A := A) (m := m) (B := B) (J := J) (wd := wd) (o := o) hf O k1 k2
    rw [f_M_rows_p46, M_broad M, Option.bind_some, if_neg (nI_ge (by omega) (by omega)), M_broad M, Option.bind_some, M_broad M, Option.bind_some]
    simp only []
    rw [pk_mul, pk_mul, nI_add, nI_add, Nat.mul_comm v r, Nat.mul_comm v q, e, Option.bind_some, nI_1]
    exact ih n (c + 1) f' _ (by omega) (by omega) (updN_ok (updN_ok O _ (O.2.2.2.2.2 _ k2)) _ (O.2.2.2.2.2 _ k1)) F
theorem ccol_loop {r q : Nat} (hr : r < v) (hq : q < v) : ∀ d n c g col, c + d = h → d < n → gok h v s col → cg g 11 h v s col → ∃ f', fs f' h v (swR (fun c => (c * v + r, c * v + q)) d c col) ∧ f_C_columns_p30 n 8 (nI r) (nI q) (nI c) (mk n1 n2 L xs g i A m B J wd o) = some (mk n1 n2 L xs (up g 11 (h, v, s, f')) i A m B J wd o, 1) := by
  intro d
  induction d with
  | zero =>
    intro n c g col hc hn O C
    obtain ⟨n, rfl⟩ : ∃ m, n = m + 1 := ⟨n - 1, by omega⟩
    have v8 := O.1
    refine ⟨(g 11).2.2.2, C.2.2.2, ?_⟩
    rw [f_C_columns_p30, rd8_1, Option.bind_some, G_high C.g11, Option.bind_some, if_pos (nI_le (by omega) (by omega))]
    obtain ⟨rfl, rfl, rfl, -⟩ := C
    rw [up_id]
  | succ d ih =>
    intro n c g col hc hn O C
    obtain ⟨n, rfl⟩ : ∃ m, n = m + 1 := ⟨n - 1, by omega⟩
    have v8 := O.1
    have k1 := row_lt (show c < h by omega) hr
    have k2 := row_lt (show c < h by omega) hq
    obtain ⟨f', e, F⟩ := G_exchange (C.g11 (n1 := n1) (n2 := n2) (L := L) (xs := xs) (i := i) (A := A) (m := m) (B := B) (J := J) (wd := wd) (o := o)) C.2.2.2 O k1 k2
    rw [f_C_columns_p30, rd8_1, Option.bind_some, G_high C.g11, Option.bind_some, if_neg (nI_ge (by omega) (by omega)), rd8_1, Option.bind_some, Option.bind_some, G_cellAt C.g11, Option.bind_some, rd8_1, Option.bind_some, G_cellAt C.g11, Option.bind_some, e, Option.bind_some, gp11, nI_1]
    obtain ⟨f2, F2, e2⟩ := ih n (c + 1) (up g 11 (h, v, s, f')) _ (by omega) (by omega) (updN_ok (updN_ok O _ (O.2.2.2.2.2 _ k2)) _ (O.2.2.2.2.2 _ k1)) (cg11 F)
    rw [up_up] at e2
    exact ⟨f2, F2, e2⟩
theorem mcol_loop {r q : Nat} (hr : r < v) (hq : q < v) : ∀ d n c f col, c + d = h → d < n → gok h v s col → (∀ j, j < 67 → f j = enc h v s col j) → ∃ f', (∀ j, j < 67 → f' j = enc h v s (swR (fun c => (c * v + r, c * v + q)) d c col) j) ∧ f_M_columns_p46 n 51 (nI r) (nI q) (nI c) (mk n1 n2 L xs g i A m (up B 53 f) J wd o) = some (mk n1 n2 L xs g i A m (up B 53 f') J wd o, 1) := by
  intro d
  induction d with
  | zero =>
    intro n c f col hc hn O hf
    obtain ⟨n, rfl⟩ : ∃ m, n = m + 1 := ⟨n - 1, by omega⟩
    have v8 := O.1
    have M : mN (up B 53 f) 53 h v s col := fun x hx => by rw [up_s]; exact hf x hx
    refine ⟨f, hf, ?_⟩
    rw [f_M_columns_p46, M_high M, Option.bind_some, if_pos (nI_le (by omega) (by omega))]
  | succ d ih =>
    intro n c f col hc hn O hf
    obtain ⟨n, rfl⟩ : ∃ m, n = m + 1 := ⟨n - 1, by omega⟩
    have v8 := O.1
    have k1 := row_lt (show c < h by omega) hr
    have k2 := row_lt (show c < h by omega) hq
    have M : mN (up B 53 f) 53 h v s col := fun x hx => by rw [up_s]; exact hf x hx
    obtain ⟨f', F, e⟩ := M_swap (n1 := n1) (n2 := n2) (L := L) (xs := xs) (g := g) (i := i) (A := A) (m := m) (B := B) (J := J) (wd := wd) (o := o) hf O k1 k2
    rw [f_M_columns_p46, M_high M, Option.bind_some, if_neg (nI_ge (by omega) (by omega)), M_broad M, Option.bind_some, M_broad M, Option.bind_some]
    simp only []
    rw [pk_mul, nI_add, nI_add, Nat.mul_comm v c, e, Option.bind_some, nI_1]
    exact ih n (c + 1) f' _ (by omega) (by omega) (updN_ok (updN_ok O _ (O.2.2.2.2.2 _ k2)) _ (O.2.2.2.2.2 _ k1)) F
theorem C_isPair_f {x y : Int32} {n : Nat} (q : (x < 0 ∨ nI n ≤ x) ∨ (y < 0 ∨ nI n ≤ y) ∨ x = y) (w : am_W) : f_C_isPairBelow x y (nI n) w = some (w, 0) := by
  unfold f_C_isPairBelow e_C_isPairBelow f_C_isPairBelow_p27 f_C_isPairBelow_p28
  have e : am_rb w 0 = some (w, 0) := rfl
  rw [e]
  split
  · rfl
  · split
    · rfl
    · split
      · rfl
      · split
        · rfl
        · split
          · rfl
          · next a b c d f => rcases q with (q | q) | (q | q) | q <;> contradiction
theorem C_isPair_t {x y n : Nat} (hx : x < n) (hy : y < n) (hn : n < 2 ^ 31) (ne : x ≠ y) (w : am_W) : f_C_isPairBelow (nI x) (nI y) (nI n) w = some (w, 1) := by
  unfold f_C_isPairBelow e_C_isPairBelow f_C_isPairBelow_p27 f_C_isPairBelow_p28
  rw [if_neg (nI_pos (by omega)), if_neg (nI_ge hx hn), if_neg (nI_pos (by omega)), if_neg (nI_ge hy hn), if_neg (by rw [nI_eq (by omega) (by omega)]; exact ne)]
  rfl
end ACA
theorem pair_case (x y : Int32) {n : Nat} (hn : n < 2 ^ 31) : ((x < 0 ∨ nI n ≤ x) ∨ (y < 0 ∨ nI n ≤ y) ∨ x = y) ∨ ∃ r q, r < n ∧ q < n ∧ r ≠ q ∧ x = nI r ∧ y = nI q := by
  rcases cell_case x hn with a | ⟨r, hr, rfl⟩
  · exact Or.inl (Or.inl a)
  rcases cell_case y hn with a | ⟨q, hq, rfl⟩
  · exact Or.inl (Or.inr (Or.inl a))
  by_cases z : r = q
  · exact Or.inl (Or.inr (Or.inr (by rw [z])))
  · exact Or.inr ⟨r, q, hr, hq, z, rfl, rfl⟩
theorem M_isIn_cell {x : Int32} {n : Nat} (hn : n < 2 ^ 31) (q : x < 0 ∨ nI n ≤ x) (w : am_W) : f_M_isIn x 0 (nI n - 1) w = some (w, 0) := M_isIn_f (by
  rcases q with q | q
  · exact Or.inl q
  · exact Or.inr (nI_m1lt hn q)) w
theorem M_isIn_cell_t {k n : Nat} (hn : n < 2 ^ 31) (hk : k < n) (w : am_W) : f_M_isIn (nI k) 0 (nI n - 1) w = some (w, 1) := M_isIn_t (nI_pos (by omega)) (nI_m1nlt hk hn) w
theorem p_rows (x y : Int32) : pOk (f_C_rows 8 x y) (f_M_rows 51 x y) := by
  intro n1 n2 L xs g i A m B J wd o H
  obtain ⟨⟨h, v, s, col, O, C, M⟩, -, -, Hh, -⟩ := id H
  have h8 := O.1.1
  have v8 := O.1.2.1
  unfold f_C_rows e_C_rows f_M_rows e_M_rows f_M_rows_p38
  rcases pair_case x y (n := h) (by omega) with q | ⟨r, q, hr, hq, ne, rfl, rfl⟩
  · refine ⟨0, g, i, A, ?_, up m 0 0, B, J, wd, ?_, INV_keep H (keep0 m B 0)⟩
    · rw [sf8, rd8_1, Option.bind_some, G_high C.g11, Option.bind_some, C_isPair_f q, Option.bind_some]; rfl
    · rw [sf51, wr51_0, Option.bind_some, M_high M, Option.bind_some]
      rcases cell_case x (n := h) (by omega) with a | ⟨r, hr, rfl⟩
      · rw [M_isIn_cell (by omega) a]; rfl
      rw [M_isIn_cell_t (by omega) hr, Option.bind_some, if_neg (show ¬ (1 : Int32) = 0 by decide), M_high M, Option.bind_some]
      rcases cell_case y (n := h) (by omega) with a | ⟨q', hq', rfl⟩
      · rw [M_isIn_cell (by omega) a]; rfl
      rw [M_isIn_cell_t (by omega) hq', Option.bind_some, if_neg (show ¬ (1 : Int32) = 0 by decide)]
      rcases q with (q | q) | (q | q) | q
      · exact absurd q (nI_pos (by omega))
      · exact absurd q (nI_ge hr (by omega))
      · exact absurd q (nI_pos (by omega))
      · exact absurd q (nI_ge hq' (by omega))
      · exact if_neg (fun y => y q)
  · obtain ⟨gk, ik, Ak, eK, a1, a2, a3, m9, f9, eS, a4⟩ := keep_C Hh C O M
    have C1 : cg gk 11 h v s col := cg_of C (a1 11 (by decide))
    obtain ⟨f', F, e⟩ := crow_loop (n1 := n1) (n2 := n2) (L := L) (xs := xs) (i := ik) (A := Ak) (m := m) (B := B) (J := J) (wd := wd) (o := o) hr hq v am_N 0 gk col (by omega) (by unfold am_N; omega) O.1 C1
    obtain ⟨f2, F2, e2⟩ := mrow_loop (n1 := n1) (n2 := n2) (L := L) (xs := xs) (g := up gk 11 (h, v, s, f')) (i := ik) (A := Ak) (m := up (up m 0 0) 19 m9) (B := up B 56 f9) (J := J) (wd := wd) (o := o) hr hq v am_N 0 (B 53) col (by omega) (by unfold am_N; omega) O.1 M
    have eu : up (up B 56 f9) 53 (B 53) = up B 56 f9 := up_id (up B 56 f9) 53
    rw [eu] at e2
    have O2 := swR_ok (fun c => (r * v + c, q * v + c)) v 0 col O (fun c _ hc => ⟨row_lt hr (by omega), row_lt hq (by omega)⟩)
    refine ⟨1, up gk 11 (h, v, s, f'), ik, Ak, ?_, up (up m 0 0) 19 m9, up (up B 56 f9) 53 f2, J, wd, ?_, INV_act H a1 a2 a3 a4 (fun a h1 _ => up_n _ _ h1) rfl rfl rfl rfl rfl rfl rfl rfl O2 (cg11 F) (fun j hj => by rw [up_s]; exact F2 j hj)⟩
    · rw [sf8, rd8_1, Option.bind_some, G_high C.g11, Option.bind_some, C_isPair_t hr hq (by omega) ne, Option.bind_some, if_pos (show ¬ (1 : Int32) = 0 by decide), rd8_5, Option.bind_some, rd8_1, Option.bind_some, eK, Option.bind_some]
      exact e
    · rw [sf51, wr51_0, Option.bind_some, M_high M, Option.bind_some, M_isIn_cell_t (by omega) hr, Option.bind_some, if_neg (show ¬ (1 : Int32) = 0 by decide), M_high M, Option.bind_some, M_isIn_cell_t (by omega) hq, Option.bind_some, if_neg (show ¬ (1 : Int32) = 0 by decide), if_pos (by rw [nI_eq (by omega) (by omega)]; exact ne), eS _ _ _ _ _ _ _ (up m 0 0) B _ _ _ rfl rfl rfl, Option.bind_some]
      exact e2
theorem p_columns (x y : Int32) : pOk (f_C_columns 8 x y) (f_M_columns 51 x y) := by
  intro n1 n2 L xs g i A m B J wd o H
  obtain ⟨⟨h, v, s, col, O, C, M⟩, -, -, Hh, -⟩ := id H
  have h8 := O.1.1
  have v8 := O.1.2.1
  unfold f_C_columns e_C_columns f_M_columns e_M_columns f_M_columns_p38
  rcases pair_case x y (n := v) (by omega) with q | ⟨r, q, hr, hq, ne, rfl, rfl⟩
  · refine ⟨0, g, i, A, ?_, up m 0 0, B, J, wd, ?_, INV_keep H (keep0 m B 0)⟩
    · rw [sf8, rd8_1, Option.bind_some, G_wide C.g11, Option.bind_some, C_isPair_f q, Option.bind_some]; rfl
    · rw [sf51, wr51_0, Option.bind_some, M_broad M, Option.bind_some]
      rcases cell_case x (n := v) (by omega) with a | ⟨r, hr, rfl⟩
      · rw [M_isIn_cell (by omega) a]; rfl
      rw [M_isIn_cell_t (by omega) hr, Option.bind_some, if_neg (show ¬ (1 : Int32) = 0 by decide), M_broad M, Option.bind_some]
      rcases cell_case y (n := v) (by omega) with a | ⟨q', hq', rfl⟩
      · rw [M_isIn_cell (by omega) a]; rfl
      rw [M_isIn_cell_t (by omega) hq', Option.bind_some, if_neg (show ¬ (1 : Int32) = 0 by decide)]
      rcases q with (q | q) | (q | q) | q
      · exact absurd q (nI_pos (by omega))
      · exact absurd q (nI_ge hr (by omega))
      · exact absurd q (nI_pos (by omega))
      · exact absurd q (nI_ge hq' (by omega))
      · exact if_neg (fun y => y q)
  · obtain ⟨gk, ik, Ak, eK, a1, a2, a3, m9, f9, eS, a4⟩ := keep_C Hh C O M
    have C1 : cg gk 11 h v s col := cg_of C (a1 11 (by decide))
    obtain ⟨f', F, e⟩ := ccol_loop (n1 := n1) (n2 := n2) (L := L) (xs := xs) (i := ik) (A := Ak) (m := m) (B := B) (J := J) (wd := wd) (o := o) hr hq h am_N 0 gk col (by omega) (by unfold am_N; omega) O.1 C1
    obtain ⟨f2, F2, e2⟩ := mcol_loop (n1 := n1) (n2 := n2) (L := L) (xs := xs) (g := up gk 11 (h, v, s, f')) (i := ik) (A := Ak) (m := up (up m 0 0) 19 m9) (B := up B 56 f9) (J := J) (wd := wd) (o := o) hr hq h am_N 0 (B 53) col (by omega) (by unfold am_N; omega) O.1 M
    have eu : up (up B 56 f9) 53 (B 53) = up B 56 f9 := up_id (up B 56 f9) 53
    rw [eu] at e2
    have O2 := swR_ok (fun c => (c * v + r, c * v + q)) h 0 col O (fun c _ hc => ⟨row_lt (by omega) hr, row_lt (by omega) hq⟩)
    refine ⟨1, up gk 11 (h, v, s, f'), ik, Ak, ?_, up (up m 0 0) 19 m9, up (up B 56 f9) 53 f2, J, wd, ?_, INV_act H a1 a2 a3 a4 (fun a h1 _ => up_n _ _ h1) rfl rfl rfl rfl rfl rfl rfl rfl O2 (cg11 F) (fun j hj => by rw [up_s]; exact F2 j hj)⟩
    · rw [sf8, rd8_1, Option.bind_some, G_wide C.g11, Option.bind_some, C_isPair_t hr hq (by omega) ne, Option.bind_some, if_pos (show ¬ (1 : Int32) = 0 by decide), rd8_5, Option.bind_some, rd8_1, Option.bind_some, eK, Option.bind_some]
      exact e
    · rw [sf51, wr51_0, Option.bind_some, M_broad M, Option.bind_some, M_isIn_cell_t (by omega) hr, Option.bind_some, if_neg (show ¬ (1 : Int32) = 0 by decide), M_broad M, Option.bind_some, M_isIn_cell_t (by omega) hq, Option.bind_some, if_neg (show ¬ (1 : Int32) = 0 by decide), if_pos (by rw [nI_eq (by omega) (by omega)]; exact ne), eS _ _ _ _ _ _ _ (up m 0 0) B _ _ _ rfl rfl rfl, Option.bind_some]
      exact e2
