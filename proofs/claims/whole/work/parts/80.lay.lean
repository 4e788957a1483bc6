/-! GRIDS COLOURED BY DIFFERENCES -/
def lyc (n : Nat) (b : Nat → Nat) : Nat → Nat := fun j => if j < n * n then b (dff n (j % n) (j / n)) else 0
theorem lyc_at {n : Nat} (b : Nat → Nat) {r c : Nat} (hr : r < n) (hc : c < n) : lyc n b (r * n + c) = b (dff n c r) := by
  obtain ⟨e1, e2⟩ := (cell_eq (v := n) (k := r * n + c) (r := r) (c := c) hc).mp rfl
  unfold lyc
  rw [if_pos (row_lt hr hc), e1, e2]
theorem mixN_ok {n s : Nat} {b col : Nat → Nat} (O : gok n n s col) (n0 : 0 < n) (hb : ∀ k, k < n → b k ≤ s) (k : Nat) : gok n n s (mixN (lyc n b) col k) := by
  refine ⟨O.1, O.2.1, O.2.2.1, O.2.2.2.1, O.2.2.2.2.1, fun j hj => ?_⟩
  unfold mixN
  split
  · unfold lyc
    rw [if_pos hj]
    exact hb _ (dff_lt n0)
  · exact O.2.2.2.2.2 j hj
section LYA
variable {n1 n2 L : Nat} {xs : Nat → Int32} {g : Nat → GR} {i : Nat → Int32} {A : Nat → Nat → Int32} {m : Nat → Int32} {B : Nat → Nat → Int32} {J : Nat → Int64} {wd : Int64} {o : Nat → Int64} {n s : Nat} {b col : Nat → Nat}
theorem cly_in (O : gok n n s col) (hi : i 73 = nI n) (T : tpp n b (A 10) (B 52)) (hb : ∀ k, k < n → 1 ≤ b k ∧ b k ≤ s) {r : Nat} (hr : r < n) (k10 : Nat → Int32 → Int32 → am_W → Option (am_W × Unit)) : ∀ d N c g, c + d = n → d < N → cg g 11 n n s (mixN (lyc n b) col (r * n + c)) → ∃ f', fs f' n n (mixN (lyc n b) col ((r + 1) * n)) ∧ f_C_layTape_p17 k10 N 8 (nI n) (nI r) (nI c) (mk n1 n2 L xs g i A m B J wd o) = k10 8 (nI n) (nI (r + 1)) (mk n1 n2 L xs (up g 11 (n, n, s, f')) i A m B J wd o) := by
  have n8 := O.1
  have h4 := O.2.2.1
  intro d
  induction d with
  | zero =>
    intro N c g hc hN C
    obtain ⟨N, rfl⟩ : ∃ m, N = m + 1 := ⟨N - 1, by omega⟩
    have ec : c = n := by omega
    subst ec
    refine ⟨(g 11).2.2.2, by rw [Nat.succ_mul]; exact C.2.2.2, ?_⟩
    rw [f_C_layTape_p17, if_pos (nI_le (by omega) (by omega)), nI_1]
    obtain ⟨e1, e2, e3, -⟩ := C
    have : up g 11 (c, c, s, (g 11).2.2.2) = g := by
      have e : (c, c, s, (g 11).2.2.2) = g 11 := by
        have : g 11 = ((g 11).1, (g 11).2.1, (g 11).2.2.1, (g 11).2.2.2) := rfl
        rw [this, e1, e2, e3]
      rw [e, up_id]
    rw [this]
  | succ d ih =>
    intro N c g hc hN C
    obtain ⟨N, rfl⟩ : ∃ m, N = m + 1 := ⟨N - 1, by omega⟩
    have hcn : c < n := by omega
    have hd := dff_lt (n := n) (a := c) (b := r) (by omega)
    have O1 := mixN_ok O (by omega) (fun k hk => (hb k hk).2) (b := b) (r * n + c)
    have hk := row_lt hr hcn
    obtain ⟨f', e, F⟩ := G_put (C.g11 (n1 := n1) (n2 := n2) (L := L) (xs := xs) (i := i) (A := A) (m := m) (B := B) (J := J) (wd := wd) (o := o)) C.2.2.2 O1 hk (hb _ hd).2
    rw [← lyc_at b hr hcn, mixN_s] at F
    have e38 : ∀ x, x = nI (dff n c r) → f_C_layTape_p38 k10 (f_C_layTape_p17 k10 N) 8 (nI n) (nI r) (nI c) x (mk n1 n2 L xs g i A m B J wd o) = f_C_layTape_p17 k10 N 8 (nI n) (nI r) (nI (c + 1)) (mk n1 n2 L xs (up g 11 (n, n, s, f')) i A m B J wd o) := by
      intro x hx
      unfold f_C_layTape_p38
      rw [hx, rd8_1, Option.bind_some, Option.bind_some, G_cellAt C.g11, Option.bind_some, rd8_0, Option.bind_some, T_byteAt (by omega) hi hd, Option.bind_some, (T _ hd).2.1, e, Option.bind_some, gp11, nI_1]
    rw [f_C_layTape_p17, if_neg (nI_ge hcn (by omega))]
    obtain ⟨f2, F2, e2⟩ := ih N (c + 1) (up g 11 (n, n, s, f')) (by omega) (by omega) (cg11 F)
    rw [up_up] at e2
    refine ⟨f2, F2, ?_⟩
    by_cases z : c < r
    · rw [if_pos (nI_lt z (by omega)), e38 _ (dff_c1 z hr)]
      exact e2
    · rw [if_neg (nI_nlt (by omega) (by omega)), e38 _ (dff_c2 (by omega) hcn)]
      exact e2
theorem cly_out (O : gok n n s col) (hi : i 73 = nI n) (T : tpp n b (A 10) (B 52)) (hb : ∀ k, k < n → 1 ≤ b k ∧ b k ≤ s) : ∀ d N r g, r + d = n → d < N → cg g 11 n n s (mixN (lyc n b) col (r * n)) → ∃ f', fs f' n n (mixN (lyc n b) col (n * n)) ∧ f_C_layTape_p10 N 8 (nI n) (nI r) (mk n1 n2 L xs g i A m B J wd o) = some (mk n1 n2 L xs (up g 11 (n, n, s, f')) i A m B J wd o, ()) := by
  have n8 := O.1
  intro d
  induction d with
  | zero =>
    intro N r g hc hN C
    obtain ⟨N, rfl⟩ : ∃ m, N = m + 1 := ⟨N - 1, by omega⟩
    have ec : r = n := by omega
    subst ec
    refine ⟨(g 11).2.2.2, C.2.2.2, ?_⟩
    rw [f_C_layTape_p10, if_pos (nI_le (by omega) (by omega))]
    obtain ⟨e1, e2, e3, -⟩ := C
    have : up g 11 (r, r, s, (g 11).2.2.2) = g := by
      have e : (r, r, s, (g 11).2.2.2) = g 11 := by
        have : g 11 = ((g 11).1, (g 11).2.1, (g 11).2.2.1, (g 11).2.2.2) := rfl
        rw [this, e1, e2, e3]
      rw [e, up_id]
    rw [this]
  | succ d ih =>
    intro N r g hc hN C
    obtain ⟨N, rfl⟩ : ∃ m, N = m + 1 := ⟨N - 1, by omega⟩
    obtain ⟨f', F, e⟩ := cly_in (n1 := n1) (n2 := n2) (L := L) (xs := xs) (m := m) (J := J) (wd := wd) (o := o) O hi T hb (r := r) (by omega) (f_C_layTape_p10 N) n am_N 0 g (by omega) (by unfold am_N; omega) C
    obtain ⟨f2, F2, e2⟩ := ih N (r + 1) (up g 11 (n, n, s, f')) (by omega) (by omega) (cg11 F)
    rw [up_up] at e2
    refine ⟨f2, F2, ?_⟩
    rw [f_C_layTape_p10, if_neg (nI_ge (by omega) (by omega)), ← e2, ← e]
    rfl
theorem mly_in (O : gok n n s col) (T : tpp n b (A 10) (B 52)) {r : Nat} (hr : r < n) (k83 : Nat → Int32 → Int32 → am_W → Option (am_W × Int32)) : ∀ d N c f, c + d = n → d < N → (∀ j, j < 67 → f j = enc n n s (mixN (lyc n b) col (r * n + c)) j) → ∃ f', (∀ j, j < 67 → f' j = enc n n s (mixN (lyc n b) col ((r + 1) * n)) j) ∧ f_M_lay_1_p90 k83 N 51 (nI n) (nI r) (nI c) (mk n1 n2 L xs g i A m (up B 53 f) J wd o) = k83 51 (nI n) (nI (r + 1)) (mk n1 n2 L xs g i A m (up B 53 f') J wd o) := by
  have n8 := O.1
  have h64 := O.hv
  intro d
  induction d with
  | zero =>
    intro N c f hc hN hf
    obtain ⟨N, rfl⟩ : ∃ m, N = m + 1 := ⟨N - 1, by omega⟩
    have ec : c = n := by omega
    subst ec
    refine ⟨f, by rw [Nat.succ_mul]; exact hf, ?_⟩
    rw [f_M_lay_1_p90, if_pos (nI_le (by omega) (by omega)), nI_1]
  | succ d ih =>
    intro N c f hc hN hf
    obtain ⟨N, rfl⟩ : ∃ m, N = m + 1 := ⟨N - 1, by omega⟩
    have hcn : c < n := by omega
    have hd := dff_lt (n := n) (a := c) (b := r) (by omega)
    have hk := row_lt hr hcn
    have e52 : am_ai (mk n1 n2 L xs g i A m (up B 53 f) J wd o) 52 (nI (dff n c r)) = some (nI (b (dff n c r))) := by
      rw [r_ai ar52 (by omega) (by decide)]
      exact congrArg some (T _ hd).2.2
    have ei : (3 : Int32) + nI n * nI r + nI c = nI (r * n + c + 3) := by rw [pk_mul, Int32.add_assoc, nI_add, three, Nat.mul_comm n r]
    have hf2 := enc_upd n n s _ (r * n + c) (lyc n b (r * n + c)) hf
    rw [mixN_s, lyc_at b hr hcn] at hf2
    rw [f_M_lay_1_p90, if_neg (nI_ge hcn (by omega)), rd51_11, Option.bind_some, rd51_1, Option.bind_some, if_neg (nI_ne0 (by omega) (by omega)), dff_m (by omega) hcn hr (by omega), e52, Option.bind_some, ei, w_si ar53 (by omega) (by decide) (by decide), Option.bind_some, st53, up_s, up_up, nI_1]
    exact ih N (c + 1) _ (by omega) (by omega) hf2
theorem mly_out (O : gok n n s col) (n0 : 0 < n) (T : tpp n b (A 10) (B 52)) (hb : ∀ k, k < n → 1 ≤ b k ∧ b k ≤ s) : ∀ d N r f, r + d = n → d < N → (∀ j, j < 67 → f j = enc n n s (mixN (lyc n b) col (r * n)) j) → ∃ f' S' J', (∀ j, j < 67 → f' j = enc n n s (mixN (lyc n b) col (n * n)) j) ∧ f_M_lay_1_p83 N 51 (nI n) (nI r) (mk n1 n2 L xs g i A m (up B 53 f) J wd o) = some (mk n1 n2 L xs g i A (up m 23 (nI (rcs n n (mixN (lyc n b) col (n * n)) 0).length)) (up (up B 53 f') 61 S') J' wd o, nI (rcs n n (mixN (lyc n b) col (n * n)) 0).length) := by
  have n8 := O.1
  intro d
  induction d with
  | zero =>
    intro N r f hc hN hf
    obtain ⟨N, rfl⟩ : ∃ m, N = m + 1 := ⟨N - 1, by omega⟩
    have ec : r = n := by omega
    subst ec
    have M : mN (up B 53 f) 53 r r s _ := fun x hx => by rw [up_s]; exact hf x hx
    obtain ⟨S', J', l, e⟩ := M_laysFours (n1 := n1) (n2 := n2) (L := L) (xs := xs) (g := g) (i := i) (A := A) (m := m) (J := J) (wd := wd) (o := o) M (mixN_ok O n0 (fun k hk => (hb k hk).2) (b := b) (r * r)) (x := 0) (by decide)
    refine ⟨f, S', J', hf, ?_⟩
    have e' : f_M_laysFours 51 0 (mk n1 n2 L xs g i A m (up B 53 f) J wd o) = _ := e
    rw [f_M_lay_1_p83, if_pos (nI_le (by omega) (by omega)), e', Option.bind_some, rd51_23, Option.bind_some, up_s]
  | succ d ih =>
    intro N r f hc hN hf
    obtain ⟨N, rfl⟩ : ∃ m, N = m + 1 := ⟨N - 1, by omega⟩
    obtain ⟨f', F, e⟩ := mly_in (n1 := n1) (n2 := n2) (L := L) (xs := xs) (g := g) (i := i) (m := m) (J := J) (wd := wd) (o := o) O T (r := r) (by omega) (f_M_lay_1_p83 N) n am_N 0 f (by omega) (by unfold am_N; omega) hf
    obtain ⟨f2, S2, J2, F2, e2⟩ := ih N (r + 1) f' (by omega) (by omega) F
    refine ⟨f2, S2, J2, F2, ?_⟩
    rw [f_M_lay_1_p83, if_neg (nI_ge (by omega) (by omega)), ← e2, ← e]
    rfl
theorem mly_chk (M : mN B 53 n n s col) (h4 : s ≤ 4) (n8 : n ≤ 8) (T : tpp n b (A 10) (B 52)) : ∀ d N j, j + d = n → d < N → ((∀ k, j ≤ k → k < n → 1 ≤ b k ∧ b k ≤ s) → f_M_lay_1_p45 N 51 (nI n) (nI j) (mk n1 n2 L xs g i A m B J wd o) = ((f_M_snap 51 (mk n1 n2 L xs g i A m B J wd o)).bind fun r17 => (f_M_lay_1_p83 am_N 51 (nI n) 0 r17.1))) ∧ ((∃ k, j ≤ k ∧ k < n ∧ ¬ (1 ≤ b k ∧ b k ≤ s)) → f_M_lay_1_p45 N 51 (nI n) (nI j) (mk n1 n2 L xs g i A m B J wd o) = some (mk n1 n2 L xs g i A m B J wd o, -1)) := by
  intro d
  induction d with
  | zero =>
    intro N j hj hN
    obtain ⟨N, rfl⟩ : ∃ m, N = m + 1 := ⟨N - 1, by omega⟩
    refine ⟨fun _ => ?_, fun ⟨k, k1, k2, _⟩ => by omega⟩
    rw [f_M_lay_1_p45, if_pos (nI_le (by omega) (by omega))]
  | succ d ih =>
    intro N j hj hN
    obtain ⟨N, rfl⟩ : ∃ m, N = m + 1 := ⟨N - 1, by omega⟩
    obtain ⟨b1, -, b2⟩ := T j (by omega)
    obtain ⟨i1, i2⟩ := ih N (j + 1) (by omega) (by omega)
    rw [f_M_lay_1_p45, if_neg (nI_ge (by omega) (by omega)), rd51_1, Option.bind_some, r_ai ar52 (by omega) (by decide), Option.bind_some, b2, rd51_11, Option.bind_some, (mN.gr M).sh, Option.bind_some]
    by_cases z : 1 ≤ b j ∧ b j ≤ s
    · rw [M_isIn_t (show ¬ nI (b j) < (1 : Int32) from nI_nlt (b := 1) (by omega) (by omega)) (nI_nlt (by omega) (by omega)), Option.bind_some, if_pos (show ¬ (1 : Int32) = 0 by decide), nI_1]
      refine ⟨fun hall => i1 (fun k k1 k2 => hall k (by omega) k2), fun ⟨k, k1, k2, k3⟩ => i2 ⟨k, ?_, k2, k3⟩⟩
      by_cases y : k = j
      · subst y; exact absurd z k3
      · omega
    · have q : nI (b j) < (1 : Int32) ∨ nI s < nI (b j) := by
        rcases (show b j < 1 ∨ s < b j by omega) with q | q
        · exact Or.inl (nI_lt (b := 1) q (by decide))
        · exact Or.inr (nI_lt q (by omega))
      rw [M_isIn_f q]
      exact ⟨fun hall => absurd (hall j (by omega) (by omega)) z, fun _ => rfl⟩
end LYA
theorem p_lay : pOk (f_C_lay 8) (f_M_lay_1 51) := by
  intro n1 n2 L xs g i A m B J wd o H
  obtain ⟨⟨h, v, s, col, O, C, M⟩, -, ⟨t, b, ht, t1, t2, T⟩, Hh, -⟩ := id H
  have T0 : tpp t b (A 10) (B 52) := T
  have h8 := O.1.1
  have v8 := O.1.2.1
  have h4 := O.1.2.2.1
  have HI' : INV g (up i 73 0) A (up (up m 0 0) 2 0) B := INV_tape H (TI_of (t := 0) (b := b) (by omega) (up_s _ _ _) (up_s _ _ _) (fun j hj => by omega)) (fun a h => up_n _ _ h) (fun a h => rfl) (fun a h1 h2 => by rw [up_n _ _ h2, up_n _ _ h1]) (fun a h => rfl)
  have e2 : up m 0 0 2 = nI t := by rw [up_n _ _ (by decide), t2]
  have cbad : f_C_lay_p67 8 0 (mk n1 n2 L xs g i A m B J wd o) = some (mk n1 n2 L xs g (up i 73 0) A m B J wd o, -1) := by
    unfold f_C_lay_p67 f_C_lay_p87
    rw [if_pos rfl, rd8_0, Option.bind_some, T_cut0 ht t1, Option.bind_some, if_pos rfl]
    rfl
  unfold f_C_lay e_C_lay f_C_lay_p66 f_M_lay_1 e_M_lay_1 f_M_lay_1_p41
  rcases Nat.eq_zero_or_pos h with z0 | h0
  · refine ⟨-1, g, up i 73 0, A, ?_, up (up m 0 0) 2 0, B, J, wd, ?_, HI'⟩
    · rw [sf8, rd8_1, Option.bind_some, G_exists C.g11 h8, Option.bind_some, if_neg (show ¬ 0 < h by omega), if_pos rfl]
      exact cbad
    · rw [sf51, wr51_0, Option.bind_some, rd51_2, Option.bind_some, e2, wr51_2, Option.bind_some, M_high M, Option.bind_some, if_pos (by rw [z0]; rfl)]
  by_cases z1 : h = v
  · subst z1
    by_cases z2 : t = h
    · subst z2
      rcases T_holdsOnly (n1 := n1) (n2 := n2) (L := L) (xs := xs) (g := g) (m := m) (B := B) (J := J) (wd := wd) (o := o) (lo := 1) (hi' := s) ht t1 T0 (by decide) (by omega) with ⟨a, e⟩ | ⟨⟨k, k1, k2⟩, e⟩
      · have e' : f_T_holdsOnly 9 1 (nI s) (mk n1 n2 L xs g i A m B J wd o) = _ := e
        obtain ⟨gk, ik, Ak, eK, a1, a2, a3, m9, f9, eS, a4⟩ := keep_C Hh C O M
        have C1 : cg gk 11 t t s col := cg_of C (a1 11 (by decide))
        have tk : ik 73 = nI t := by rw [a2 73 (by decide) (by decide), t1]
        have TK : tpp t b (Ak 10) (B 52) := by rw [a3 10 (by decide)]; exact T0
        have mz : mixN (lyc t b) col 0 = col := by funext j; unfold mixN; rw [if_neg (by omega)]
        have mf : mixN (lyc t b) col (t * t) = lyc t b := by
          funext j
          unfold mixN lyc
          split
          · rfl
          · next q => rw [O.2 j (by omega)]
        obtain ⟨f', F, e3⟩ := cly_out (n1 := n1) (n2 := n2) (L := L) (xs := xs) (m := m) (J := J) (wd := wd) (o := o) O.1 tk TK a t am_N 0 gk (by omega) (by unfold am_N; omega) (by rw [Nat.zero_mul, mz]; exact C1)
        rw [mf] at F
        have O2 : gokz t t s (lyc t b) := ⟨by rw [← mf]; exact mixN_ok O.1 h0 (fun k hk => (a k hk).2) _, fun j hj => by unfold lyc; rw [if_neg (by omega)]⟩
        obtain ⟨f2, S', J', F2, e4⟩ := mly_out (n1 := n1) (n2 := n2) (L := L) (xs := xs) (g := up gk 11 (t, t, s, f')) (i := up ik 73 0) (m := up (up (up m 0 0) 2 0) 19 m9) (B := up B 56 f9) (J := J) (wd := wd) (o := o) O.1 h0 TK a t am_N 0 (B 53) (by omega) (by unfold am_N; omega) (by rw [Nat.zero_mul, mz]; exact M)
        have eu : up (up B 56 f9) 53 (B 53) = up B 56 f9 := up_id (up B 56 f9) 53
        rw [eu, mf] at e4
        rw [mf] at F2
        have C2 := cg11 (g := gk) (s := s) F
        have H2 : INV (up gk 11 (t, t, s, f')) ik Ak (up (up (up m 0 0) 19 m9) 23 (nI (rcs t t (lyc t b) 0).length)) (up (up (up B 56 f9) 53 f2) 61 S') := INV_act H a1 a2 a3 a4 (fun a h1 _ => up_n _ _ h1) rfl rfl rfl rfl rfl rfl rfl rfl O2 C2 (fun j hj => by rw [up_n _ _ (by decide), up_s]; exact F2 j hj)
        refine ⟨nI (rcs t t (lyc t b) 0).length, up gk 11 (t, t, s, f'), up ik 73 0, Ak, ?_, up (up (up (up m 0 0) 2 0) 19 m9) 23 (nI (rcs t t (lyc t b) 0).length), up (up (up B 56 f9) 53 f2) 61 S', J', wd, ?_, INV_tape H2 (TI_of (t := 0) (b := b) (by omega) (up_s _ _ _) rfl (fun j hj => by omega)) (fun a h => up_n _ _ h) (fun a h => rfl) (fun a q1 q2 => ?_) (fun a h => rfl)⟩
        · rw [sf8, rd8_1, Option.bind_some, G_exists C.g11 h8, Option.bind_some, if_pos h0, if_neg (show ¬ (1 : Int32) = 0 by decide), rd8_1, Option.bind_some, G_high C.g11, Option.bind_some, rd8_1, Option.bind_some, G_wide C.g11, Option.bind_some, if_neg (fun q => q rfl), rd8_0, Option.bind_some, T_length, Option.bind_some, rd8_1, Option.bind_some, G_wide C.g11, Option.bind_some, if_neg (by rw [t1]; exact fun q => q rfl), rd8_0, Option.bind_some, rd8_1, Option.bind_some, G_shades C.g11, Option.bind_some, e', Option.bind_some, if_neg (show ¬ (1 : Int32) = 0 by decide)]
          unfold f_C_lay_p67 f_C_lay_p87 f_C_layTape e_C_layTape
          have e3' : f_C_layTape_p10 am_N 8 (nI t) 0 (mk n1 n2 L xs gk ik Ak m B J wd o) = _ := e3
          rw [if_neg (show ¬ (1 : Int32) = 0 by decide), rd8_5, Option.bind_some, rd8_1, Option.bind_some, eK, Option.bind_some, sf8, rd8_1, Option.bind_some, G_wide C1.g11, Option.bind_some, e3', Option.bind_some, rd8_0, Option.bind_some, T_cut0 ht tk, Option.bind_some, if_neg (show ¬ (1 : Int32) = 0 by decide), rd8_1, Option.bind_some, G_countAll C2.g11 C2.2.2.2 O2.1, Option.bind_some, call_len O2.1]
          rfl
        · have ck := (mly_chk (n1 := n1) (n2 := n2) (L := L) (xs := xs) (g := up gk 11 (t, t, s, f')) (i := up ik 73 0) (A := Ak) (m := up (up m 0 0) 2 0) (J := J) (wd := wd) (o := o) M h4 h8 TK t am_N 0 (by omega) (by unfold am_N; omega)).1 (fun k _ hk => a k hk)
          have ck' : f_M_lay_1_p45 am_N 51 (nI t) 0 (mk n1 n2 L xs (up gk 11 (t, t, s, f')) (up ik 73 0) Ak (up (up m 0 0) 2 0) B J wd o) = _ := ck
          rw [sf51, wr51_0, Option.bind_some, rd51_2, Option.bind_some, e2, wr51_2, Option.bind_some, M_high M, Option.bind_some, if_neg (nI_ne0 h0 (by omega)), M_high M, Option.bind_some, M_broad M, Option.bind_some, if_neg (fun q => q rfl), M_high M, Option.bind_some, if_pos rfl, ck', eS _ _ _ _ _ _ _ (up (up m 0 0) 2 0) B _ _ _ rfl rfl rfl, Option.bind_some]
          exact e4
        · unfold up
          split
          · rfl
          · split
            · rfl
            · rfl
      · have e' : f_T_holdsOnly 9 1 (nI s) (mk n1 n2 L xs g i A m B J wd o) = _ := e
        refine ⟨-1, g, up i 73 0, A, ?_, up (up m 0 0) 2 0, B, J, wd, ?_, HI'⟩
        · rw [sf8, rd8_1, Option.bind_some, G_exists C.g11 h8, Option.bind_some, if_pos h0, if_neg (show ¬ (1 : Int32) = 0 by decide), rd8_1, Option.bind_some, G_high C.g11, Option.bind_some, rd8_1, Option.bind_some, G_wide C.g11, Option.bind_some, if_neg (fun q => q rfl), rd8_0, Option.bind_some, T_length, Option.bind_some, rd8_1, Option.bind_some, G_wide C.g11, Option.bind_some, if_neg (by rw [t1]; exact fun q => q rfl), rd8_0, Option.bind_some, rd8_1, Option.bind_some, G_shades C.g11, Option.bind_some, e', Option.bind_some, if_pos rfl]
          exact cbad
        · have ck := (mly_chk (n1 := n1) (n2 := n2) (L := L) (xs := xs) (g := g) (i := up i 73 0) (A := A) (m := up (up m 0 0) 2 0) (J := J) (wd := wd) (o := o) M h4 h8 T0 t am_N 0 (by omega) (by unfold am_N; omega)).2 ⟨k, Nat.zero_le _, k1, k2⟩
          have ck' : f_M_lay_1_p45 am_N 51 (nI t) 0 (mk n1 n2 L xs g (up i 73 0) A (up (up m 0 0) 2 0) B J wd o) = _ := ck
          rw [sf51, wr51_0, Option.bind_some, rd51_2, Option.bind_some, e2, wr51_2, Option.bind_some, M_high M, Option.bind_some, if_neg (nI_ne0 h0 (by omega)), M_high M, Option.bind_some, M_broad M, Option.bind_some, if_neg (fun q => q rfl), M_high M, Option.bind_some, if_pos rfl, ck']
    · refine ⟨-1, g, up i 73 0, A, ?_, up (up m 0 0) 2 0, B, J, wd, ?_, HI'⟩
      · rw [sf8, rd8_1, Option.bind_some, G_exists C.g11 h8, Option.bind_some, if_pos h0, if_neg (show ¬ (1 : Int32) = 0 by decide), rd8_1, Option.bind_some, G_high C.g11, Option.bind_some, rd8_1, Option.bind_some, G_wide C.g11, Option.bind_some, if_neg (fun q => q rfl), rd8_0, Option.bind_some, T_length, Option.bind_some, rd8_1, Option.bind_some, G_wide C.g11, Option.bind_some, if_pos (show ¬ i 73 = nI h by rw [t1, nI_eq (by omega) (by omega)]; exact z2)]
        exact cbad
      · rw [sf51, wr51_0, Option.bind_some, rd51_2, Option.bind_some, e2, wr51_2, Option.bind_some, M_high M, Option.bind_some, if_neg (nI_ne0 h0 (by omega)), M_high M, Option.bind_some, M_broad M, Option.bind_some, if_neg (fun q => q rfl), M_high M, Option.bind_some, if_neg (show ¬ nI t = nI h by rw [nI_eq (by omega) (by omega)]; exact z2)]
  · have z1' : ¬ nI h = nI v := by rw [nI_eq (by omega) (by omega)]; exact z1
    refine ⟨-1, g, up i 73 0, A, ?_, up (up m 0 0) 2 0, B, J, wd, ?_, HI'⟩
    · rw [sf8, rd8_1, Option.bind_some, G_exists C.g11 h8, Option.bind_some, if_pos h0, if_neg (show ¬ (1 : Int32) = 0 by decide), rd8_1, Option.bind_some, G_high C.g11, Option.bind_some, rd8_1, Option.bind_some, G_wide C.g11, Option.bind_some, if_pos z1']
      exact cbad
    · rw [sf51, wr51_0, Option.bind_some, rd51_2, Option.bind_some, e2, wr51_2, Option.bind_some, M_high M, Option.bind_some, if_neg (nI_ne0 h0 (by omega)), M_high M, Option.bind_some, M_broad M, Option.bind_some, if_pos z1']
