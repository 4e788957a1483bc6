/-! THE TAPE -/
def bv (x : Int32) (j : Nat) : Nat := u3N x / 2 ^ (8 * (3 - j)) % 256
theorem bv_lt (x : Int32) (j : Nat) : bv x j < 256 := Nat.mod_lt _ (by decide)
theorem bv_eq (x : Int32) {k : Nat} (hk : k < 32) : am_iu x (nI k) &&& 255 = nI (u3N x / 2 ^ k % 256) := by
  have h1 := am_iu_eq (n := u3N x) (k := k) (u3_lt x) hk
  rw [u3_eq] at h1
  rw [h1]
  exact fa_mask _ 8
theorem m8 (x : Int32) : x + -8 = x - 8 := (Int32.sub_eq_add_neg _ _).symm
theorem sub_add {a b n : Nat} (h : b ≤ a + n) : nI a - nI b + nI n = nI (a + n - b) := by
  rw [Int32.sub_eq_add_neg, Int32.add_assoc, Int32.add_comm (-nI b), ← Int32.add_assoc, nI_add, ← Int32.sub_eq_add_neg, pk_sub h]
def dff (n a b : Nat) : Nat := (a + n - b) % n
theorem dff_lt {n a b : Nat} (h : 0 < n) : dff n a b < n := Nat.mod_lt _ h
theorem dff_m {n a b : Nat} (h : 0 < n) (ha : a < n) (hb : b < n) (hn : n < 2 ^ 29) : (nI a - nI b + nI n) - (nI a - nI b + nI n) / nI n * nI n = nI (dff n a b) := by
  rw [sub_add (by omega), pk_rem (by omega) h (by omega)]
  rfl
theorem dff_c1 {n a b : Nat} (ha : a < b) (hb : b < n) : nI a - nI b + nI n = nI (dff n a b) := by
  rw [sub_add (by omega)]
  unfold dff
  rw [Nat.mod_eq_of_lt (by omega)]
theorem dff_c2 {n a b : Nat} (ha : b ≤ a) (hb : a < n) : nI a - nI b = nI (dff n a b) := by
  rw [pk_sub ha]
  unfold dff
  rw [show a + n - b = a - b + n by omega, Nat.add_mod_right, Nat.mod_eq_of_lt (by omega)]
def tpp (t : Nat) (b : Nat → Nat) (f f' : Nat → Int32) : Prop := ∀ j, j < t → b j < 256 ∧ f j = nI (b j) ∧ f' j = nI (b j)
section TPA
variable {n1 n2 L : Nat} {xs : Nat → Int32} {g : Nat → GR} {i : Nat → Int32} {A : Nat → Nat → Int32} {m : Nat → Int32} {B : Nat → Nat → Int32} {J : Nat → Int64} {wd : Int64} {o : Nat → Int64}
theorem T_length : f_T_length 9 (mk n1 n2 L xs g i A m B J wd o) = some (mk n1 n2 L xs g i A m B J wd o, i 73) := by
  unfold f_T_length e_T_length
  rw [sf9, rd9_1, Option.bind_some]
theorem ta_loop (x : Int32) {t : Nat} (ht : t + 4 ≤ 440) (f : Nat → Int32) : ∀ d N n, n + d = 4 → d < N → f_T_append_p3 N 9 x (nI (8 * d) - 8) (mk n1 n2 L xs g (up i 73 (nI (t + n))) (up A 10 (fb_put f (fun j => nI (bv x j)) t n)) m B J wd o) = some (mk n1 n2 L xs g (up i 73 (nI (t + 4))) (up A 10 (fb_put f (fun j => nI (bv x j)) t 4)) m B J wd o, ()) := by
  intro d
  induction d with
  | zero =>
    intro N n hn hN
    obtain ⟨N, rfl⟩ : ∃ m, N = m + 1 := ⟨N - 1, by omega⟩
    have en : n = 4 := by omega
    subst en
    rw [f_T_append_p3, if_pos (show nI (8 * 0) - 8 < (0 : Int32) by decide)]
  | succ d ih =>
    intro N n hn hN
    obtain ⟨N, rfl⟩ : ∃ m, N = m + 1 := ⟨N - 1, by omega⟩
    have e8 : nI (8 * (d + 1)) - 8 = nI (8 * d) := by
      rw [show (8 : Int32) = nI 8 from rfl, pk_sub (by omega), show 8 * (d + 1) - 8 = 8 * d by omega]
    have eb : am_iu x (nI (8 * d)) &&& 255 = nI (bv x n) := by
      rw [bv_eq x (by omega)]
      unfold bv
      rw [show 8 * (3 - n) = 8 * d by omega]
    have e440 : am_al (mk n1 n2 L xs g (up i 73 (nI (t + n))) (up A 10 (fb_put f (fun j => nI (bv x j)) t n)) m B J wd o) 10 = some (nI 440) := r_al ar10 (by decide)
    rw [f_T_append_p3, e8, if_neg (nI_pos (by omega)), rd9_1, Option.bind_some, up_s, if_neg (nI_pos (by omega)), Option.bind_some, rd9_0, Option.bind_some, e440, Option.bind_some, if_neg (nI_ge (by omega) (by decide)), Option.bind_some, Option.bind_some, eb, w_si ar10 (by omega) (by decide) (by decide), Option.bind_some, st10, up_s, up_up, rd9_1, Option.bind_some, up_s, wr9_1, Option.bind_some, up_up, nI_1]
    unfold f_T_append_p52
    rw [m8, show upd (fb_put f (fun j => nI (bv x j)) t n) (t + n) (nI (bv x n)) = fb_put f (fun j => nI (bv x j)) t (n + 1) from fb_put_succ f (fun j => nI (bv x j)) t n]
    exact ih N (n + 1) (by omega) (by omega)
theorem T_append (x : Int32) {t : Nat} (ht : t + 4 ≤ 440) (hi : i 73 = nI t) : f_T_append 9 x (mk n1 n2 L xs g i A m B J wd o) = some (mk n1 n2 L xs g (up i 73 (nI (t + 4))) (up A 10 (fb_put (A 10) (fun j => nI (bv x j)) t 4)) m B J wd o, ()) := by
  unfold f_T_append e_T_append
  rw [sf9]
  have e := ta_loop (n1 := n1) (n2 := n2) (L := L) (xs := xs) (g := g) (i := i) (A := A) (m := m) (B := B) (J := J) (wd := wd) (o := o) x ht (A 10) 4 am_N 0 (by omega) (by unfold am_N; omega)
  rw [fb_put_0, up_id, Nat.add_zero, ← hi, up_id] at e
  exact e
theorem ml_loop (x : Int32) {t : Nat} (ht : t + 4 ≤ 440) (f : Nat → Int32) : ∀ d N n, n + d = 4 → d < N → f_M_lay_p3 N 51 x (nI (8 * d) - 8) (mk n1 n2 L xs g i A (up m 2 (nI (t + n))) (up B 52 (fb_put f (fun j => nI (bv x j)) t n)) J wd o) = some (mk n1 n2 L xs g i A (up m 2 (nI (t + 4))) (up B 52 (fb_put f (fun j => nI (bv x j)) t 4)) J wd o, ()) := by
  intro d
  induction d with
  | zero =>
    intro N n hn hN
    obtain ⟨N, rfl⟩ : ∃ m, N = m + 1 := ⟨N - 1, by omega⟩
    have en : n = 4 := by omega
    subst en
    rw [f_M_lay_p3, if_pos (show nI (8 * 0) - 8 < (0 : Int32) by decide)]
  | succ d ih =>
    intro N n hn hN
    obtain ⟨N, rfl⟩ : ∃ m, N = m + 1 := ⟨N - 1, by omega⟩
    have e8 : nI (8 * (d + 1)) - 8 = nI (8 * d) := by
      rw [show (8 : Int32) = nI 8 from rfl, pk_sub (by omega), show 8 * (d + 1) - 8 = 8 * d by omega]
    have eb : am_iu x (nI (8 * d)) &&& 255 = nI (bv x n) := by
      rw [bv_eq x (by omega)]
      unfold bv
      rw [show 8 * (3 - n) = 8 * d by omega]
    rw [f_M_lay_p3, e8, if_neg (nI_pos (by omega)), rd51_1, Option.bind_some, rd51_2, Option.bind_some, up_s, eb, w_si ar52 (by omega) (by decide) (by decide), Option.bind_some, st52, up_s, up_up, rd51_2, Option.bind_some, up_s, wr51_2, Option.bind_some, up_up, nI_1]
    rw [m8, show upd (fb_put f (fun j => nI (bv x j)) t n) (t + n) (nI (bv x n)) = fb_put f (fun j => nI (bv x j)) t (n + 1) from fb_put_succ f (fun j => nI (bv x j)) t n]
    exact ih N (n + 1) (by omega) (by omega)
theorem M_lay (x : Int32) {t : Nat} (ht : t + 4 ≤ 440) (hi : m 2 = nI t) : f_M_lay 51 x (mk n1 n2 L xs g i A m B J wd o) = some (mk n1 n2 L xs g i A (up m 2 (nI (t + 4))) (up B 52 (fb_put (B 52) (fun j => nI (bv x j)) t 4)) J wd o, ()) := by
  unfold f_M_lay e_M_lay
  rw [sf51]
  have e := ml_loop (n1 := n1) (n2 := n2) (L := L) (xs := xs) (g := g) (i := i) (A := A) (m := m) (B := B) (J := J) (wd := wd) (o := o) x ht (B 52) 4 am_N 0 (by omega) (by unfold am_N; omega)
  rw [fb_put_0, up_id, Nat.add_zero, ← hi, up_id] at e
  exact e
theorem T_cut0 {t : Nat} (ht : t ≤ 440) (hi : i 73 = nI t) : f_T_cut 9 0 (mk n1 n2 L xs g i A m B J wd o) = some (mk n1 n2 L xs g (up i 73 0) A m B J wd o, 1) := by
  unfold f_T_cut e_T_cut
  have h0 : (0 : Int32) ≤ nI t := nI_le (a := 0) (by omega) (by omega)
  rw [sf9, if_neg (by decide), rd9_1, Option.bind_some, hi, if_pos h0, wr9_1, Option.bind_some]
theorem T_byteAt {t j : Nat} (ht : t ≤ 440) (hi : i 73 = nI t) (hj : j < t) : f_T_byteAt 9 (nI j) (mk n1 n2 L xs g i A m B J wd o) = some (mk n1 n2 L xs g i A m B J wd o, A 10 j) := by
  unfold f_T_byteAt e_T_byteAt f_T_byteAt_p31
  have e440 : am_al (mk n1 n2 L xs g i A m B J wd o) 10 = some (nI 440) := r_al ar10 (by decide)
  rw [sf9, if_neg (nI_pos (by omega)), rd9_1, Option.bind_some, hi, if_neg (nI_ge hj (by omega)), rd9_0, Option.bind_some, e440, Option.bind_some, if_neg (nI_ge (by omega) (by decide)), Option.bind_some, r_ai ar10 (by omega) (by decide), Option.bind_some]
theorem th_loop {t lo hi' : Nat} {b : Nat → Nat} {f' : Nat → Int32} (ht : t ≤ 440) (hi : i 73 = nI t) (T : tpp t b (A 10) f') (h1 : lo < 256) (h2 : hi' < 256) : ∀ d n j, j + d = t → d < n → ((∀ k, j ≤ k → k < t → lo ≤ b k ∧ b k ≤ hi') ∧ f_T_holdsOnly_p2 n 9 (nI lo) (nI hi') (nI j) (mk n1 n2 L xs g i A m B J wd o) = some (mk n1 n2 L xs g i A m B J wd o, 1)) ∨ ((∃ k, k < t ∧ ¬ (lo ≤ b k ∧ b k ≤ hi')) ∧ f_T_holdsOnly_p2 n 9 (nI lo) (nI hi') (nI j) (mk n1 n2 L xs g i A m B J wd o) = some (mk n1 n2 L xs g i A m B J wd o, 0)) := by
  intro d
  induction d with
  | zero =>
    intro n j hj hn
    obtain ⟨n, rfl⟩ : ∃ m, n = m + 1 := ⟨n - 1, by omega⟩
    refine Or.inl ⟨fun k k1 k2 => by omega, ?_⟩
    rw [f_T_holdsOnly_p2, rd9_1, Option.bind_some, hi, if_pos (nI_le (by omega) (by omega))]
  | succ d ih =>
    intro n j hj hn
    obtain ⟨n, rfl⟩ : ∃ m, n = m + 1 := ⟨n - 1, by omega⟩
    obtain ⟨b1, b2, -⟩ := T j (by omega)
    rw [f_T_holdsOnly_p2, rd9_1, Option.bind_some, hi, if_neg (nI_ge (by omega) (by omega)), T_byteAt ht hi (by omega), Option.bind_some, b2]
    by_cases q1 : b j < lo
    · rw [if_pos (nI_lt q1 (by omega))]
      exact Or.inr ⟨⟨j, by omega, by omega⟩, rfl⟩
    · rw [if_neg (nI_nlt (by omega) (by omega)), T_byteAt ht hi (by omega), Option.bind_some, b2]
      by_cases q2 : b j ≤ hi'
      · rw [if_pos (nI_le q2 (by omega)), nI_1]
        rcases ih n (j + 1) (by omega) (by omega) with ⟨a, e⟩ | ⟨a, e⟩
        · refine Or.inl ⟨fun k k1 k2 => ?_, e⟩
          by_cases z : k = j
          · subst z; omega
          · exact a k (by omega) k2
        · exact Or.inr ⟨a, e⟩
      · rw [if_neg (nI_ge (by omega) (by omega))]
        exact Or.inr ⟨⟨j, by omega, by omega⟩, rfl⟩
theorem T_holdsOnly {t lo hi' : Nat} {b : Nat → Nat} {f' : Nat → Int32} (ht : t ≤ 440) (hi : i 73 = nI t) (T : tpp t b (A 10) f') (h1 : lo < 256) (h2 : hi' < 256) : ((∀ k, k < t → lo ≤ b k ∧ b k ≤ hi') ∧ f_T_holdsOnly 9 (nI lo) (nI hi') (mk n1 n2 L xs g i A m B J wd o) = some (mk n1 n2 L xs g i A m B J wd o, 1)) ∨ ((∃ k, k < t ∧ ¬ (lo ≤ b k ∧ b k ≤ hi')) ∧ f_T_holdsOnly 9 (nI lo) (nI hi') (mk n1 n2 L xs g i A m B J wd o) = some (mk n1 n2 L xs g i A m B J wd o, 0)) := by
  unfold f_T_holdsOnly e_T_holdsOnly
  rw [sf9]
  rcases th_loop (n1 := n1) (n2 := n2) (L := L) (xs := xs) (g := g) (m := m) (B := B) (J := J) (wd := wd) (o := o) ht hi T h1 h2 t am_N 0 (by omega) (by unfold am_N; omega) with ⟨a, e⟩ | ⟨a, e⟩
  · exact Or.inl ⟨fun k hk => a k (Nat.zero_le _) hk, e⟩
  · exact Or.inr ⟨a, e⟩
end TPA
theorem tpp_app {t : Nat} {b : Nat → Nat} {f f' : Nat → Int32} (T : tpp t b f f') (x : Int32) : tpp (t + 4) (fun j => if j < t then b j else bv x (j - t)) (fb_put f (fun j => nI (bv x j)) t 4) (fb_put f' (fun j => nI (bv x j)) t 4) := by
  intro j hj
  simp only []
  rcases Nat.lt_or_ge j t with q | q
  · rw [if_pos q, fb_put_out (by omega), fb_put_out (by omega)]
    exact T j q
  · rw [if_neg (by omega), fb_put_in q hj, fb_put_in q hj]
    exact ⟨bv_lt _ _, rfl, rfl⟩
theorem TI_of {i : Nat → Int32} {A : Nat → Nat → Int32} {m : Nat → Int32} {B : Nat → Nat → Int32} {t : Nat} {b : Nat → Nat} (ht : t ≤ 440) (e1 : i 73 = nI t) (e2 : m 2 = nI t) (T : tpp t b (A 10) (B 52)) : TI i A m B := ⟨t, b, ht, e1, e2, T⟩
theorem INV_tape {g : Nat → GR} {i i' : Nat → Int32} {A A' : Nat → Nat → Int32} {m m' : Nat → Int32} {B B' : Nat → Nat → Int32} (H : INV g i A m B) (T : TI i' A' m' B') (hi : ∀ a, a ≠ 73 → i' a = i a) (hA : ∀ a, a ≠ 10 → A' a = A a) (hm : ∀ a, a ≠ 0 → a ≠ 2 → m' a = m a) (hB : ∀ a, a ≠ 52 → B' a = B a) : INV g i' A' m' B' := by
  obtain ⟨⟨h, v, s, col, O, C, M⟩, e8, -, Hh, I, S, K'⟩ := H
  exact ⟨⟨h, v, s, col, O, C, fun j hj => by rw [hB 53 (by decide)]; exact M j hj⟩, by rw [hi 71 (by decide), hm 8 (by decide) (by decide), e8], T, HI_same Hh (hi 193 (by decide)) (hi 194 (by decide)) (hm 19 (by decide) (by decide)) (hA 27 (by decide)) (hB 56 (by decide)) (fun _ _ => rfl), II_same I (hA 46 (by decide)) (hB 60 (by decide)) (hB 55 (by decide)) (fun _ _ => rfl), SI_same S rfl rfl (hi 148 (by decide)) (hi 149 (by decide)), KI_same K' (hB 64 (by decide))⟩
theorem p_feed (x1 x2 x3 x4 x5 : Int32) : pOk (f_C_feed 8 x1 x2 x3 x4 x5) (f_M_feed 51 x1 x2 x3 x4 x5) := by
  intro n1 n2 L xs g i A m B J wd o H
  obtain ⟨-, -, ⟨t, b, ht, t1, t2, T⟩, -⟩ := id H
  have T0 : tpp t b (A 10) (B 52) := T
  unfold f_C_feed e_C_feed f_M_feed e_M_feed
  have e20 : nI t + 20 = nI (t + 20) := by rw [show (20 : Int32) = nI 20 from rfl, nI_add]
  rcases Nat.lt_or_ge 420 t with q | q
  · have q' : ¬ nI (t + 20) ≤ (440 : Int32) := nI_ge (a := 440) (by omega) (by omega)
    refine ⟨-1, g, i, A, ?_, up m 0 0, B, J, wd, ?_, INV_keep H (keep0 m B 0)⟩
    · rw [sf8, rd8_0, Option.bind_some, T_length, Option.bind_some, t1, e20, if_neg q']
    · rw [sf51, wr51_0, Option.bind_some, rd51_2, Option.bind_some, up_n _ _ (by decide), t2, e20, if_neg q']
  · have q' : nI (t + 20) ≤ (440 : Int32) := nI_le (b := 440) (by omega) (by omega)
    have T1 := tpp_app T0 x1
    have T2 := tpp_app T1 x2
    have T3 := tpp_app T2 x3
    have T4 := tpp_app T3 x4
    have T5 := tpp_app T4 x5
    refine ⟨nI (t + 4 + 4 + 4 + 4 + 4), g, up i 73 (nI (t + 4 + 4 + 4 + 4 + 4)), up A 10 (fb_put (fb_put (fb_put (fb_put (fb_put (A 10) (fun j => nI (bv x1 j)) t 4) (fun j => nI (bv x2 j)) (t + 4) 4) (fun j => nI (bv x3 j)) (t + 4 + 4) 4) (fun j => nI (bv x4 j)) (t + 4 + 4 + 4) 4) (fun j => nI (bv x5 j)) (t + 4 + 4 + 4 + 4) 4), ?_, up (up m 0 0) 2 (nI (t + 4 + 4 + 4 + 4 + 4)), up B 52 (fb_put (fb_put (fb_put (fb_put (fb_put (B 52) (fun j => nI (bv x1 j)) t 4) (fun j => nI (bv x2 j)) (t + 4) 4) (fun j => nI (bv x3 j)) (t + 4 + 4) 4) (fun j => nI (bv x4 j)) (t + 4 + 4 + 4) 4) (fun j => nI (bv x5 j)) (t + 4 + 4 + 4 + 4) 4), J, wd, ?_, INV_tape H (TI_of (by omega) (up_s _ _ _) (up_s _ _ _) (by rw [up_s, up_s]; exact T5)) (fun a h => up_n _ _ h) (fun a h => up_n _ _ h) (fun a h1 h2 => by rw [up_n _ _ h2, up_n _ _ h1]) (fun a h => up_n _ _ h)⟩
    · rw [sf8, rd8_0, Option.bind_some, T_length, Option.bind_some, t1, e20, if_pos q', rd8_0, Option.bind_some, T_append x1 (by omega) t1, Option.bind_some, rd8_0, Option.bind_some, T_append x2 (by omega) (up_s _ _ _), Option.bind_some, up_up, up_up, up_s, rd8_0, Option.bind_some, T_append x3 (by omega) (up_s _ _ _), Option.bind_some, up_up, up_up, up_s, rd8_0, Option.bind_some, T_append x4 (by omega) (up_s _ _ _), Option.bind_some, up_up, up_up, up_s, rd8_0, Option.bind_some, T_append x5 (by omega) (up_s _ _ _), Option.bind_some, up_up, up_up, up_s, rd8_0, Option.bind_some, T_length, Option.bind_some, up_s]
    · rw [sf51, wr51_0, Option.bind_some, rd51_2, Option.bind_some, up_n _ _ (by decide), t2, e20, if_pos q', M_lay x1 (t := t) (by omega) (by rw [up_n _ _ (by decide), t2]), Option.bind_some, M_lay x2 (by omega) (up_s _ _ _), Option.bind_some, up_up, up_up, up_s, M_lay x3 (by omega) (up_s _ _ _), Option.bind_some, up_up, up_up, up_s, M_lay x4 (by omega) (up_s _ _ _), Option.bind_some, up_up, up_up, up_s, M_lay x5 (by omega) (up_s _ _ _), Option.bind_some, up_up, up_up, up_s, rd51_2, Option.bind_some, up_s]
theorem p_end (x : Int32) : pOk (f_C_end 8 x) (f_M_end 51 x) := by
  intro n1 n2 L xs g i A m B J wd o H
  obtain ⟨-, -, ⟨t, b, ht, t1, t2, T⟩, -⟩ := id H
  unfold f_C_end e_C_end f_M_end e_M_end f_M_end_p17 f_T_cut e_T_cut f_T_cut_p12
  rcases pk_ix x (n := t + 1) (by omega) with q | q | ⟨k, hk, rfl⟩
  · refine ⟨0, g, i, A, ?_, up m 0 0, B, J, wd, ?_, INV_keep H (keep0 m B 0)⟩
    · rw [sf8, rd8_0, Option.bind_some, sf9, if_pos q]; rfl
    · rw [sf51, wr51_0, Option.bind_some, if_pos q]
  · have q1 : ¬ x < 0 := by
      rw [fa_le, nI_toInt (by omega)] at q
      rw [fa_lt]
      have : (0 : Int32).toInt = 0 := rfl
      omega
    have q2 : ¬ x ≤ nI t := by
      rw [fa_le, nI_toInt (by omega)] at q
      rw [fa_le, nI_toInt (by omega)]
      omega
    refine ⟨0, g, i, A, ?_, up m 0 0, B, J, wd, ?_, INV_keep H (keep0 m B 0)⟩
    · rw [sf8, rd8_0, Option.bind_some, sf9, if_neg q1, rd9_1, Option.bind_some, t1, if_neg q2]; rfl
    · rw [sf51, wr51_0, Option.bind_some, if_neg q1, rd51_2, Option.bind_some, up_n _ _ (by decide), t2, if_neg q2]
  · have q2 : nI k ≤ nI t := nI_le (by omega) (by omega)
    refine ⟨1, g, up i 73 (nI k), A, ?_, up (up m 0 0) 2 (nI k), B, J, wd, ?_, INV_tape H (TI_of (t := k) (b := b) (by omega) (up_s _ _ _) (up_s _ _ _) (fun j hj => T j (by omega))) (fun a h => up_n _ _ h) (fun a h => rfl) (fun a h1 h2 => by rw [up_n _ _ h2, up_n _ _ h1]) (fun a h => rfl)⟩
    · rw [sf8, rd8_0, Option.bind_some, sf9, if_neg (nI_pos (by omega)), rd9_1, Option.bind_some, t1, if_pos q2, wr9_1, Option.bind_some]; rfl
    · rw [sf51, wr51_0, Option.bind_some, if_neg (nI_pos (by omega)), rd51_2, Option.bind_some, up_n _ _ (by decide), t2, if_pos q2, wr51_2, Option.bind_some]
