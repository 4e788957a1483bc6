/-! THE MODEL'S TABLES OF OPEN SETS -/
def lsq (n : Nat) : Nat → List Nat
  | 0 => l0
  | r + 1 => stpL (Tn n) (lsq n r) 21 0
theorem chk_cons {T : List (Nat × Nat × Nat)} {N e : Nat} {es l : List Nat} (h : chk T N (e :: es) l = true) : (stpL T l 21 0).getD e 0 % 2 ^ N ≠ 0 ∧ (stpL T l 21 0).getD (e + 1) 0 = 0 ∧ chk T N es (stpL T l 21 0) = true := by
  rw [chk, frcL_eq] at h
  simp only [Bool.and_eq_true, decide_eq_true_iff] at h
  exact ⟨h.1.1, h.1.2, h.2⟩
theorem chk_n {n : Nat} (h1 : 1 ≤ n) (h6 : n ≤ 6) : chk (Tn n) (al n) (esN n) l0 = true := by
  have e : chkF n = chk (Tn n) (al n) (esN n) l0 := by unfold chkF; rw [frcT_eq]
  rw [← e]
  obtain ⟨a1, a2, a3, a4, a5⟩ := chk_all
  rcases (show n = 1 ∨ n = 2 ∨ n = 3 ∨ n = 4 ∨ n = 5 ∨ n = 6 by omega) with rfl | rfl | rfl | rfl | rfl | rfl
  · exact a1
  · exact a2
  · exact a3
  · exact a4
  · exact a5
  · exact chk_six
theorem lsq_ok {n : Nat} (h1 : 1 ≤ n) (h6 : n ≤ 6) {M : Nat} (m1 : 1 ≤ M) (m8 : M ≤ 8) : (lsq n M).getD (ocN (6 * (M - 1) + (n - 1))) 0 % 2 ^ al n ≠ 0 ∧ (lsq n M).getD (ocN (6 * (M - 1) + (n - 1)) + 1) 0 = 0 := by
  have h := chk_n h1 h6
  unfold esN at h
  obtain ⟨a1, b1, c1⟩ := chk_cons h
  obtain ⟨a2, b2, c2⟩ := chk_cons c1
  obtain ⟨a3, b3, c3⟩ := chk_cons c2
  obtain ⟨a4, b4, c4⟩ := chk_cons c3
  obtain ⟨a5, b5, c5⟩ := chk_cons c4
  obtain ⟨a6, b6, c6⟩ := chk_cons c5
  obtain ⟨a7, b7, c7⟩ := chk_cons c6
  obtain ⟨a8, b8, c8⟩ := chk_cons c7
  rcases (show M = 1 ∨ M = 2 ∨ M = 3 ∨ M = 4 ∨ M = 5 ∨ M = 6 ∨ M = 7 ∨ M = 8 by omega) with rfl | rfl | rfl | rfl | rfl | rfl | rfl | rfl
  · exact ⟨a1, b1⟩
  · exact ⟨a2, b2⟩
  · exact ⟨a3, b3⟩
  · exact ⟨a4, b4⟩
  · exact ⟨a5, b5⟩
  · exact ⟨a6, b6⟩
  · exact ⟨a7, b7⟩
  · exact ⟨a8, b8⟩
theorem oc_le : ∀ j : Fin 48, ocN j.val ≤ 19 := by decide
theorem best_ok {n : Nat} (h1 : 1 ≤ n) (h6 : n ≤ 6) {M : Nat} (m1 : 1 ≤ M) (m8 : M ≤ 8) {W : Nat → Nat} (R : rep n 21 W (lsq n M)) : (∃ u, u < al n ∧ W u = ocN (6 * (M - 1) + (n - 1)) + 1) ∧ ∀ u, u < al n → W u ≤ ocN (6 * (M - 1) + (n - 1)) + 1 := by
  obtain ⟨a, b⟩ := lsq_ok h1 h6 m1 m8
  have h19 := oc_le ⟨6 * (M - 1) + (n - 1), by omega⟩
  simp only [] at h19
  have up : ∀ u, u < al n → W u ≤ ocN (6 * (M - 1) + (n - 1)) + 1 := by
    intro u hu
    have := R u hu (ocN (6 * (M - 1) + (n - 1)) + 1) (by omega)
    rw [b, Nat.zero_testBit] at this
    rcases Nat.lt_or_ge (ocN (6 * (M - 1) + (n - 1)) + 1) (W u) with z | z
    · exact absurd (this.mp z) (by decide)
    · exact z
  obtain ⟨u, hu⟩ := Nat.exists_testBit_of_ne_zero a
  rw [Nat.testBit_mod_two_pow, Bool.and_eq_true, decide_eq_true_iff] at hu
  have := (R u hu.1 _ (by omega)).mpr hu.2
  have := up u hu.1
  exact ⟨⟨u, hu.1, by omega⟩, up⟩
theorem l0_z : ∀ j : Fin 20, l0.getD (j.val + 1) 0 = 0 := by decide
theorem rep_0 (n : Nat) {W : Nat → Nat} (hW : ∀ u, u < al n → W u = if u = 0 then 1 else 0) : rep n 21 W (lsq n 0) := by
  intro u hu j hj
  rw [hW u hu, lsq]
  rcases j with _ | j
  · show _ ↔ (1 : Nat).testBit u = true
    rw [Nat.testBit_one_eq_true_iff_self_eq_zero]
    split <;> omega
  · rw [l0_z ⟨j, by omega⟩, Nat.zero_testBit]
    split <;> simp
theorem bc_le : ∀ s : Fin 64, bc s.val ≤ 6 := by decide +kernel
theorem Pn_lt : ∀ (n : Fin 7) (s : Fin 64), s.val < 2 ^ n.val → Pn n.val s.val < al n.val := by decide +kernel
def vI (w : Nat) : Int32 := nI w - 1
theorem vI_s (w : Nat) : vI (w + 1) = nI w := pk_sub (b := 1) (by omega)
theorem vI_0 : vI 0 = -1 := by decide
theorem vI_toInt {w : Nat} (h : w < 2 ^ 30) : (vI w).toInt = (w : Int) - 1 := by
  cases w with
  | zero => decide
  | succ w => rw [vI_s, nI_toInt (by omega)]; omega
section OPA
variable {n1 n2 L : Nat} {xs : Nat → Int32} {g : Nat → GR} {i : Nat → Int32} {A : Nat → Nat → Int32} {m : Nat → Int32} {B : Nat → Nat → Int32} {J : Nat → Int64} {wd : Int64} {o : Nat → Int64}
theorem bits_lp (w : am_W) : ∀ f s c N, s ≤ f → f < N → s < 64 → f_M_bits_p4 N (nI c) (nI s) w = some (w, nI (c + bcn f s)) := by
  intro f
  induction f with
  | zero =>
    intro s c N hs hN h64
    obtain ⟨N, rfl⟩ : ∃ m, N = m + 1 := ⟨N - 1, by omega⟩
    have : s = 0 := by omega
    subst this
    rw [f_M_bits_p4, if_pos (show nI 0 = (0 : Int32) from rfl)]
    rfl
  | succ f ih =>
    intro s c N hs hN h64
    obtain ⟨N, rfl⟩ : ∃ m, N = m + 1 := ⟨N - 1, by omega⟩
    rw [f_M_bits_p4, bcn]
    by_cases z : s = 0
    · subst z
      rw [if_pos (show nI 0 = (0 : Int32) from rfl), if_pos rfl]
      rfl
    · have hle : s &&& (s - 1) ≤ s - 1 := Nat.and_le_right
      have e1 : nI s - 1 = nI (s - 1) := pk_sub (b := 1) (by omega)
      rw [if_neg (nI_ne0 (by omega) (by omega)), if_neg z, e1, fa_and, nI_1, ih _ (c + 1) N (by omega) (by omega) (by omega), show c + 1 + bcn f (s &&& (s - 1)) = c + (1 + bcn f (s &&& (s - 1))) by omega]
theorem M_bits {s : Nat} (h : s < 64) (w : am_W) : f_M_bits (nI s) w = some (w, nI (bc s)) := by
  unfold f_M_bits e_M_bits
  have e := bits_lp w 64 s 0 am_N (by omega) (by unfold am_N; omega) h
  rw [Nat.zero_add] at e
  exact e
theorem pairs_in {n s c : Nat} (hn : n ≤ 6) (hs : s < 64) (hc : c < n) (k7 : Int32 → Int32 → Int32 → Int32 → Int32 → am_W → Option (am_W × Int32)) (w : am_W) : ∀ d N e p k, e + d = n → d < N → k + d ≤ 30 → f_M_pairs_p19 k7 N (nI s) (nI n) (nI p) (nI k) (nI c) (nI e) w = k7 (nI s) (nI n) (nI (pqI s c d e p k)) (nI (k + d)) (nI (c + 1)) w := by
  intro d
  induction d with
  | zero =>
    intro N e p k he hN hk
    obtain ⟨N, rfl⟩ : ∃ m, N = m + 1 := ⟨N - 1, by omega⟩
    rw [f_M_pairs_p19, if_pos (nI_le (by omega) (by omega)), nI_1]
    rfl
  | succ d ih =>
    intro N e p k he hN hk
    obtain ⟨N, rfl⟩ : ∃ m, N = m + 1 := ⟨N - 1, by omega⟩
    rw [f_M_pairs_p19, if_neg (nI_ge (by omega) (by omega)), pqI]
    unfold f_M_pairs_p51
    rw [nI_1, nI_1, nI_shl1 (by omega), fa_or, show k + (d + 1) = k + 1 + d by omega]
    by_cases z1 : s.testBit c = true
    · rw [if_neg (by rw [nI_bit1 (by omega) (by omega)]; exact fun q => q z1)]
      by_cases z2 : s.testBit e = true
      · rw [if_neg (by rw [nI_bit1 (by omega) (by omega)]; exact fun q => q z2), if_pos (by rw [z1, z2]; rfl)]
        exact ih N (e + 1) _ (k + 1) (by omega) (by omega) (by omega)
      · rw [if_pos (by rw [nI_bit1 (by omega) (by omega)]; exact z2), if_neg (by rw [Bool.and_eq_true]; exact fun q => z2 q.2)]
        exact ih N (e + 1) _ (k + 1) (by omega) (by omega) (by omega)
    · rw [if_pos (by rw [nI_bit1 (by omega) (by omega)]; exact z1), if_neg (by rw [Bool.and_eq_true]; exact fun q => z1 q.1)]
      exact ih N (e + 1) _ (k + 1) (by omega) (by omega) (by omega)
theorem pairs_out {n s : Nat} (hn : n ≤ 6) (hs : s < 64) (w : am_W) : ∀ d N c p k, c + d = n → d < N → k + 5 * d ≤ 30 → f_M_pairs_p7 N (nI s) (nI n) (nI p) (nI k) (nI c) w = some (w, nI (pqO n s d c p k)) := by
  intro d
  induction d with
  | zero =>
    intro N c p k he hN hk
    obtain ⟨N, rfl⟩ : ∃ m, N = m + 1 := ⟨N - 1, by omega⟩
    rw [f_M_pairs_p7, if_pos (nI_le (by omega) (by omega))]
    rfl
  | succ d ih =>
    intro N c p k he hN hk
    obtain ⟨N, rfl⟩ : ∃ m, N = m + 1 := ⟨N - 1, by omega⟩
    rw [f_M_pairs_p7, if_neg (nI_ge (by omega) (by omega)), nI_1, pqO, pairs_in hn hs (by omega) (f_M_pairs_p7 N) w (n - (c + 1)) am_N (c + 1) p k (by omega) (by unfold am_N; omega) (by omega)]
    exact ih N (c + 1) _ _ (by omega) (by omega) (by omega)
theorem M_pairs {n s : Nat} (hn : n ≤ 6) (hs : s < 64) (w : am_W) : f_M_pairs (nI s) (nI n) w = some (w, nI (Pn n s)) := by
  unfold f_M_pairs e_M_pairs
  exact pairs_out hn hs w n am_N 0 0 0 (by omega) (by unfold am_N; omega) (by omega)
theorem pow6 {n : Nat} (hn : n ≤ 6) : 2 ^ n ≤ 64 := Nat.pow_le_pow_right (by decide) hn
theorem al_le {n : Nat} (hn : n ≤ 6) : al n ≤ 32768 := by
  have : ∀ n : Fin 7, al n.val ≤ 32768 := by decide
  exact this ⟨n, by omega⟩
theorem al_pos (n : Nat) : 0 < al n := Nat.two_pow_pos _
theorem lm_pairs {n : Nat} (hn : n ≤ 6) (x1 x3 x4 : Int32) : ∀ d N s f, s + d = 2 ^ n → d < N → (∀ j, j < s → f j = nI (Pn n j)) → ∃ f', (∀ j, j < 2 ^ n → f' j = nI (Pn n j)) ∧ f_M_laysMost_p39 N 51 x1 (nI n) x3 x4 (nI s) (mk n1 n2 L xs g i A m (up B 65 f) J wd o) = f_M_laysMost_p69 am_N 51 x1 (nI n) x3 x4 0 (mk n1 n2 L xs g i A m (up B 65 f') J wd o) := by
  have hp := pow6 hn
  intro d
  induction d with
  | zero =>
    intro N s f hs hN hf
    obtain ⟨N, rfl⟩ : ∃ m, N = m + 1 := ⟨N - 1, by omega⟩
    refine ⟨f, fun j hj => hf j (by omega), ?_⟩
    rw [f_M_laysMost_p39, nI_shl1 (by omega), if_pos (nI_le (by omega) (by omega))]
  | succ d ih =>
    intro N s f hs hN hf
    obtain ⟨N, rfl⟩ : ∃ m, N = m + 1 := ⟨N - 1, by omega⟩
    rw [f_M_laysMost_p39, nI_shl1 (by omega), if_neg (nI_ge (by omega) (by omega)), rd51_26, Option.bind_some, M_pairs hn (by omega), Option.bind_some, w_si ar65 (by omega) (by decide) (by decide), Option.bind_some, st65, up_s, up_up, nI_1]
    refine ih N (s + 1) _ (by omega) (by omega) (fun j hj => ?_)
    by_cases q : j = s
    · subst q; rw [pk_us]
    · rw [pk_un q]; exact hf j (by omega)
theorem lm_init {n : Nat} (hn : n ≤ 6) (x1 x2 x3 : Int32) : ∀ d N u f, u + d = al n → d < N → (∀ j, j < u → f j = vI (if j = 0 then 1 else 0)) → ∃ f', (∀ j, j < al n → f' j = vI (if j = 0 then 1 else 0)) ∧ f_M_laysMost_p69 N 51 x1 x2 x3 (nI (al n)) (nI u) (mk n1 n2 L xs g i A m (up B 63 f) J wd o) = f_M_laysMost_p102 am_N 51 x1 x2 x3 (nI (al n)) 0 (mk n1 n2 L xs g i A m (up B 63 f') J wd o) := by
  have hp := al_le hn
  intro d
  induction d with
  | zero =>
    intro N u f hs hN hf
    obtain ⟨N, rfl⟩ : ∃ m, N = m + 1 := ⟨N - 1, by omega⟩
    refine ⟨f, fun j hj => hf j (by omega), ?_⟩
    rw [f_M_laysMost_p69, if_pos (nI_le (by omega) (by omega))]
  | succ d ih =>
    intro N u f hs hN hf
    obtain ⟨N, rfl⟩ : ∃ m, N = m + 1 := ⟨N - 1, by omega⟩
    have e92 : ∀ y, y = vI (if u = 0 then 1 else 0) → f_M_laysMost_p92 (f_M_laysMost_p69 N) 51 x1 x2 x3 (nI (al n)) (nI u) 63 (nI u) y (mk n1 n2 L xs g i A m (up B 63 f) J wd o) = f_M_laysMost_p69 N 51 x1 x2 x3 (nI (al n)) (nI (u + 1)) (mk n1 n2 L xs g i A m (up B 63 (upd f u (vI (if u = 0 then 1 else 0)))) J wd o) := by
      intro y hy
      unfold f_M_laysMost_p92
      rw [hy, w_si ar63 (by omega) (by decide) (by decide), Option.bind_some, st63, up_s, up_up, nI_1]
    have hf2 : ∀ j, j < u + 1 → upd f u (vI (if u = 0 then 1 else 0)) j = vI (if j = 0 then 1 else 0) := by
      intro j hj
      by_cases q : j = u
      · subst q; rw [pk_us]
      · rw [pk_un q]; exact hf j (by omega)
    rw [f_M_laysMost_p69, if_neg (nI_ge (by omega) (by omega)), rd51_24, Option.bind_some]
    by_cases z : u = 0
    · rw [if_neg (by rw [z]; exact fun q => q rfl), e92 0 (by rw [if_pos z]; decide)]
      exact ih N (u + 1) _ (by omega) (by omega) hf2
    · rw [if_pos (nI_ne0 (by omega) (by omega)), e92 (-1) (by rw [if_neg z]; decide)]
      exact ih N (u + 1) _ (by omega) (by omega) hf2
theorem lm_s {n U a bd : Nat} (hn : n ≤ 6) (hU : U < al n) (hB : ∀ j, j < 2 ^ n → B 65 j = nI (Pn n j)) (hbd : a + 1 + 6 ≤ bd) (hbd' : bd ≤ 100) (k102 : Nat → Int32 → Int32 → Int32 → Int32 → Int32 → am_W → Option (am_W × Int32)) (k114 : Nat → Int32 → Int32 → Int32 → Int32 → Int32 → Int32 → am_W → Option (am_W × Int32)) (x1 x3 x4 x5 : Int32) : ∀ (d N s : Nat) (f : Nat → Int32) (cur : Nat → Nat), s + d = 2 ^ n → 3 ≤ s → d < N → (∀ j, j < al n → f j = vI (cur j) ∧ cur j ≤ bd) → ∃ (f' : Nat → Int32) (cur' : Nat → Nat), (∀ j, j < al n → f' j = vI (cur' j) ∧ cur' j ≤ bd) ∧
      (∀ u, u < al n → ∀ k, 1 ≤ k → (k ≤ cur' u ↔ k ≤ cur u ∨ ∃ e, s ≤ e ∧ e < 2 ^ n ∧ Pn n e ≠ 0 ∧ U &&& Pn n e = 0 ∧ U ||| Pn n e = u ∧ k ≤ a + 1 + bc e)) ∧
      f_M_laysMost_p151 k102 k114 N 51 x1 (nI n) x3 x4 x5 (nI U) (nI a) (nI s) (mk n1 n2 L xs g i A m (up B 63 f) J wd o) = f_M_laysMost_p226 k102 k114 51 x1 (nI n) x3 x4 x5 (nI U) (mk n1 n2 L xs g i A m (up B 63 f') J wd o) := by
  have hp := pow6 hn
  have ha := al_le hn
  intro d
  induction d with
  | zero =>
    intro N s f cur hs h3 hN hf
    obtain ⟨N, rfl⟩ : ∃ m, N = m + 1 := ⟨N - 1, by omega⟩
    refine ⟨f, cur, hf, fun u hu k hk => ⟨fun h => Or.inl h, fun h => ?_⟩, ?_⟩
    · rcases h with h | ⟨e, e1, e2, -⟩
      · exact h
      · omega
    · rw [f_M_laysMost_p151, nI_shl1 (by omega), if_pos (nI_le (by omega) (by omega))]
  | succ d ih =>
    intro N s f cur hs h3 hN hf
    obtain ⟨N, rfl⟩ : ∃ m, N = m + 1 := ⟨N - 1, by omega⟩
    have hP := Pn_lt ⟨n, by omega⟩ ⟨s, by omega⟩ (show s < 2 ^ n by omega)
    simp only [] at hP
    have hb := bc_le ⟨s, by omega⟩
    simp only [] at hb
    have e65 : am_ai (mk n1 n2 L xs g i A m (up B 63 f) J wd o) 65 (nI s) = some (nI (Pn n s)) := by
      rw [r_ai ar65 (by omega) (by decide)]
      exact congrArg some (hB s (by omega))
    rw [f_M_laysMost_p151, nI_shl1 (by omega), if_neg (nI_ge (by omega) (by omega)), rd51_26, Option.bind_some, e65, Option.bind_some]
    unfold f_M_laysMost_p220
    rw [nI_1]
    have skip : ¬ (Pn n s ≠ 0 ∧ U &&& Pn n s = 0) → ∃ (f' : Nat → Int32) (cur' : Nat → Nat), (∀ j, j < al n → f' j = vI (cur' j) ∧ cur' j ≤ bd) ∧
      (∀ u, u < al n → ∀ k, 1 ≤ k → (k ≤ cur' u ↔ k ≤ cur u ∨ ∃ e, s ≤ e ∧ e < 2 ^ n ∧ Pn n e ≠ 0 ∧ U &&& Pn n e = 0 ∧ U ||| Pn n e = u ∧ k ≤ a + 1 + bc e)) ∧
      f_M_laysMost_p151 k102 k114 N 51 x1 (nI n) x3 x4 x5 (nI U) (nI a) (nI (s + 1)) (mk n1 n2 L xs g i A m (up B 63 f) J wd o) = f_M_laysMost_p226 k102 k114 51 x1 (nI n) x3 x4 x5 (nI U) (mk n1 n2 L xs g i A m (up B 63 f') J wd o) := by
      intro hno
      obtain ⟨f', cur', c1, c2, c3⟩ := ih N (s + 1) f cur (by omega) (by omega) (by omega) hf
      refine ⟨f', cur', c1, fun u hu k hk => ?_, c3⟩
      rw [c2 u hu k hk]
      refine or_congr Iff.rfl ⟨?_, ?_⟩
      · rintro ⟨e, e1, e2⟩; exact ⟨e, by omega, e2⟩
      · rintro ⟨e, e1, e2, e3, e4, e5⟩
        refine ⟨e, ?_, e2, e3, e4, e5⟩
        rcases Nat.lt_or_ge s e with z | z
        · exact z
        · have : e = s := by omega
          subst this
          exact absurd ⟨e3, e4⟩ hno
    by_cases p0 : Pn n s = 0
    · rw [if_pos (by rw [p0]; rfl)]
      exact skip (fun q => q.1 p0)
    · rw [if_neg (nI_ne0 (by omega) (by omega)), fa_and]
      by_cases pa : U &&& Pn n s = 0
      · have pa' : Pn n s &&& U = 0 := by rw [Nat.and_comm]; exact pa
        have ea := and0_add U U (Pn n s) (Nat.le_refl _) pa
        have ht : U ||| Pn n s < al n := Nat.or_lt_two_pow hU hP
        obtain ⟨ct, cb⟩ := hf _ ht
        have e63 : am_ai (mk n1 n2 L xs g i A m (up B 63 f) J wd o) 63 (nI (U ||| Pn n s)) = some (vI (cur (U ||| Pn n s))) := by
          rw [r_ai ar63 (by omega) (by decide), up_s, ct]
        rw [if_neg (by rw [pa']; exact fun q => q rfl), rd51_24, Option.bind_some, fa_or, e63, Option.bind_some, M_bits (by omega), Option.bind_some, nI_add]
        by_cases q : a + 1 + bc s ≤ cur (U ||| Pn n s)
        · rw [if_pos (show nI (a + bc s) ≤ vI (cur (U ||| Pn n s)) by rw [fa_le, nI_toInt (by omega), vI_toInt (by omega)]; omega)]
          obtain ⟨f', cur', c1, c2, c3⟩ := ih N (s + 1) f cur (by omega) (by omega) (by omega) hf
          refine ⟨f', cur', c1, fun u hu k hk => ?_, c3⟩
          rw [c2 u hu k hk]
          constructor
          · rintro (h | ⟨e, e1, e2⟩)
            · exact Or.inl h
            · exact Or.inr ⟨e, by omega, e2⟩
          · rintro (h | ⟨e, e1, e2, e3, e4, e5, e6⟩)
            · exact Or.inl h
            · rcases Nat.lt_or_ge s e with z | z
              · exact Or.inr ⟨e, z, e2, e3, e4, e5, e6⟩
              · have : e = s := by omega
                subst this
                rw [← e5]
                exact Or.inl (by omega)
        · rw [if_neg (show ¬ nI (a + bc s) ≤ vI (cur (U ||| Pn n s)) by rw [fa_le, nI_toInt (by omega), vI_toInt (by omega)]; omega), rd51_24, Option.bind_some, M_bits (by omega), Option.bind_some, nI_add, w_si ar63 (by omega) (by decide) (by decide), Option.bind_some, st63, up_s, up_up]
          have hf2 : ∀ j, j < al n → upd f (U ||| Pn n s) (nI (a + bc s)) j = vI (updN cur (U ||| Pn n s) (a + bc s + 1) j) ∧ updN cur (U ||| Pn n s) (a + bc s + 1) j ≤ bd := by
            intro j hj
            by_cases z : j = U ||| Pn n s
            · subst z; rw [pk_us, updN_s, vI_s]; exact ⟨rfl, by omega⟩
            · rw [pk_un z, updN_n cur z]; exact hf j hj
          obtain ⟨f', cur', c1, c2, c3⟩ := ih N (s + 1) _ _ (by omega) (by omega) (by omega) hf2
          refine ⟨f', cur', c1, fun u hu k hk => ?_, c3⟩
          rw [c2 u hu k hk]
          by_cases z : u = U ||| Pn n s
          · subst z
            rw [updN_s]
            constructor
            · rintro (h | ⟨e, e1, e2⟩)
              · exact Or.inr ⟨s, by omega, by omega, p0, pa, rfl, by omega⟩
              · exact Or.inr ⟨e, by omega, e2⟩
            · rintro (h | ⟨e, e1, e2, e3, e4, e5, e6⟩)
              · exact Or.inl (by omega)
              · rcases Nat.lt_or_ge s e with z | z
                · exact Or.inr ⟨e, z, e2, e3, e4, e5, e6⟩
                · have : e = s := by omega
                  subst this
                  exact Or.inl (by omega)
          · rw [updN_n cur z]
            constructor
            · rintro (h | ⟨e, e1, e2⟩)
              · exact Or.inl h
              · exact Or.inr ⟨e, by omega, e2⟩
            · rintro (h | ⟨e, e1, e2, e3, e4, e5, e6⟩)
              · exact Or.inl h
              · rcases Nat.lt_or_ge s e with y | y
                · exact Or.inr ⟨e, y, e2, e3, e4, e5, e6⟩
                · have : e = s := by omega
                  subst this
                  exact absurd e5.symm z
      · have hne : Pn n s &&& U ≠ 0 := by rw [Nat.and_comm]; exact pa
        have hlt : Pn n s &&& U < 2 ^ 31 := Nat.lt_of_le_of_lt Nat.and_le_left (by omega)
        rw [if_pos (nI_ne0 (Nat.pos_of_ne_zero hne) hlt)]
        exact skip (fun q => pa q.2)
theorem lm_u {n bd : Nat} {W : Nat → Nat} (hn : n ≤ 6) (hB : ∀ j, j < 2 ^ n → B 65 j = nI (Pn n j)) (hW : ∀ u, u < al n → W u + 6 ≤ bd) (h2 : 3 ≤ 2 ^ n ∨ 2 ^ n < 3) (hbd' : bd ≤ 100) (k102 : Nat → Int32 → Int32 → Int32 → Int32 → Int32 → am_W → Option (am_W × Int32)) (x1 x3 x4 x5 : Int32) : ∀ (U N : Nat) (f : Nat → Int32) (cur : Nat → Nat), U ≤ al n → U < N → (∀ j, j < al n → f j = vI (cur j) ∧ cur j ≤ bd) → (∀ u, u < U → cur u = W u) → (∀ u, U ≤ u → u < al n → ∀ k, 1 ≤ k → (k ≤ cur u ↔ (W u ≠ 0 ∧ k ≤ W u + 1) ∨ ∃ u' s, U ≤ u' ∧ 3 ≤ s ∧ s < 2 ^ n ∧ Pn n s ≠ 0 ∧ u' &&& Pn n s = 0 ∧ u' ||| Pn n s = u ∧ W u' ≠ 0 ∧ k ≤ W u' + bc s)) →
    ∃ (f' : Nat → Int32) (cur' : Nat → Nat), (∀ j, j < al n → f' j = vI (cur' j) ∧ cur' j ≤ bd) ∧ nxt n W cur' ∧ f_M_laysMost_p114 k102 N 51 x1 (nI n) x3 x4 x5 (nI U - 1) (mk n1 n2 L xs g i A m (up B 63 f) J wd o) = k102 51 x1 (nI n) x3 x4 (x5 + 1) (mk n1 n2 L xs g i A m (up B 63 f') J wd o) := by
  have hp := pow6 hn
  have ha := al_le hn
  have hor : ∀ u' s, Pn n s ≠ 0 → u' &&& Pn n s = 0 → u' < u' ||| Pn n s := by
    intro u' s p0 pa
    rw [and0_add u' u' _ (Nat.le_refl _) pa]
    omega
  intro U
  induction U with
  | zero =>
    intro N f cur hU hN hf c1 c2
    obtain ⟨N, rfl⟩ : ∃ m, N = m + 1 := ⟨N - 1, by omega⟩
    refine ⟨f, cur, hf, fun u hu k hk => ?_, ?_⟩
    · rw [c2 u (Nat.zero_le _) hu k hk]
      refine or_congr Iff.rfl ⟨?_, ?_⟩
      · rintro ⟨u', s, -, r⟩; exact ⟨u', s, r⟩
      · rintro ⟨u', s, r⟩; exact ⟨u', s, Nat.zero_le _, r⟩
    · rw [f_M_laysMost_p114, if_pos (show nI 0 - 1 < (0 : Int32) by decide)]
  | succ U ih =>
    intro N f cur hU hN hf c1 c2
    obtain ⟨N, rfl⟩ : ∃ m, N = m + 1 := ⟨N - 1, by omega⟩
    have hUl : U < al n := by omega
    have eU : nI (U + 1) - 1 = nI U := pk_sub (b := 1) (by omega)
    have cU := c1 U (by omega)
    have fU := (hf U hUl).1
    rw [cU] at fU
    have e63 : am_ai (mk n1 n2 L xs g i A m (up B 63 f) J wd o) 63 (nI U) = some (vI (W U)) := by
      rw [r_ai ar63 (by omega) (by decide), up_s, fU]
    have em1 : nI U + -1 = nI U - 1 := (Int32.sub_eq_add_neg _ _).symm
    rw [f_M_laysMost_p114, eU, if_neg (nI_pos (by omega)), rd51_24, Option.bind_some, e63, Option.bind_some]
    rcases Nat.eq_zero_or_pos (W U) with z | z
    · rw [z, vI_0, if_neg (fun q => q rfl)]
      unfold f_M_laysMost_p226
      rw [em1]
      refine ih N f cur (by omega) (by omega) hf (fun u hu => c1 u (by omega)) (fun u hu hl k hk => ?_)
      by_cases y : u = U
      · subst y
        rw [cU, z]
        constructor
        · intro h; omega
        · rintro (h | ⟨u', s, h1, h2, h3, h4, h5, h6, h7⟩)
          · exact absurd rfl h.1
          · have := hor u' s h4 h5
            omega
      · rw [c2 u (by omega) hl k hk]
        refine or_congr Iff.rfl ⟨?_, ?_⟩
        · rintro ⟨u', s, h1, r⟩; exact ⟨u', s, by omega, r⟩
        · rintro ⟨u', s, h1, h2, h3, h4, h5, h6, h7, h8⟩
          refine ⟨u', s, ?_, h2, h3, h4, h5, h6, h7, h8⟩
          rcases Nat.lt_or_ge U u' with q | q
          · exact q
          · have : u' = U := by omega
            subst this
            exact absurd z h7
    · obtain ⟨a, ea⟩ : ∃ a, W U = a + 1 := ⟨W U - 1, by omega⟩
      have hWU := hW U hUl
      have ne1 : ¬ nI a = (-1 : Int32) := by
        intro q
        have := congrArg Int32.toInt q
        rw [nI_toInt (by omega)] at this
        have h1 : (-1 : Int32).toInt = -1 := by decide
        omega
      have hf1 : ∀ j, j < al n → upd f U (nI (a + 1)) j = vI (updN cur U (a + 2) j) ∧ updN cur U (a + 2) j ≤ bd := by
        intro j hj
        by_cases y : j = U
        · subst y; rw [pk_us, updN_s, vI_s]; exact ⟨rfl, by omega⟩
        · rw [pk_un y, updN_n cur y]; exact hf j hj
      rw [ea, vI_s, if_pos ne1, Option.bind_some, nI_1, w_si ar63 (by omega) (by decide) (by decide), Option.bind_some, st63, up_s, up_up]
      -- the loop over rows' sets
      have hloop : ∃ (f' : Nat → Int32) (cur' : Nat → Nat), (∀ j, j < al n → f' j = vI (cur' j) ∧ cur' j ≤ bd) ∧
          (∀ u, u < al n → ∀ k, 1 ≤ k → (k ≤ cur' u ↔ k ≤ updN cur U (a + 2) u ∨ ∃ e, 3 ≤ e ∧ e < 2 ^ n ∧ Pn n e ≠ 0 ∧ U &&& Pn n e = 0 ∧ U ||| Pn n e = u ∧ k ≤ a + 1 + bc e)) ∧
          f_M_laysMost_p151 k102 (f_M_laysMost_p114 k102 N) am_N 51 x1 (nI n) x3 x4 x5 (nI U) (nI a) 3 (mk n1 n2 L xs g i A m (up B 63 (upd f U (nI (a + 1)))) J wd o) = f_M_laysMost_p226 k102 (f_M_laysMost_p114 k102 N) 51 x1 (nI n) x3 x4 x5 (nI U) (mk n1 n2 L xs g i A m (up B 63 f') J wd o) := by
        rcases h2 with h2 | h2
        · exact lm_s (n1 := n1) (n2 := n2) (L := L) (xs := xs) (g := g) (i := i) (A := A) (m := m) (J := J) (wd := wd) (o := o) hn hUl hB (by omega) hbd' k102 (f_M_laysMost_p114 k102 N) x1 x3 x4 x5 (2 ^ n - 3) am_N 3 _ _ (by omega) (by omega) (by unfold am_N; omega) hf1
        · refine ⟨_, _, hf1, fun u hu k hk => ⟨fun h => Or.inl h, fun h => ?_⟩, ?_⟩
          · rcases h with h | ⟨e, e1, e2, -⟩
            · exact h
            · omega
          · unfold am_N
            have q3 : nI (2 ^ n) ≤ (3 : Int32) := nI_le (b := 3) (by omega) (by omega)
            rw [f_M_laysMost_p151, nI_shl1 (by omega), if_pos q3]
      obtain ⟨f', cur', d1, d2, d3⟩ := hloop
      rw [d3]
      unfold f_M_laysMost_p226
      rw [em1]
      refine ih N f' cur' (by omega) (by omega) d1 (fun u hu => ?_) (fun u hu hl k hk => ?_)
      · have key : ∀ k, 1 ≤ k → (k ≤ cur' u ↔ k ≤ W u) := by
          intro k hk
          rw [d2 u (by omega) k hk, updN_n cur (by omega), c1 u (by omega)]
          constructor
          · rintro (h | ⟨e, e1, e2, e3, e4, e5, e6⟩)
            · exact h
            · have := hor U e e3 e4
              omega
          · exact Or.inl
        rcases Nat.lt_or_ge (W u) (cur' u) with q | q
        · exact absurd ((key (cur' u) (by omega)).mp (Nat.le_refl _)) (by omega)
        · rcases Nat.eq_zero_or_pos (W u) with y | y
          · omega
          · have := (key (W u) y).mpr (Nat.le_refl _)
            omega
      · rw [d2 u hl k hk]
        by_cases y : u = U
        · subst y
          rw [updN_s, ea]
          constructor
          · rintro (h | ⟨e, e1, e2, e3, e4, e5, e6⟩)
            · exact Or.inl ⟨by omega, by omega⟩
            · have := hor u e e3 e4
              omega
          · rintro (h | ⟨u', s, h1, h2, h3, h4, h5, h6, h7⟩)
            · exact Or.inl (by omega)
            · have := hor u' s h4 h5
              omega
        · rw [updN_n cur y, c2 u (by omega) hl k hk]
          constructor
          · rintro ((h | ⟨u', s, h1, r⟩) | ⟨e, e1, e2, e3, e4, e5, e6⟩)
            · exact Or.inl h
            · exact Or.inr ⟨u', s, by omega, r⟩
            · exact Or.inr ⟨U, e, Nat.le_refl _, e1, e2, e3, e4, e5, by omega, by omega⟩
          · rintro (h | ⟨u', s, h1, h2, h3, h4, h5, h6, h7, h8⟩)
            · exact Or.inl (Or.inl h)
            · rcases Nat.lt_or_ge U u' with q | q
              · exact Or.inl (Or.inr ⟨u', s, q, h2, h3, h4, h5, h6, h7, h8⟩)
              · have : u' = U := by omega
                subst this
                exact Or.inr ⟨s, h2, h3, h4, h5, h6, by omega⟩
end OPA
