/-! PAIRS COUNTED -/
theorem pr_I {a : Nat} (ha : a < 30000) : nI a * (nI a - 1) / 2 = nI (pr a) := by
  have h := C_pairsOf ha (0, 0, [])
  unfold f_C_pairsOf e_C_pairsOf at h
  rw [if_neg (by decide)] at h
  exact (Prod.mk.inj (Option.some.inj h)).2
theorem in_case (x : Int32) {lo hi : Nat} (h : hi < 2 ^ 30) (hl : lo ≤ hi) : (x < nI lo ∨ nI hi < x) ∨ ∃ k, lo ≤ k ∧ k ≤ hi ∧ x = nI k := by
  have h0 : (0 : Int32).toInt = 0 := rfl
  rcases pk_ix x (n := hi + 1) (by omega) with q | q | ⟨k, hk, rfl⟩
  · refine Or.inl (Or.inl ?_)
    rw [fa_lt] at q ⊢
    rw [nI_toInt (by omega)]
    omega
  · refine Or.inl (Or.inr ?_)
    rw [fa_le, nI_toInt (by omega)] at q
    rw [fa_lt, nI_toInt (by omega)]
    omega
  · rcases Nat.lt_or_ge k lo with z | z
    · exact Or.inl (Or.inl (nI_lt z (by omega)))
    · exact Or.inr ⟨k, z, by omega, rfl⟩
def prt (n k i : Nat) : Nat := pr (n / k + if i < n % k then 1 else 0)
theorem prt_sum {n k : Nat} (k0 : 0 < k) (k4 : k ≤ 4) : fb_sm (prt n k) k = n % k * pr (n / k + 1) + (k - n % k) * pr (n / k) := by
  have hm := Nat.mod_lt n k0
  unfold prt
  generalize n / k = a at *
  generalize n % k = r at *
  rcases (show k = 1 ∨ k = 2 ∨ k = 3 ∨ k = 4 by omega) with rfl | rfl | rfl | rfl
  · have : r = 0 := by omega
    subst this
    simp [fb_sm]
  · rcases (show r = 0 ∨ r = 1 by omega) with rfl | rfl <;> simp [fb_sm] <;> omega
  · rcases (show r = 0 ∨ r = 1 ∨ r = 2 by omega) with rfl | rfl | rfl <;> simp [fb_sm] <;> omega
  · rcases (show r = 0 ∨ r = 1 ∨ r = 2 ∨ r = 3 by omega) with rfl | rfl | rfl | rfl <;> simp [fb_sm] <;> omega
theorem pr_mono {a b : Nat} (h : a ≤ b) : pr a ≤ pr b := by
  unfold pr
  exact Nat.div_le_div_right (Nat.mul_le_mul h (by omega))
theorem mpr_loop {n k : Nat} {M : Nat} (k0 : 0 < k) (k4 : k ≤ 4) (n9 : n ≤ 99) (w : am_W) : ∀ d N i, i + d = k → d < N → f_M_paired_p42 N (nI M) (nI n) (nI k) (nI (fb_sm (prt n k) i)) (nI i) w = (if (nI (fb_sm (prt n k) k) * nI M) ≤ (nI k * nI (pr n)) then some (w, 0) else some (w, 1)) := by
  have hdk : n / k ≤ n := Nat.div_le_self n k
  have hm := Nat.mod_lt n k0
  intro d
  induction d with
  | zero =>
    intro N i hi hN
    obtain ⟨N, rfl⟩ : ∃ m, N = m + 1 := ⟨N - 1, by omega⟩
    have ei : i = k := by omega
    subst ei
    rw [f_M_paired_p42, if_pos (nI_le (by omega) (by omega)), if_neg (show ¬ (2 : Nat) = 0 by decide), pr_I (by omega)]
    rfl
  | succ d ih =>
    intro N i hi hN
    obtain ⟨N, rfl⟩ : ∃ m, N = m + 1 := ⟨N - 1, by omega⟩
    have hr : nI n - nI n / nI k * nI k = nI (n % k) := pk_rem (by omega) k0 (by omega)
    have hd : nI n / nI k = nI (n / k) := pk_div (by omega) k0 (by omega)
    have hs : fb_sm (prt n k) (i + 1) = fb_sm (prt n k) i + prt n k i := rfl
    rw [f_M_paired_p42, if_neg (nI_ge (by omega) (by omega)), if_neg (nI_ne0 k0 (by omega)), if_neg (nI_ne0 k0 (by omega)), hr, hd]
    unfold f_M_paired_p64
    have e0 : nI (n / k) + 0 = nI (n / k + 0) := by rw [show (0 : Int32) = nI 0 from rfl, nI_add]
    rw [if_neg (show ¬ (2 : Nat) = 0 by decide), e0, nI_1, nI_1, pr_I (by omega), pr_I (by omega), nI_add, nI_add]
    by_cases z : i < n % k
    · rw [if_neg (nI_ge z (by omega))]
      have : prt n k i = pr (n / k + 1) := by unfold prt; rw [if_pos z]
      rw [this] at hs
      rw [← hs]
      exact ih N (i + 1) (by omega) (by omega)
    · rw [if_pos (nI_le (by omega) (by omega))]
      have : prt n k i = pr (n / k + 0) := by unfold prt; rw [if_neg z]
      rw [this] at hs
      rw [← hs]
      exact ih N (i + 1) (by omega) (by omega)
theorem p_paired (x y z : Int32) : pOk (f_C_paired 8 x y z) (f_M_paired 51 x y z) := q2p (fun n1 n2 L xs g i A m B J wd o H => by
  unfold f_C_paired e_C_paired f_C_paired_p32 f_C_paired_p85 f_M_paired e_M_paired f_M_paired_p34
  have one : nI 1 = (1 : Int32) := rfl
  have n99 : nI 99 = (99 : Int32) := rfl
  have n4 : nI 4 = (4 : Int32) := rfl
  by_cases good : (∃ k, 1 ≤ k ∧ k ≤ 99 ∧ x = nI k) ∧ (∃ k, 1 ≤ k ∧ k ≤ 99 ∧ y = nI k) ∧ (∃ k, 1 ≤ k ∧ k ≤ 4 ∧ z = nI k)
  · obtain ⟨⟨M, M1, M9, rfl⟩, ⟨n, n1', n9, rfl⟩, ⟨k, k1, k4, rfl⟩⟩ := good
    have a1 : ¬ nI M < (1 : Int32) := nI_nlt (b := 1) (by omega) (by omega)
    have a2 : ¬ (99 : Int32) < nI M := nI_nlt (a := 99) (by omega) (by omega)
    have b1 : ¬ nI n < (1 : Int32) := nI_nlt (b := 1) (by omega) (by omega)
    have b2 : ¬ (99 : Int32) < nI n := nI_nlt (a := 99) (by omega) (by omega)
    have c1 : ¬ nI k < (1 : Int32) := nI_nlt (b := 1) (by omega) (by omega)
    have c2 : ¬ (4 : Int32) < nI k := nI_nlt (a := 4) (by omega) (by omega)
    have c3 : nI k ≤ (4 : Int32) := nI_le (b := 4) (by omega) (by omega)
    have hdk : n / k ≤ n := Nat.div_le_self n k
    have hm := Nat.mod_lt n (show 0 < k by omega)
    have hr : nI n - nI n / nI k * nI k = nI (n % k) := pk_rem (by omega) (by omega) (by omega)
    have hd : nI n / nI k = nI (n / k) := pk_div (by omega) (by omega) (by omega)
    refine ⟨if (nI (fb_sm (prt n k) k) * nI M) ≤ (nI k * nI (pr n)) then 0 else 1, ?_, up m 0 0, B, J, ?_, keep0 m B 0⟩
    · rw [sf8, if_neg a1, if_neg a2, if_neg b1, if_neg b2, if_neg c1, if_pos c3, if_neg (nI_ne0 (by omega) (by omega)), if_neg (nI_ne0 (by omega) (by omega)), hr, hd, nI_1, C_pairsOf (by omega), Option.bind_some, C_pairsOf (by omega), Option.bind_some, C_pairsOf (by omega), Option.bind_some]
      simp only []
      rw [pk_mul, pk_sub (show n % k ≤ k by omega), pk_mul, nI_add, ← prt_sum (by omega) k4]
      split <;> rfl
    · rw [sf51, wr51_0, Option.bind_some, M_isIn_t a1 a2, Option.bind_some, if_neg (show ¬ (1 : Int32) = 0 by decide), M_isIn_t b1 b2, Option.bind_some, if_neg (show ¬ (1 : Int32) = 0 by decide), M_isIn_t c1 c2, Option.bind_some, if_pos (show ¬ (1 : Int32) = 0 by decide)]
      have e := mpr_loop (n := n) (k := k) (M := M) (by omega) k4 n9 (mk n1 n2 L xs g i A (up m 0 0) B J wd o) k am_N 0 (by omega) (by unfold am_N; omega)
      have e' : f_M_paired_p42 am_N (nI M) (nI n) (nI k) 0 0 (mk n1 n2 L xs g i A (up m 0 0) B J wd o) = _ := e
      rw [e']
      split <;> rfl
  · refine ⟨-1, ?_, up m 0 0, B, J, ?_, keep0 m B 0⟩
    · rw [sf8]
      rcases in_case x (lo := 1) (hi := 99) (by decide) (by decide) with q | gx
      · rcases q with q | q
        · exact if_pos q
        · by_cases u : x < 1
          · exact if_pos u
          · rw [if_neg u]; exact if_pos q
      have x1 : ¬ x < 1 := by obtain ⟨k, k1, k2, rfl⟩ := gx; exact nI_nlt (b := 1) (by omega) (by omega)
      have x2 : ¬ (99 : Int32) < x := by obtain ⟨k, k1, k2, rfl⟩ := gx; exact nI_nlt (a := 99) (by omega) (by omega)
      rw [if_neg x1, if_neg x2]
      rcases in_case y (lo := 1) (hi := 99) (by decide) (by decide) with q | gy
      · rcases q with q | q
        · exact if_pos q
        · by_cases u : y < 1
          · exact if_pos u
          · rw [if_neg u]; exact if_pos q
      have y1 : ¬ y < 1 := by obtain ⟨k, k1, k2, rfl⟩ := gy; exact nI_nlt (b := 1) (by omega) (by omega)
      have y2 : ¬ (99 : Int32) < y := by obtain ⟨k, k1, k2, rfl⟩ := gy; exact nI_nlt (a := 99) (by omega) (by omega)
      rw [if_neg y1, if_neg y2]
      rcases in_case z (lo := 1) (hi := 4) (by decide) (by decide) with q | gz
      · rcases q with q | q
        · exact if_pos q
        · by_cases u : z < 1
          · exact if_pos u
          · rw [if_neg u]; exact if_neg ((fa_of_lt q).2.1)
      exact absurd ⟨gx, gy, gz⟩ good
    · rw [sf51, wr51_0, Option.bind_some]
      rcases in_case x (lo := 1) (hi := 99) (by decide) (by decide) with q | gx
      · rw [M_isIn_f (show x < 1 ∨ (99 : Int32) < x from q)]; rfl
      have x1 : ¬ x < 1 := by obtain ⟨k, k1, k2, rfl⟩ := gx; exact nI_nlt (b := 1) (by omega) (by omega)
      have x2 : ¬ (99 : Int32) < x := by obtain ⟨k, k1, k2, rfl⟩ := gx; exact nI_nlt (a := 99) (by omega) (by omega)
      rw [M_isIn_t x1 x2, Option.bind_some, if_neg (show ¬ (1 : Int32) = 0 by decide)]
      rcases in_case y (lo := 1) (hi := 99) (by decide) (by decide) with q | gy
      · rw [M_isIn_f (show y < 1 ∨ (99 : Int32) < y from q)]; rfl
      have y1 : ¬ y < 1 := by obtain ⟨k, k1, k2, rfl⟩ := gy; exact nI_nlt (b := 1) (by omega) (by omega)
      have y2 : ¬ (99 : Int32) < y := by obtain ⟨k, k1, k2, rfl⟩ := gy; exact nI_nlt (a := 99) (by omega) (by omega)
      rw [M_isIn_t y1 y2, Option.bind_some, if_neg (show ¬ (1 : Int32) = 0 by decide)]
      rcases in_case z (lo := 1) (hi := 4) (by decide) (by decide) with q | gz
      · rw [M_isIn_f (show z < 1 ∨ (4 : Int32) < z from q)]; rfl
      exact absurd ⟨gx, gy, gz⟩ good)
