/-! WHETHER DIFFERENCES LIE APART -/
def apI (n v : Nat) (b : Nat → Nat) (a : Nat) : Nat → Nat → Nat → Option Nat
  | 0, _, S => some S
  | d + 1, c, S => if a = c ∨ b a ≠ v ∨ b c ≠ v then apI n v b a d (c + 1) S else if S.testBit (dff n a c) then none else apI n v b a d (c + 1) (S ||| 2 ^ dff n a c)
def apO (n v : Nat) (b : Nat → Nat) : Nat → Nat → Nat → Bool
  | 0, _, _ => true
  | d + 1, a, S => match apI n v b a n 0 S with
    | none => false
    | some S' => apO n v b d (a + 1) S'
theorem apI_lt {n v : Nat} {b : Nat → Nat} {a : Nat} (hn : n ≤ 20) : ∀ d c S S', c + d = n → S < 2 ^ 20 → apI n v b a d c S = some S' → S' < 2 ^ 20 := by
  intro d
  induction d with
  | zero => intro c S S' _ hS e; cases e; exact hS
  | succ d ih =>
    intro c S S' hc hS e
    rw [apI] at e
    split at e
    · exact ih _ _ _ (by omega) hS e
    · split at e
      · cases e
      · refine ih _ _ _ (by omega) (Nat.or_lt_two_pow hS ?_) e
        have := dff_lt (n := n) (a := a) (b := c) (by omega)
        exact Nat.pow_lt_pow_right (by decide) (by omega)
theorem nI_bit1 {S d : Nat} (hS : S < 2 ^ 31) (hd : d < 32) : ((nI S >>> (nI d &&& 31)) &&& 1 = 1) ↔ S.testBit d = true := by
  have e : (nI S >>> (nI d &&& 31)) &&& 1 = nI (S / 2 ^ d % 2) := by
    rw [nI_shr hS hd]
    exact fa_mask _ 1
  rw [e, show (1 : Int32) = nI 1 from rfl, nI_eq (by omega) (by decide), Nat.testBit_eq_decide_div_mod_eq]
  simp
section APA
variable {n1 n2 L : Nat} {xs : Nat → Int32} {g : Nat → GR} {i : Nat → Int32} {A : Nat → Nat → Int32} {m : Nat → Int32} {B : Nat → Nat → Int32} {J : Nat → Int64} {wd : Int64} {o : Nat → Int64}
theorem cap_in {n v : Nat} {b : Nat → Nat} (hn : n ≤ 20) (hv : v ≤ 4) (hi : i 73 = nI n) (T : tpp n b (A 10) (B 52)) (k13 : Nat → Int32 → Int32 → Int32 → Int32 → am_W → Option (am_W × Int32)) {a : Nat} (ha : a < n) : ∀ d N c S, c + d = n → d < N → S < 2 ^ 20 → f_C_liesApart_p22 k13 N 8 (nI v) (nI n) (nI S) (nI a) (nI c) (mk n1 n2 L xs g i A m B J wd o) = match apI n v b a d c S with
      | none => some (mk n1 n2 L xs g i A m B J wd o, 0)
      | some S' => k13 8 (nI v) (nI n) (nI S') (nI (a + 1)) (mk n1 n2 L xs g i A m B J wd o) := by
  obtain ⟨a1, a2, -⟩ := T a ha
  intro d
  induction d with
  | zero =>
    intro N c S hc hN hS
    obtain ⟨N, rfl⟩ : ∃ m, N = m + 1 := ⟨N - 1, by omega⟩
    rw [f_C_liesApart_p22, if_pos (nI_le (by omega) (by omega)), apI, nI_1]
  | succ d ih =>
    intro N c S hc hN hS
    obtain ⟨N, rfl⟩ : ∃ m, N = m + 1 := ⟨N - 1, by omega⟩
    have hcn : c < n := by omega
    obtain ⟨c1, c2, -⟩ := T c hcn
    have hd := dff_lt (n := n) (a := a) (b := c) (by omega)
    have e84 : ∀ x, x = nI (dff n a c) → f_C_liesApart_p84 k13 (f_C_liesApart_p22 k13 N) 8 (nI v) (nI n) (nI S) (nI a) (nI c) 1 x (mk n1 n2 L xs g i A m B J wd o) = if S.testBit (dff n a c) then some (mk n1 n2 L xs g i A m B J wd o, 0) else f_C_liesApart_p22 k13 N 8 (nI v) (nI n) (nI (S ||| 2 ^ dff n a c)) (nI a) (nI (c + 1)) (mk n1 n2 L xs g i A m B J wd o) := by
      intro x hx
      unfold f_C_liesApart_p84 f_C_liesApart_p101
      rw [hx, nI_shl1 (by omega), fa_or, nI_1]
      by_cases z : S.testBit (dff n a c) = true
      · rw [if_pos z, if_neg (by rw [fa_bit (by omega), z]; decide)]
      · rw [if_neg z, if_pos (by rw [fa_bit (by omega)]; exact Bool.eq_false_iff.mpr z)]
    rw [f_C_liesApart_p22, if_neg (nI_ge hcn (by omega)), apI]
    by_cases z0 : a = c
    · rw [if_pos (by rw [z0]), if_pos (Or.inl z0)]
      unfold f_C_liesApart_p101
      rw [nI_1]
      exact ih N (c + 1) S (by omega) (by omega) hS
    · rw [if_neg (by rw [nI_eq (by omega) (by omega)]; exact z0), rd8_0, Option.bind_some, T_byteAt (by omega) hi ha, Option.bind_some, a2]
      by_cases z1 : b a = v
      · rw [if_neg (by rw [z1]; exact fun q => q rfl), rd8_0, Option.bind_some, T_byteAt (by omega) hi hcn, Option.bind_some, c2]
        by_cases z2 : b c = v
        · rw [if_neg (by rw [z2]; exact fun q => q rfl), if_neg (show ¬ (a = c ∨ b a ≠ v ∨ b c ≠ v) by rintro (q | q | q); exact z0 q; exact q z1; exact q z2)]
          have hor : S ||| 2 ^ dff n a c < 2 ^ 20 := Nat.or_lt_two_pow hS (Nat.pow_lt_pow_right (by decide) (by omega))
          have fin : (if S.testBit (dff n a c) then some (mk n1 n2 L xs g i A m B J wd o, (0 : Int32)) else f_C_liesApart_p22 k13 N 8 (nI v) (nI n) (nI (S ||| 2 ^ dff n a c)) (nI a) (nI (c + 1)) (mk n1 n2 L xs g i A m B J wd o)) = match (if S.testBit (dff n a c) then none else apI n v b a d (c + 1) (S ||| 2 ^ dff n a c)) with
              | none => some (mk n1 n2 L xs g i A m B J wd o, 0)
              | some S' => k13 8 (nI v) (nI n) (nI S') (nI (a + 1)) (mk n1 n2 L xs g i A m B J wd o) := by
            by_cases z : S.testBit (dff n a c) = true
            · rw [if_pos z, if_pos z]
            · rw [if_neg z, if_neg z]
              exact ih N (c + 1) _ (by omega) (by omega) hor
          by_cases z3 : a < c
          · rw [if_pos (nI_lt z3 (by omega)), e84 _ (dff_c1 z3 hcn)]
            exact fin
          · rw [if_neg (nI_nlt (by omega) (by omega)), e84 _ (dff_c2 (by omega) ha)]
            exact fin
        · rw [if_pos (by rw [nI_eq (by omega) (by omega)]; exact z2), if_pos (show a = c ∨ b a ≠ v ∨ b c ≠ v from Or.inr (Or.inr z2))]
          unfold f_C_liesApart_p101
          rw [nI_1]
          exact ih N (c + 1) S (by omega) (by omega) hS
      · rw [if_pos (by rw [nI_eq (by omega) (by omega)]; exact z1), if_pos (show a = c ∨ b a ≠ v ∨ b c ≠ v from Or.inr (Or.inl z1))]
        unfold f_C_liesApart_p101
        rw [nI_1]
        exact ih N (c + 1) S (by omega) (by omega) hS
theorem cap_out {n v : Nat} {b : Nat → Nat} (hn : n ≤ 20) (hv : v ≤ 4) (hi : i 73 = nI n) (T : tpp n b (A 10) (B 52)) : ∀ d N a S, a + d = n → d < N → S < 2 ^ 20 → f_C_liesApart_p13 N 8 (nI v) (nI n) (nI S) (nI a) (mk n1 n2 L xs g i A m B J wd o) = some (mk n1 n2 L xs g i A m B J wd o, if apO n v b d a S then 1 else 0) := by
  intro d
  induction d with
  | zero =>
    intro N a S hc hN hS
    obtain ⟨N, rfl⟩ : ∃ m, N = m + 1 := ⟨N - 1, by omega⟩
    rw [f_C_liesApart_p13, if_pos (nI_le (by omega) (by omega)), apO]
    rfl
  | succ d ih =>
    intro N a S hc hN hS
    obtain ⟨N, rfl⟩ : ∃ m, N = m + 1 := ⟨N - 1, by omega⟩
    have e := cap_in (n1 := n1) (n2 := n2) (L := L) (xs := xs) (g := g) (m := m) (J := J) (wd := wd) (o := o) hn hv hi T (f_C_liesApart_p13 N) (a := a) (by omega) n am_N 0 S (by omega) (by unfold am_N; omega) hS
    rw [f_C_liesApart_p13, if_neg (nI_ge (by omega) (by omega)), apO]
    have e' : f_C_liesApart_p22 (f_C_liesApart_p13 N) am_N 8 (nI v) (nI n) (nI S) (nI a) 0 (mk n1 n2 L xs g i A m B J wd o) = _ := e
    rw [e']
    cases hq : apI n v b a n 0 S with
    | none => rfl
    | some S' => exact ih N (a + 1) S' (by omega) (by omega) (apI_lt hn n 0 S S' (by omega) hS hq)
theorem C_liesApart {n v : Nat} {b : Nat → Nat} (hn : n ≤ 20) (hv : v ≤ 4) (hi : i 73 = nI n) (T : tpp n b (A 10) (B 52)) : f_C_liesApart 8 (nI v) (mk n1 n2 L xs g i A m B J wd o) = some (mk n1 n2 L xs g i A m B J wd o, if apO n v b n 0 0 then 1 else 0) := by
  unfold f_C_liesApart e_C_liesApart
  rw [sf8, rd8_0, Option.bind_some, T_length, Option.bind_some, hi]
  exact cap_out hn hv hi T n am_N 0 0 (by omega) (by unfold am_N; omega) (by decide)
theorem map_in {n v : Nat} {b : Nat → Nat} (hn : n ≤ 20) (hv : v ≤ 4) (T : tpp n b (A 10) (B 52)) (k13 : Nat → Int32 → Int32 → Int32 → Int32 → am_W → Option (am_W × Int32)) {a : Nat} (ha : a < n) : ∀ d N c S, c + d = n → d < N → S < 2 ^ 20 → f_M_isApart_p14 k13 N 51 (nI v) (nI n) (nI S) (nI a) (nI c) (mk n1 n2 L xs g i A m B J wd o) = match apI n v b a d c S with
      | none => some (mk n1 n2 L xs g i A m B J wd o, 0)
      | some S' => k13 51 (nI v) (nI n) (nI S') (nI (a + 1)) (mk n1 n2 L xs g i A m B J wd o) := by
  obtain ⟨a1, -, a2⟩ := T a ha
  intro d
  induction d with
  | zero =>
    intro N c S hc hN hS
    obtain ⟨N, rfl⟩ : ∃ m, N = m + 1 := ⟨N - 1, by omega⟩
    rw [f_M_isApart_p14, if_pos (nI_le (by omega) (by omega)), apI, nI_1]
  | succ d ih =>
    intro N c S hc hN hS
    obtain ⟨N, rfl⟩ : ∃ m, N = m + 1 := ⟨N - 1, by omega⟩
    have hcn : c < n := by omega
    obtain ⟨c1, -, c2⟩ := T c hcn
    have hd := dff_lt (n := n) (a := a) (b := c) (by omega)
    rw [f_M_isApart_p14, if_neg (nI_ge hcn (by omega)), apI]
    unfold f_M_isApart_p82
    by_cases z0 : a = c
    · rw [if_pos (by rw [z0]), if_pos (Or.inl z0), nI_1]
      exact ih N (c + 1) S (by omega) (by omega) hS
    · rw [if_neg (by rw [nI_eq (by omega) (by omega)]; exact z0), rd51_1, Option.bind_some, r_ai ar52 (by omega) (by decide), Option.bind_some, a2]
      by_cases z1 : b a = v
      · rw [if_neg (by rw [z1]; exact fun q => q rfl), Option.bind_some, r_ai ar52 (by omega) (by decide), Option.bind_some, c2]
        by_cases z2 : b c = v
        · rw [if_pos (by rw [z2]), if_neg (nI_ne0 (by omega) (by omega)), dff_m (by omega) ha hcn (by omega), nI_shl1 (by omega), fa_or, nI_1, if_neg (show ¬ (a = c ∨ b a ≠ v ∨ b c ≠ v) by rintro (q | q | q); exact z0 q; exact q z1; exact q z2)]
          have hor : S ||| 2 ^ dff n a c < 2 ^ 20 := Nat.or_lt_two_pow hS (Nat.pow_lt_pow_right (by decide) (by omega))
          by_cases z : S.testBit (dff n a c) = true
          · rw [if_pos z, if_neg (by rw [nI_bit1 (by omega) (by omega)]; exact fun q => q z)]
          · rw [if_neg z, if_pos (by rw [nI_bit1 (by omega) (by omega)]; exact z)]
            exact ih N (c + 1) _ (by omega) (by omega) hor
        · rw [if_neg (by rw [nI_eq (by omega) (by omega)]; exact z2), if_pos (show a = c ∨ b a ≠ v ∨ b c ≠ v from Or.inr (Or.inr z2)), nI_1]
          exact ih N (c + 1) S (by omega) (by omega) hS
      · rw [if_pos (by rw [nI_eq (by omega) (by omega)]; exact z1), if_pos (show a = c ∨ b a ≠ v ∨ b c ≠ v from Or.inr (Or.inl z1)), nI_1]
        exact ih N (c + 1) S (by omega) (by omega) hS
theorem map_out {n v : Nat} {b : Nat → Nat} (hn : n ≤ 20) (hv : v ≤ 4) (T : tpp n b (A 10) (B 52)) : ∀ d N a S, a + d = n → d < N → S < 2 ^ 20 → f_M_isApart_p5 N 51 (nI v) (nI n) (nI S) (nI a) (mk n1 n2 L xs g i A m B J wd o) = some (mk n1 n2 L xs g i A m B J wd o, if apO n v b d a S then 1 else 0) := by
  intro d
  induction d with
  | zero =>
    intro N a S hc hN hS
    obtain ⟨N, rfl⟩ : ∃ m, N = m + 1 := ⟨N - 1, by omega⟩
    rw [f_M_isApart_p5, if_pos (nI_le (by omega) (by omega)), apO]
    rfl
  | succ d ih =>
    intro N a S hc hN hS
    obtain ⟨N, rfl⟩ : ∃ m, N = m + 1 := ⟨N - 1, by omega⟩
    have e := map_in (n1 := n1) (n2 := n2) (L := L) (xs := xs) (g := g) (i := i) (m := m) (J := J) (wd := wd) (o := o) hn hv T (f_M_isApart_p5 N) (a := a) (by omega) n am_N 0 S (by omega) (by unfold am_N; omega) hS
    rw [f_M_isApart_p5, if_neg (nI_ge (by omega) (by omega)), apO]
    have e' : f_M_isApart_p14 (f_M_isApart_p5 N) am_N 51 (nI v) (nI n) (nI S) (nI a) 0 (mk n1 n2 L xs g i A m B J wd o) = _ := e
    rw [e']
    cases hq : apI n v b a n 0 S with
    | none => rfl
    | some S' => exact ih N (a + 1) S' (by omega) (by omega) (apI_lt hn n 0 S S' (by omega) hS hq)
theorem M_isApart {n v : Nat} {b : Nat → Nat} (hn : n ≤ 20) (hv : v ≤ 4) (T : tpp n b (A 10) (B 52)) : f_M_isApart 51 (nI v) (nI n) (mk n1 n2 L xs g i A m B J wd o) = some (mk n1 n2 L xs g i A m B J wd o, if apO n v b n 0 0 then 1 else 0) := by
  unfold f_M_isApart e_M_isApart
  rw [sf51]
  exact map_out hn hv T n am_N 0 0 (by omega) (by unfold am_N; omega) (by decide)
/-- the set of colours that lie apart, as both loops make it -/
def apS (n : Nat) (b : Nat → Nat) : Nat → Nat → Int32 → Int32
  | 0, _, x => x
  | d + 1, c, x => apS n b d (c + 1) (if apO n c b n 0 0 then x ||| (1 <<< ((nI c - 1) &&& 31)) else x)
theorem cap_col {n : Nat} {b : Nat → Nat} (hn : n ≤ 20) (hi : i 73 = nI n) (T : tpp n b (A 10) (B 52)) : ∀ d N c x, c + d = 5 → 1 ≤ c → d < N → f_C_apart_p45 N 8 1 x (nI c) (mk n1 n2 L xs g i A m B J wd o) = some (mk n1 n2 L xs g (up i 73 0) A m B J wd o, apS n b d c x) := by
  intro d
  induction d with
  | zero =>
    intro N c x hc h1 hN
    obtain ⟨N, rfl⟩ : ∃ m, N = m + 1 := ⟨N - 1, by omega⟩
    have q : (4 : Int32) < nI c := nI_lt (a := 4) (by omega) (by omega)
    rw [f_C_apart_p45, if_neg (show ¬ (1 : Int32) = 0 by decide), if_pos q, apS]
    unfold f_C_apart_p76
    rw [rd8_0, Option.bind_some, T_cut0 (by omega) hi, Option.bind_some, if_neg (show ¬ (1 : Int32) = 0 by decide)]
    rfl
  | succ d ih =>
    intro N c x hc h1 hN
    obtain ⟨N, rfl⟩ : ∃ m, N = m + 1 := ⟨N - 1, by omega⟩
    have q : ¬ (4 : Int32) < nI c := nI_nlt (a := 4) (by omega) (by omega)
    rw [f_C_apart_p45, if_neg (show ¬ (1 : Int32) = 0 by decide), if_neg q, C_liesApart hn (by omega) hi T, Option.bind_some, apS]
    unfold f_C_apart_p70
    rw [nI_1]
    by_cases z : apO n c b n 0 0 = true
    · rw [if_pos z, if_neg (show ¬ (1 : Int32) = 0 by decide), if_pos z]
      exact ih N (c + 1) _ (by omega) (by omega) (by omega)
    · rw [if_neg z, if_pos rfl, if_neg z]
      exact ih N (c + 1) _ (by omega) (by omega) (by omega)
theorem map_col {n : Nat} {b : Nat → Nat} (hn : n ≤ 20) (T : tpp n b (A 10) (B 52)) : ∀ d N c x, c + d = 5 → 1 ≤ c → d < N → f_M_apart_p60 N 51 (nI n) x (nI c) (mk n1 n2 L xs g i A m B J wd o) = some (mk n1 n2 L xs g i A m B J wd o, apS n b d c x) := by
  intro d
  induction d with
  | zero =>
    intro N c x hc h1 hN
    obtain ⟨N, rfl⟩ : ∃ m, N = m + 1 := ⟨N - 1, by omega⟩
    have q : (4 : Int32) < nI c := nI_lt (a := 4) (by omega) (by omega)
    rw [f_M_apart_p60, if_pos q, apS]
  | succ d ih =>
    intro N c x hc h1 hN
    obtain ⟨N, rfl⟩ : ∃ m, N = m + 1 := ⟨N - 1, by omega⟩
    have q : ¬ (4 : Int32) < nI c := nI_nlt (a := 4) (by omega) (by omega)
    rw [f_M_apart_p60, if_neg q, M_isApart hn (by omega) T, Option.bind_some, apS]
    unfold f_M_apart_p82
    rw [nI_1]
    by_cases z : apO n c b n 0 0 = true
    · rw [if_pos z, if_neg (show ¬ (1 : Int32) = 0 by decide), if_pos z]
      exact ih N (c + 1) _ (by omega) (by omega) (by omega)
    · rw [if_neg z, if_pos rfl, if_neg z]
      exact ih N (c + 1) _ (by omega) (by omega) (by omega)
/-- the model's look at the bytes -/
theorem map_chk {n : Nat} {b : Nat → Nat} (hn : n ≤ 20) (T : tpp n b (A 10) (B 52)) : ∀ d N j, j + d = n → d < N → ((∀ k, j ≤ k → k < n → 1 ≤ b k ∧ b k ≤ 4) → f_M_apart_p29 N 51 (nI n) (nI j) (mk n1 n2 L xs g i A m B J wd o) = some (mk n1 n2 L xs g i A m B J wd o, apS n b 4 1 0)) ∧ ((∃ k, j ≤ k ∧ k < n ∧ ¬ (1 ≤ b k ∧ b k ≤ 4)) → f_M_apart_p29 N 51 (nI n) (nI j) (mk n1 n2 L xs g i A m B J wd o) = some (mk n1 n2 L xs g i A m B J wd o, -1)) := by
  intro d
  induction d with
  | zero =>
    intro N j hj hN
    obtain ⟨N, rfl⟩ : ∃ m, N = m + 1 := ⟨N - 1, by omega⟩
    refine ⟨fun _ => ?_, fun ⟨k, k1, k2, _⟩ => by omega⟩
    rw [f_M_apart_p29, if_pos (nI_le (by omega) (by omega))]
    exact map_col hn T 4 am_N 1 0 (by omega) (by omega) (by unfold am_N; omega)
  | succ d ih =>
    intro N j hj hN
    obtain ⟨N, rfl⟩ : ∃ m, N = m + 1 := ⟨N - 1, by omega⟩
    obtain ⟨b1, -, b2⟩ := T j (by omega)
    obtain ⟨i1, i2⟩ := ih N (j + 1) (by omega) (by omega)
    rw [f_M_apart_p29, if_neg (nI_ge (by omega) (by omega)), rd51_1, Option.bind_some, r_ai ar52 (by omega) (by decide), Option.bind_some, b2]
    by_cases z : 1 ≤ b j ∧ b j ≤ 4
    · rw [M_isIn_t (show ¬ nI (b j) < (1 : Int32) from nI_nlt (b := 1) (by omega) (by omega)) (show ¬ (4 : Int32) < nI (b j) from nI_nlt (a := 4) (by omega) (by omega)), Option.bind_some, if_pos (show ¬ (1 : Int32) = 0 by decide), nI_1]
      refine ⟨fun hall => i1 (fun k k1 k2 => hall k (by omega) k2), fun ⟨k, k1, k2, k3⟩ => i2 ⟨k, ?_, k2, k3⟩⟩
      by_cases y : k = j
      · subst y; exact absurd z k3
      · omega
    · have q : nI (b j) < (1 : Int32) ∨ (4 : Int32) < nI (b j) := by
        rcases (show b j < 1 ∨ 4 < b j by omega) with q | q
        · exact Or.inl (nI_lt (b := 1) q (by decide))
        · exact Or.inr (nI_lt (a := 4) q (by omega))
      rw [M_isIn_f q]
      exact ⟨fun hall => absurd (hall j (by omega) (by omega)) z, fun _ => rfl⟩
end APA
theorem p_apart : pOk (f_C_apart 8) (f_M_apart 51) := by
  intro n1 n2 L xs g i A m B J wd o H
  obtain ⟨-, -, ⟨t, b, ht, t1, t2, T⟩, -⟩ := id H
  have T0 : tpp t b (A 10) (B 52) := T
  have HI' : INV g (up i 73 0) A (up (up m 0 0) 2 0) B := INV_tape H (TI_of (t := 0) (b := b) (by omega) (up_s _ _ _) (up_s _ _ _) (fun j hj => by omega)) (fun a h => up_n _ _ h) (fun a h => rfl) (fun a h1 h2 => by rw [up_n _ _ h2, up_n _ _ h1]) (fun a h => rfl)
  have e2 : up m 0 0 2 = nI t := by rw [up_n _ _ (by decide), t2]
  have cbad : f_C_apart_p45 am_N 8 0 0 1 (mk n1 n2 L xs g i A m B J wd o) = some (mk n1 n2 L xs g (up i 73 0) A m B J wd o, -1) := by
    unfold am_N
    rw [f_C_apart_p45, if_pos rfl]
    unfold f_C_apart_p76
    rw [rd8_0, Option.bind_some, T_cut0 ht t1, Option.bind_some, if_pos rfl]
    rfl
  unfold f_C_apart e_C_apart f_C_apart_p39 f_C_apart_p40 f_M_apart e_M_apart
  by_cases q : 1 ≤ t ∧ t ≤ 20
  · have q1 : ¬ nI t < (1 : Int32) := nI_nlt (b := 1) (by omega) (by omega)
    have q2 : ¬ (20 : Int32) < nI t := nI_nlt (a := 20) (by omega) (by omega)
    rcases T_holdsOnly (n1 := n1) (n2 := n2) (L := L) (xs := xs) (g := g) (m := m) (B := B) (J := J) (wd := wd) (o := o) (lo := 1) (hi' := 4) ht t1 T0 (by decide) (by decide) with ⟨a, e⟩ | ⟨⟨k, k1, k2⟩, e⟩
    · refine ⟨apS t b 4 1 0, g, up i 73 0, A, ?_, up (up m 0 0) 2 0, B, J, wd, ?_, HI'⟩
      · have e' : f_T_holdsOnly 9 1 4 (mk n1 n2 L xs g i A m B J wd o) = _ := e
        rw [sf8, rd8_0, Option.bind_some, T_length, Option.bind_some, t1, if_neg q1, rd8_0, Option.bind_some, T_length, Option.bind_some, t1, if_neg q2, rd8_0, Option.bind_some, e', Option.bind_some, if_neg (show ¬ (1 : Int32) = 0 by decide)]
        exact cap_col q.2 t1 T0 4 am_N 1 0 (by omega) (by omega) (by unfold am_N; omega)
      · rw [sf51, wr51_0, Option.bind_some, rd51_2, Option.bind_some, e2, wr51_2, Option.bind_some, M_isIn_t q1 q2, Option.bind_some, if_pos (show ¬ (1 : Int32) = 0 by decide)]
        exact (map_chk q.2 T0 t am_N 0 (by omega) (by unfold am_N; omega)).1 (fun k _ hk => a k hk)
    · refine ⟨-1, g, up i 73 0, A, ?_, up (up m 0 0) 2 0, B, J, wd, ?_, HI'⟩
      · have e' : f_T_holdsOnly 9 1 4 (mk n1 n2 L xs g i A m B J wd o) = _ := e
        rw [sf8, rd8_0, Option.bind_some, T_length, Option.bind_some, t1, if_neg q1, rd8_0, Option.bind_some, T_length, Option.bind_some, t1, if_neg q2, rd8_0, Option.bind_some, e', Option.bind_some, if_pos rfl]
        exact cbad
      · rw [sf51, wr51_0, Option.bind_some, rd51_2, Option.bind_some, e2, wr51_2, Option.bind_some, M_isIn_t q1 q2, Option.bind_some, if_pos (show ¬ (1 : Int32) = 0 by decide)]
        exact (map_chk q.2 T0 t am_N 0 (by omega) (by unfold am_N; omega)).2 ⟨k, Nat.zero_le _, k1, k2⟩
  · have q' : nI t < (1 : Int32) ∨ (20 : Int32) < nI t := by
      rcases (show t < 1 ∨ 20 < t by omega) with q | q
      · exact Or.inl (nI_lt (b := 1) q (by decide))
      · exact Or.inr (nI_lt (a := 20) q (by omega))
    refine ⟨-1, g, up i 73 0, A, ?_, up (up m 0 0) 2 0, B, J, wd, ?_, HI'⟩
    · rw [sf8, rd8_0, Option.bind_some, T_length, Option.bind_some, t1]
      by_cases y : nI t < (1 : Int32)
      · rw [if_pos y]
        exact cbad
      · rw [if_neg y, rd8_0, Option.bind_some, T_length, Option.bind_some, t1, if_pos (by rcases q' with z | z; exact absurd z y; exact z)]
        exact cbad
    · rw [sf51, wr51_0, Option.bind_some, rd51_2, Option.bind_some, e2, wr51_2, Option.bind_some, M_isIn_f q']
      rfl
