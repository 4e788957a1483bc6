/-! THE MODEL'S MENDS -/
theorem and2z {X c : Nat} (h : X.testBit c = false) : X &&& 2 ^ c = 0 := by
  rcases Nat.eq_zero_or_pos (X &&& 2 ^ c) with z | z
  · exact z
  · obtain ⟨k, k1, k2⟩ := and_ne0.mp (Nat.pos_iff_ne_zero.mp z)
    rw [Nat.testBit_two_pow, decide_eq_true_iff] at k2
    subst k2
    rw [h] at k1
    cases k1
theorem or_sum {X c : Nat} (h : X.testBit c = false) : X ||| 2 ^ c = X + 2 ^ c := and0_add X X _ (Nat.le_refl _) (and2z h)
theorem two_sum {a b : Nat} (h : b < a) : 2 ^ a ||| 2 ^ b = 2 ^ a + 2 ^ b := or_sum (by rw [Nat.testBit_two_pow]; exact decide_eq_false (by omega))
theorem three_sum {a b c : Nat} (h : b < a) (h2 : c < b) : 2 ^ a ||| 2 ^ b ||| 2 ^ c = 2 ^ a + 2 ^ b + 2 ^ c := by
  rw [or_sum (by rw [or_bit, Nat.testBit_two_pow]; simp; omega), two_sum h]
theorem pw {a b : Nat} (h : a < b) : 2 * 2 ^ a ≤ 2 ^ b := by
  have : 2 ^ (a + 1) ≤ 2 ^ b := Nat.pow_le_pow_right (by decide) h
  rw [Nat.pow_succ] at this
  omega
theorem lex2 {a b a' b' : Nat} (h : b < a) (h' : b' < a') (l : a < a' ∨ (a = a' ∧ b ≤ b')) : 2 ^ a ||| 2 ^ b ≤ 2 ^ a' ||| 2 ^ b' := by
  rw [two_sum h, two_sum h']
  have p1 := pw h
  have q1 := Nat.two_pow_pos b'
  rcases l with l | ⟨rfl, l⟩
  · have p2 := pw l
    omega
  · have : 2 ^ b ≤ 2 ^ b' := Nat.pow_le_pow_right (by decide) l
    omega
theorem lex3 {a b c a' b' c' : Nat} (h : b < a) (h2 : c < b) (h' : b' < a') (h2' : c' < b') (l : a < a' ∨ (a = a' ∧ (b < b' ∨ (b = b' ∧ c ≤ c')))) : 2 ^ a ||| 2 ^ b ||| 2 ^ c ≤ 2 ^ a' ||| 2 ^ b' ||| 2 ^ c' := by
  rw [three_sum h h2, three_sum h' h2']
  have q1 := Nat.two_pow_pos b'
  have q2 := Nat.two_pow_pos c'
  have p1 := pw h
  have p2 := pw h2
  rcases l with l | ⟨rfl, l | ⟨rfl, l⟩⟩
  · have p3 := pw l
    omega
  · have p3 := pw l
    omega
  · have : 2 ^ c ≤ 2 ^ c' := Nat.pow_le_pow_right (by decide) l
    omega
section MEB
variable {MT : Nat → Prop} {w : am_W}
theorem md1 (HM : ∀ X, X < 2 ^ 64 → (MT X ∧ f_M_meets 51 (lN X) w = some (w, 1)) ∨ (¬ MT X ∧ f_M_meets 51 (lN X) w = some (w, 0))) {n : Nat} (hn : n ≤ 64) : ∀ d N a, a + d = n → d < N → (∀ a', a' < a → ¬ MT (2 ^ a')) → (∃ a0, a0 < n ∧ MT (2 ^ a0) ∧ (∀ a', a' < a0 → ¬ MT (2 ^ a')) ∧ f_M_mend_p26 N 51 (nI n) (nI a) w = some (w, lN (2 ^ a0))) ∨ ((∀ a', a' < n → ¬ MT (2 ^ a')) ∧ f_M_mend_p26 N 51 (nI n) (nI a) w = f_M_mend_p53 am_N 51 (nI n) 1 w) := by
  intro d
  induction d with
  | zero =>
    intro N a ha hN hno
    obtain ⟨N, rfl⟩ : ∃ m, N = m + 1 := ⟨N - 1, by omega⟩
    refine Or.inr ⟨fun a' h => hno a' (by omega), ?_⟩
    rw [f_M_mend_p26, if_pos (nI_le (by omega) (by omega))]
  | succ d ih =>
    intro N a ha hN hno
    obtain ⟨N, rfl⟩ : ∃ m, N = m + 1 := ⟨N - 1, by omega⟩
    rw [f_M_mend_p26, if_neg (nI_ge (by omega) (by omega)), lN_shl1 (by omega)]
    rcases HM (2 ^ a) (Nat.pow_lt_pow_right (by decide) (by omega)) with ⟨y, e⟩ | ⟨y, e⟩
    · rw [e, Option.bind_some, if_neg (show ¬ (1 : Int32) = 0 by decide)]
      exact Or.inl ⟨a, by omega, y, hno, rfl⟩
    · rw [e, Option.bind_some, if_pos rfl, nI_1]
      refine ih N (a + 1) (by omega) (by omega) (fun a' h => ?_)
      by_cases z : a' = a
      · subst z; exact y
      · exact hno a' (by omega)
theorem md2i (HM : ∀ X, X < 2 ^ 64 → (MT X ∧ f_M_meets 51 (lN X) w = some (w, 1)) ∨ (¬ MT X ∧ f_M_meets 51 (lN X) w = some (w, 0))) {n a : Nat} (hn : n ≤ 64) (ha : a < n) (k53 : Nat → Int32 → Int32 → am_W → Option (am_W × Int64)) : ∀ d N b, b + d = a → d < N → (∀ b', b' < b → ¬ MT (2 ^ a ||| 2 ^ b')) → (∃ b0, b0 < a ∧ MT (2 ^ a ||| 2 ^ b0) ∧ (∀ b', b' < b0 → ¬ MT (2 ^ a ||| 2 ^ b')) ∧ f_M_mend_p60 k53 N 51 (nI n) (nI a) (nI b) w = some (w, lN (2 ^ a ||| 2 ^ b0))) ∨ ((∀ b', b' < a → ¬ MT (2 ^ a ||| 2 ^ b')) ∧ f_M_mend_p60 k53 N 51 (nI n) (nI a) (nI b) w = k53 51 (nI n) (nI (a + 1)) w) := by
  have pa : 2 ^ a < 2 ^ 64 := Nat.pow_lt_pow_right (by decide) (by omega)
  intro d
  induction d with
  | zero =>
    intro N b hb hN hno
    obtain ⟨N, rfl⟩ : ∃ m, N = m + 1 := ⟨N - 1, by omega⟩
    refine Or.inr ⟨fun a' h => hno a' (by omega), ?_⟩
    rw [f_M_mend_p60, if_pos (nI_le (by omega) (by omega)), nI_1]
  | succ d ih =>
    intro N b hb hN hno
    obtain ⟨N, rfl⟩ : ∃ m, N = m + 1 := ⟨N - 1, by omega⟩
    have pb : 2 ^ b < 2 ^ 64 := Nat.pow_lt_pow_right (by decide) (by omega)
    rw [f_M_mend_p60, if_neg (nI_ge (by omega) (by omega)), lN_shl1 (by omega), lN_shl1 (by omega), wb_or pa pb]
    rcases HM (2 ^ a ||| 2 ^ b) (Nat.or_lt_two_pow pa pb) with ⟨y, e⟩ | ⟨y, e⟩
    · rw [e, Option.bind_some, if_neg (show ¬ (1 : Int32) = 0 by decide)]
      exact Or.inl ⟨b, by omega, y, hno, rfl⟩
    · rw [e, Option.bind_some, if_pos rfl, nI_1]
      refine ih N (b + 1) (by omega) (by omega) (fun a' h => ?_)
      by_cases z : a' = b
      · subst z; exact y
      · exact hno a' (by omega)
theorem md2 (HM : ∀ X, X < 2 ^ 64 → (MT X ∧ f_M_meets 51 (lN X) w = some (w, 1)) ∨ (¬ MT X ∧ f_M_meets 51 (lN X) w = some (w, 0))) {n : Nat} (hn : n ≤ 64) : ∀ d N a, a + d = n → d < N → (∀ a' b', a' < a → b' < a' → ¬ MT (2 ^ a' ||| 2 ^ b')) → (∃ a0 b0, b0 < a0 ∧ a0 < n ∧ MT (2 ^ a0 ||| 2 ^ b0) ∧ (∀ a' b', a' < a0 → b' < a' → ¬ MT (2 ^ a' ||| 2 ^ b')) ∧ (∀ b', b' < b0 → ¬ MT (2 ^ a0 ||| 2 ^ b')) ∧ f_M_mend_p53 N 51 (nI n) (nI a) w = some (w, lN (2 ^ a0 ||| 2 ^ b0))) ∨ ((∀ a' b', a' < n → b' < a' → ¬ MT (2 ^ a' ||| 2 ^ b')) ∧ f_M_mend_p53 N 51 (nI n) (nI a) w = f_M_mend_p101 am_N 51 (nI n) 2 w) := by
  intro d
  induction d with
  | zero =>
    intro N a ha hN hno
    obtain ⟨N, rfl⟩ : ∃ m, N = m + 1 := ⟨N - 1, by omega⟩
    refine Or.inr ⟨fun a' b' h => hno a' b' (by omega), ?_⟩
    rw [f_M_mend_p53, if_pos (nI_le (by omega) (by omega))]
  | succ d ih =>
    intro N a ha hN hno
    obtain ⟨N, rfl⟩ : ∃ m, N = m + 1 := ⟨N - 1, by omega⟩
    rw [f_M_mend_p53, if_neg (nI_ge (by omega) (by omega))]
    rcases md2i HM hn (show a < n by omega) (f_M_mend_p53 N) a am_N 0 (by omega) (by unfold am_N; omega) (fun b' h => by omega) with ⟨b0, y1, y2, y3, e⟩ | ⟨y, e⟩
    · exact Or.inl ⟨a, b0, y1, by omega, y2, hno, y3, e⟩
    · have e' : f_M_mend_p60 (f_M_mend_p53 N) am_N 51 (nI n) (nI a) 0 w = _ := e
      rw [e']
      refine ih N (a + 1) (by omega) (by omega) (fun a' b' h h' => ?_)
      by_cases z : a' = a
      · subst z; exact y b' h'
      · exact hno a' b' (by omega) h'
theorem md3i (HM : ∀ X, X < 2 ^ 64 → (MT X ∧ f_M_meets 51 (lN X) w = some (w, 1)) ∨ (¬ MT X ∧ f_M_meets 51 (lN X) w = some (w, 0))) {n a b : Nat} (hn : n ≤ 64) (ha : a < n) (hb : b < a) (k101 : Nat → Int32 → Int32 → am_W → Option (am_W × Int64)) (k108 : Nat → Int32 → Int32 → Int32 → am_W → Option (am_W × Int64)) : ∀ d N c, c + d = b → d < N → (∀ c', c' < c → ¬ MT (2 ^ a ||| 2 ^ b ||| 2 ^ c')) → (∃ c0, c0 < b ∧ MT (2 ^ a ||| 2 ^ b ||| 2 ^ c0) ∧ (∀ c', c' < c0 → ¬ MT (2 ^ a ||| 2 ^ b ||| 2 ^ c')) ∧ f_M_mend_p116 k101 k108 N 51 (nI n) (nI a) (nI b) (nI c) w = some (w, lN (2 ^ a ||| 2 ^ b ||| 2 ^ c0))) ∨ ((∀ c', c' < b → ¬ MT (2 ^ a ||| 2 ^ b ||| 2 ^ c')) ∧ f_M_mend_p116 k101 k108 N 51 (nI n) (nI a) (nI b) (nI c) w = k108 51 (nI n) (nI a) (nI (b + 1)) w) := by
  have pa : 2 ^ a < 2 ^ 64 := Nat.pow_lt_pow_right (by decide) (by omega)
  have pb : 2 ^ b < 2 ^ 64 := Nat.pow_lt_pow_right (by decide) (by omega)
  have pab : 2 ^ a ||| 2 ^ b < 2 ^ 64 := Nat.or_lt_two_pow pa pb
  intro d
  induction d with
  | zero =>
    intro N c hc hN hno
    obtain ⟨N, rfl⟩ : ∃ m, N = m + 1 := ⟨N - 1, by omega⟩
    refine Or.inr ⟨fun a' h => hno a' (by omega), ?_⟩
    rw [f_M_mend_p116, if_pos (nI_le (by omega) (by omega)), nI_1]
  | succ d ih =>
    intro N c hc hN hno
    obtain ⟨N, rfl⟩ : ∃ m, N = m + 1 := ⟨N - 1, by omega⟩
    have pc : 2 ^ c < 2 ^ 64 := Nat.pow_lt_pow_right (by decide) (by omega)
    rw [f_M_mend_p116, if_neg (nI_ge (by omega) (by omega)), lN_shl1 (by omega), lN_shl1 (by omega), lN_shl1 (by omega), wb_or pa pb, wb_or pab pc]
    rcases HM (2 ^ a ||| 2 ^ b ||| 2 ^ c) (Nat.or_lt_two_pow pab pc) with ⟨y, e⟩ | ⟨y, e⟩
    · rw [e, Option.bind_some, if_neg (show ¬ (1 : Int32) = 0 by decide)]
      exact Or.inl ⟨c, by omega, y, hno, rfl⟩
    · rw [e, Option.bind_some, if_pos rfl, nI_1]
      refine ih N (c + 1) (by omega) (by omega) (fun a' h => ?_)
      by_cases z : a' = c
      · subst z; exact y
      · exact hno a' (by omega)
theorem md3m (HM : ∀ X, X < 2 ^ 64 → (MT X ∧ f_M_meets 51 (lN X) w = some (w, 1)) ∨ (¬ MT X ∧ f_M_meets 51 (lN X) w = some (w, 0))) {n a : Nat} (hn : n ≤ 64) (ha : a < n) (k101 : Nat → Int32 → Int32 → am_W → Option (am_W × Int64)) : ∀ d N b, b + d = a → d < N → (∀ b' c', b' < b → c' < b' → ¬ MT (2 ^ a ||| 2 ^ b' ||| 2 ^ c')) → (∃ b0 c0, c0 < b0 ∧ b0 < a ∧ MT (2 ^ a ||| 2 ^ b0 ||| 2 ^ c0) ∧ (∀ b' c', b' < b0 → c' < b' → ¬ MT (2 ^ a ||| 2 ^ b' ||| 2 ^ c')) ∧ (∀ c', c' < c0 → ¬ MT (2 ^ a ||| 2 ^ b0 ||| 2 ^ c')) ∧ f_M_mend_p108 k101 N 51 (nI n) (nI a) (nI b) w = some (w, lN (2 ^ a ||| 2 ^ b0 ||| 2 ^ c0))) ∨ ((∀ b' c', b' < a → c' < b' → ¬ MT (2 ^ a ||| 2 ^ b' ||| 2 ^ c')) ∧ f_M_mend_p108 k101 N 51 (nI n) (nI a) (nI b) w = k101 51 (nI n) (nI (a + 1)) w) := by
  intro d
  induction d with
  | zero =>
    intro N b hb hN hno
    obtain ⟨N, rfl⟩ : ∃ m, N = m + 1 := ⟨N - 1, by omega⟩
    refine Or.inr ⟨fun a' b' h => hno a' b' (by omega), ?_⟩
    rw [f_M_mend_p108, if_pos (nI_le (by omega) (by omega)), nI_1]
  | succ d ih =>
    intro N b hb hN hno
    obtain ⟨N, rfl⟩ : ∃ m, N = m + 1 := ⟨N - 1, by omega⟩
    rw [f_M_mend_p108, if_neg (nI_ge (by omega) (by omega))]
    rcases md3i HM hn ha (show b < a by omega) k101 (f_M_mend_p108 k101 N) b am_N 0 (by omega) (by unfold am_N; omega) (fun b' h => by omega) with ⟨c0, y1, y2, y3, e⟩ | ⟨y, e⟩
    · exact Or.inl ⟨b, c0, y1, by omega, y2, hno, y3, e⟩
    · have e' : f_M_mend_p116 k101 (f_M_mend_p108 k101 N) am_N 51 (nI n) (nI a) (nI b) 0 w = _ := e
      rw [e']
      refine ih N (b + 1) (by omega) (by omega) (fun a' b' h h' => ?_)
      by_cases z : a' = b
      · subst z; exact y b' h'
      · exact hno a' b' (by omega) h'
theorem md3 (HM : ∀ X, X < 2 ^ 64 → (MT X ∧ f_M_meets 51 (lN X) w = some (w, 1)) ∨ (¬ MT X ∧ f_M_meets 51 (lN X) w = some (w, 0))) {n : Nat} (hn : n ≤ 64) : ∀ d N a, a + d = n → 1 ≤ a → d < N → (∀ a' b' c', a' < a → b' < a' → c' < b' → ¬ MT (2 ^ a' ||| 2 ^ b' ||| 2 ^ c')) → (∃ a0 b0 c0, c0 < b0 ∧ b0 < a0 ∧ a0 < n ∧ MT (2 ^ a0 ||| 2 ^ b0 ||| 2 ^ c0) ∧ (∀ a' b' c', a' < a0 → b' < a' → c' < b' → ¬ MT (2 ^ a' ||| 2 ^ b' ||| 2 ^ c')) ∧ (∀ b' c', b' < b0 → c' < b' → ¬ MT (2 ^ a0 ||| 2 ^ b' ||| 2 ^ c')) ∧ (∀ c', c' < c0 → ¬ MT (2 ^ a0 ||| 2 ^ b0 ||| 2 ^ c')) ∧ f_M_mend_p101 N 51 (nI n) (nI a) w = some (w, lN (2 ^ a0 ||| 2 ^ b0 ||| 2 ^ c0))) ∨ ((∀ a' b' c', a' < n → b' < a' → c' < b' → ¬ MT (2 ^ a' ||| 2 ^ b' ||| 2 ^ c')) ∧ f_M_mend_p101 N 51 (nI n) (nI a) w = ((f_M_refuse 51 w).bind fun r7 => (some (r7.1, (Int32.toInt64 r7.2))))) := by
  intro d
  induction d with
  | zero =>
    intro N a ha h1 hN hno
    obtain ⟨N, rfl⟩ : ∃ m, N = m + 1 := ⟨N - 1, by omega⟩
    refine Or.inr ⟨fun a' b' c' h => hno a' b' c' (by omega), ?_⟩
    rw [f_M_mend_p101, if_pos (nI_le (by omega) (by omega))]
  | succ d ih =>
    intro N a ha h1 hN hno
    obtain ⟨N, rfl⟩ : ∃ m, N = m + 1 := ⟨N - 1, by omega⟩
    rw [f_M_mend_p101, if_neg (nI_ge (by omega) (by omega))]
    rcases md3m HM hn (show a < n by omega) (f_M_mend_p101 N) (a - 1) am_N 1 (by omega) (by unfold am_N; omega) (fun b' c' h h' => by omega) with ⟨b0, c0, y1, y2, y3, y4, y5, e⟩ | ⟨y, e⟩
    · exact Or.inl ⟨a, b0, c0, y1, y2, by omega, y3, hno, y4, y5, e⟩
    · have e' : f_M_mend_p108 (f_M_mend_p101 N) am_N 51 (nI n) (nI a) 1 w = _ := e
      rw [e']
      refine ih N (a + 1) (by omega) (by omega) (by omega) (fun a' b' c' h h' h'' => ?_)
      by_cases z : a' = a
      · subst z; exact y b' c' h' h''
      · exact hno a' b' c' (by omega) h' h''
/-! of which sets there are -/
theorem none1 (nz : ¬ MT 0) {n : Nat} (red : ∀ X c, n ≤ c → MT (X ||| 2 ^ c) → MT X) (h1 : ∀ a, a < n → ¬ MT (2 ^ a)) : ∀ Y, ad 1 0 Y → ¬ MT Y := by
  intro Y hY hm
  rcases hY with rfl | ⟨c, hc, hY⟩
  · exact nz hm
  · cases hY
    rcases Nat.lt_or_ge c n with q | q
    · rw [Nat.zero_or] at hm; exact h1 c q hm
    · exact nz (red 0 c q hm)
theorem ad1 {c : Nat} (hc : c < 64) : ad 1 0 (2 ^ c) := Or.inr ⟨c, hc, by show 2 ^ c = 0 ||| 2 ^ c; rw [Nat.zero_or]⟩
theorem ad2 {a b : Nat} (ha : a < 64) (hb : b < 64) : ad 2 0 (2 ^ a ||| 2 ^ b) := Or.inr ⟨a, ha, Or.inr ⟨b, hb, by show 2 ^ a ||| 2 ^ b = 0 ||| 2 ^ a ||| 2 ^ b; rw [Nat.zero_or]⟩⟩
theorem ad3 {a b c : Nat} (ha : a < 64) (hb : b < 64) (hc : c < 64) : ad 3 0 (2 ^ a ||| 2 ^ b ||| 2 ^ c) := Or.inr ⟨a, ha, Or.inr ⟨b, hb, Or.inr ⟨c, hc, by show 2 ^ a ||| 2 ^ b ||| 2 ^ c = 0 ||| 2 ^ a ||| 2 ^ b ||| 2 ^ c; rw [Nat.zero_or]⟩⟩⟩
theorem cls1 (nz : ¬ MT 0) {Y : Nat} (h : ad 1 0 Y) (hm : MT Y) : ∃ a, a < 64 ∧ Y = 2 ^ a := by
  rcases h with rfl | ⟨c, hc, hY⟩
  · exact absurd hm nz
  · cases hY; exact ⟨c, hc, Nat.zero_or _⟩
theorem cls2 (nz : ¬ MT 0) {n : Nat} (red : ∀ X c, n ≤ c → MT (X ||| 2 ^ c) → MT X) (no1 : ∀ Y, ad 1 0 Y → ¬ MT Y) {Y : Nat} (h : ad 2 0 Y) (hm : MT Y) : ∃ a b, b < a ∧ a < n ∧ Y = 2 ^ a ||| 2 ^ b := by
  rcases h with rfl | ⟨c, hc, rfl | ⟨e, he, hY⟩⟩
  · exact absurd hm nz
  · rw [Nat.zero_or] at hm; exact absurd hm (no1 _ (ad1 hc))
  · cases hY
    rw [Nat.zero_or] at hm ⊢
    have c1 : c < n := by
      rcases Nat.lt_or_ge c n with q | q
      · exact q
      · rw [Nat.or_comm] at hm
        exact absurd (red _ _ q hm) (no1 _ (ad1 he))
    have e1 : e < n := by
      rcases Nat.lt_or_ge e n with q | q
      · exact q
      · exact absurd (red _ _ q hm) (no1 _ (ad1 hc))
    rcases Nat.lt_trichotomy c e with q | q | q
    · exact ⟨e, c, q, e1, Nat.or_comm _ _⟩
    · subst q
      rw [Nat.or_self] at hm
      exact absurd hm (no1 _ (ad1 hc))
    · exact ⟨c, e, q, c1, rfl⟩
theorem or3 (x y z : Nat) : x ||| y ||| z = x ||| z ||| y := by rw [Nat.or_assoc, Nat.or_comm y, ← Nat.or_assoc]
theorem cls3 (nz : ¬ MT 0) {n : Nat} (red : ∀ X c, n ≤ c → MT (X ||| 2 ^ c) → MT X) (no2 : ∀ Y, ad 2 0 Y → ¬ MT Y) {Y : Nat} (h : ad 3 0 Y) (hm : MT Y) : ∃ a b c, c < b ∧ b < a ∧ a < n ∧ Y = 2 ^ a ||| 2 ^ b ||| 2 ^ c := by
  rcases h with rfl | ⟨x, hx, rfl | ⟨y, hy, rfl | ⟨z, hz, hY⟩⟩⟩
  · exact absurd hm nz
  · exact absurd hm (no2 _ (Or.inr ⟨x, hx, Or.inl rfl⟩))
  · exact absurd hm (no2 _ (Or.inr ⟨x, hx, Or.inr ⟨y, hy, rfl⟩⟩))
  · cases hY
    rw [Nat.zero_or] at hm ⊢
    have lt : ∀ p q r, p < 64 → q < 64 → MT (2 ^ p ||| 2 ^ q ||| 2 ^ r) → r < n := by
      intro p q r hp hq hm
      rcases Nat.lt_or_ge r n with u | u
      · exact u
      · exact absurd (red _ _ u hm) (no2 _ (ad2 hp hq))
    have z1 := lt x y z hx hy hm
    have y1 := lt x z y hx hz (by rw [or3]; exact hm)
    have x1 := lt y z x hy hz (by rw [or3, Nat.or_comm (2 ^ y)]; exact hm)
    have xy : x ≠ y := fun e => by subst e; rw [Nat.or_self] at hm; exact no2 _ (ad2 hx hz) hm
    have yz : y ≠ z := fun e => by subst e; rw [Nat.or_assoc, Nat.or_self] at hm; exact no2 _ (ad2 hx hy) hm
    have xz : x ≠ z := fun e => by subst e; rw [or3, Nat.or_self] at hm; exact no2 _ (ad2 hx hy) hm
    have c1 : 2 ^ x ||| 2 ^ y ||| 2 ^ z = 2 ^ x ||| 2 ^ z ||| 2 ^ y := or3 _ _ _
    have c2 : 2 ^ x ||| 2 ^ y ||| 2 ^ z = 2 ^ y ||| 2 ^ x ||| 2 ^ z := by rw [Nat.or_comm (2 ^ x)]
    have c3 : 2 ^ x ||| 2 ^ y ||| 2 ^ z = 2 ^ y ||| 2 ^ z ||| 2 ^ x := by rw [c2, or3]
    have c4 : 2 ^ x ||| 2 ^ y ||| 2 ^ z = 2 ^ z ||| 2 ^ x ||| 2 ^ y := by rw [c1, Nat.or_comm (2 ^ x)]
    have c5 : 2 ^ x ||| 2 ^ y ||| 2 ^ z = 2 ^ z ||| 2 ^ y ||| 2 ^ x := by rw [c4, or3]
    rcases Nat.lt_or_ge x y with a | a
    · rcases Nat.lt_or_ge y z with b | b
      · exact ⟨z, y, x, a, b, z1, c5⟩
      · rcases Nat.lt_or_ge x z with c | c
        · exact ⟨y, z, x, c, by omega, y1, c3⟩
        · exact ⟨y, x, z, by omega, a, y1, c2⟩
    · rcases Nat.lt_or_ge x z with b | b
      · exact ⟨z, x, y, by omega, b, z1, c4⟩
      · rcases Nat.lt_or_ge y z with c | c
        · exact ⟨x, z, y, c, by omega, x1, c1⟩
        · exact ⟨x, y, z, by omega, by omega, x1, rfl⟩
end MEB
