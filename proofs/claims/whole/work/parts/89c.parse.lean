/-! A TEXT READ, as both read it -/
noncomputable def tks (b : Nat → Nat) (t p : Nat) : Nat × Nat × Nat × Nat := @dite _ (p ≤ t) (Classical.propDecidable _) (fun h => (Classical.choose (TK_ex b h), Classical.choose (Classical.choose_spec (TK_ex b h)), Classical.choose (Classical.choose_spec (Classical.choose_spec (TK_ex b h))), Classical.choose (Classical.choose_spec (Classical.choose_spec (Classical.choose_spec (TK_ex b h)))))) (fun _ => (0, 0, 0, 0))
theorem tks_ok (b : Nat → Nat) {t p : Nat} (h : p ≤ t) : TK b t p (tks b t p).1 (tks b t p).2.1 (tks b t p).2.2.1 (tks b t p).2.2.2 := by
  have e : tks b t p = (Classical.choose (TK_ex b h), Classical.choose (Classical.choose_spec (TK_ex b h)), Classical.choose (Classical.choose_spec (Classical.choose_spec (TK_ex b h))), Classical.choose (Classical.choose_spec (Classical.choose_spec (Classical.choose_spec (TK_ex b h))))) := dif_pos h
  rw [e]
  exact Classical.choose_spec (Classical.choose_spec (Classical.choose_spec (Classical.choose_spec (TK_ex b h))))
theorem TK_k4 {b : Nat → Nat} {t p κ π ν val : Nat} (T : TK b t p κ π ν val) : κ ≤ 4 := by
  obtain ⟨q, q1, q2, q3, q4, h⟩ := T
  rcases h with ⟨a, c, d⟩ | ⟨a, c, d, e, f⟩ | ⟨a, c, d, e, e1, e2, e3, e4, h⟩
  · omega
  · omega
  · rcases h with ⟨h1, -⟩ | ⟨h1, -⟩ | ⟨h1, -⟩ <;> omega
theorem TK_let {b : Nat → Nat} {t p π ν val : Nat} (T : TK b t p 1 π ν val) : ∀ j, π ≤ j → j < ν → isL (b j) := by
  obtain ⟨q, q1, q2, q3, q4, h⟩ := T
  rcases h with ⟨a, c, d⟩ | ⟨a, c, d, e, f⟩ | ⟨a, c, d, e, e1, e2, e3, e4, h⟩
  · omega
  · omega
  · rcases h with ⟨h1, h2, h3, h4⟩ | ⟨h1, -⟩ | ⟨h1, -⟩
    · subst c; subst h2; exact h4
    · omega
    · omega
theorem TK_pi {b : Nat → Nat} {t p κ π ν val : Nat} (T : TK b t p κ π ν val) : π ≤ 400 := by
  obtain ⟨q, q1, q2, q3, q4, h⟩ := T
  rcases h with ⟨a, c, d⟩ | ⟨a, c, d, e, f⟩ | ⟨a, c, d, e, -⟩ <;> omega
/-! words -/
def wdP (b : Nat → Nat) (κ π ν : Nat) (gg : Nat → Int32) (len : Nat) : Prop := κ = 1 ∧ ν = π + len ∧ ∀ j, j < len → nI (b (π + j)) = gg j
theorem h1' (b : Nat → Nat) (q : Nat) : hsh b q 1 = b q - 96 := by
  show 27 * 0 + (b (q + 0) - 96) = _
  rw [Nat.add_zero, Nat.mul_zero, Nat.zero_add]
theorem h2' (b : Nat → Nat) (q : Nat) : hsh b q 2 = 27 * (b q - 96) + (b (q + 1) - 96) := by
  show 27 * hsh b q 1 + (b (q + 1) - 96) = _
  rw [h1']
theorem h3' (b : Nat → Nat) (q : Nat) : hsh b q 3 = 27 * (27 * (b q - 96) + (b (q + 1) - 96)) + (b (q + 2) - 96) := by
  show 27 * hsh b q 2 + (b (q + 2) - 96) = _
  rw [h2']
theorem h4' (b : Nat → Nat) (q : Nat) : hsh b q 4 = 27 * (27 * (27 * (b q - 96) + (b (q + 1) - 96)) + (b (q + 2) - 96)) + (b (q + 3) - 96) := by
  show 27 * hsh b q 3 + (b (q + 3) - 96) = _
  rw [h3']
theorem h5 (b : Nat → Nat) (q : Nat) : hsh b q 5 = 27 * (27 * (27 * (27 * (b q - 96) + (b (q + 1) - 96)) + (b (q + 2) - 96)) + (b (q + 3) - 96)) + (b (q + 4) - 96) := by
  show 27 * hsh b q 4 + (b (q + 4) - 96) = _
  rw [h4']
theorem wd_grid {b : Nat → Nat} {π ν : Nat} (hl : ∀ j, π ≤ j → j < ν → isL (b j)) (hb : ∀ j, j < ν → b j < 256) (hp : π < ν) : hsh b π (min 5 (ν - π)) = 151150 ↔ wdP b 1 π ν am_g4 4 := by
  have L : ∀ k, k < ν - π → 97 ≤ b (π + k) ∧ b (π + k) ≤ 122 := fun k hk => hl (π + k) (by omega) (by omega)
  have l0 := L 0 (by omega)
  rw [Nat.add_zero] at l0
  have no : ν - π ≠ 4 → ¬ wdP b 1 π ν am_g4 4 := fun h q => h (by have := q.2.1; omega)
  rcases (show ν - π = 1 ∨ ν - π = 2 ∨ ν - π = 3 ∨ ν - π = 4 ∨ 5 ≤ ν - π by omega) with e | e | e | e | e
  · rw [show min 5 (ν - π) = 1 by omega, h1']
    exact ⟨fun h => by omega, fun h => absurd h (no (by omega))⟩
  · have l1 := L 1 (by omega)
    rw [show min 5 (ν - π) = 2 by omega, h2']
    exact ⟨fun h => by omega, fun h => absurd h (no (by omega))⟩
  · have l1 := L 1 (by omega)
    have l2 := L 2 (by omega)
    rw [show min 5 (ν - π) = 3 by omega, h3']
    exact ⟨fun h => by omega, fun h => absurd h (no (by omega))⟩
  · have l1 := L 1 (by omega)
    have l2 := L 2 (by omega)
    have l3 := L 3 (by omega)
    rw [show min 5 (ν - π) = 4 by omega, h4']
    constructor
    · intro h
      have b0 : b π = 103 := by omega
      have b1 : b (π + 1) = 114 := by omega
      have b2 : b (π + 2) = 105 := by omega
      have b3 : b (π + 3) = 100 := by omega
      refine ⟨rfl, by omega, fun j hj => ?_⟩
      rcases (show j = 0 ∨ j = 1 ∨ j = 2 ∨ j = 3 by omega) with rfl | rfl | rfl | rfl
      · rw [Nat.add_zero, b0]; rfl
      · rw [b1]; rfl
      · rw [b2]; rfl
      · rw [b3]; rfl
    · rintro ⟨-, -, h⟩
      have g0 := h 0 (by decide)
      have g1 := h 1 (by decide)
      have g2 := h 2 (by decide)
      have g3 := h 3 (by decide)
      rw [Nat.add_zero] at g0
      have b0 : b π = 103 := (nI_is (hb _ (by omega)) (k := 103) (by decide)).mp g0
      have b1 : b (π + 1) = 114 := (nI_is (hb _ (by omega)) (k := 114) (by decide)).mp g1
      have b2 : b (π + 2) = 105 := (nI_is (hb _ (by omega)) (k := 105) (by decide)).mp g2
      have b3 : b (π + 3) = 100 := (nI_is (hb _ (by omega)) (k := 100) (by decide)).mp g3
      rw [b0, b1, b2, b3]
  · have l1 := L 1 (by omega)
    have l2 := L 2 (by omega)
    have l3 := L 3 (by omega)
    have l4 := L 4 (by omega)
    rw [show min 5 (ν - π) = 5 by omega, h5]
    exact ⟨fun h => by omega, fun h => absurd h (no (by omega))⟩
theorem wd_row {b : Nat → Nat} {π ν : Nat} (hl : ∀ j, π ≤ j → j < ν → isL (b j)) (hb : ∀ j, j < ν → b j < 256) (hp : π < ν) : hsh b π (min 5 (ν - π)) = 13550 ↔ wdP b 1 π ν am_g3 3 := by
  have L : ∀ k, k < ν - π → 97 ≤ b (π + k) ∧ b (π + k) ≤ 122 := fun k hk => hl (π + k) (by omega) (by omega)
  have l0 := L 0 (by omega)
  rw [Nat.add_zero] at l0
  have no : ν - π ≠ 3 → ¬ wdP b 1 π ν am_g3 3 := fun h q => h (by have := q.2.1; omega)
  rcases (show ν - π = 1 ∨ ν - π = 2 ∨ ν - π = 3 ∨ ν - π = 4 ∨ 5 ≤ ν - π by omega) with e | e | e | e | e
  · rw [show min 5 (ν - π) = 1 by omega, h1']
    exact ⟨fun h => by omega, fun h => absurd h (no (by omega))⟩
  · have l1 := L 1 (by omega)
    rw [show min 5 (ν - π) = 2 by omega, h2']
    exact ⟨fun h => by omega, fun h => absurd h (no (by omega))⟩
  · have l1 := L 1 (by omega)
    have l2 := L 2 (by omega)
    rw [show min 5 (ν - π) = 3 by omega, h3']
    constructor
    · intro h
      have b0 : b π = 114 := by omega
      have b1 : b (π + 1) = 111 := by omega
      have b2 : b (π + 2) = 119 := by omega
      refine ⟨rfl, by omega, fun j hj => ?_⟩
      rcases (show j = 0 ∨ j = 1 ∨ j = 2 by omega) with rfl | rfl | rfl
      · rw [Nat.add_zero, b0]; rfl
      · rw [b1]; rfl
      · rw [b2]; rfl
    · rintro ⟨-, -, h⟩
      have g0 := h 0 (by decide)
      have g1 := h 1 (by decide)
      have g2 := h 2 (by decide)
      rw [Nat.add_zero] at g0
      have b0 : b π = 114 := (nI_is (hb _ (by omega)) (k := 114) (by decide)).mp g0
      have b1 : b (π + 1) = 111 := (nI_is (hb _ (by omega)) (k := 111) (by decide)).mp g1
      have b2 : b (π + 2) = 119 := (nI_is (hb _ (by omega)) (k := 119) (by decide)).mp g2
      rw [b0, b1, b2]
  · have l1 := L 1 (by omega)
    have l2 := L 2 (by omega)
    have l3 := L 3 (by omega)
    rw [show min 5 (ν - π) = 4 by omega, h4']
    exact ⟨fun h => by omega, fun h => absurd h (no (by omega))⟩
  · have l1 := L 1 (by omega)
    have l2 := L 2 (by omega)
    have l3 := L 3 (by omega)
    have l4 := L 4 (by omega)
    rw [show min 5 (ν - π) = 5 by omega, h5]
    exact ⟨fun h => by omega, fun h => absurd h (no (by omega))⟩
/-! what comes of a text: a fault and its place, or how it goes on -/
noncomputable def pNum (b : Nat → Nat) (t lo hi p : Nat) : Except (Nat × Nat) (Nat × Nat) := if (tks b t p).1 = 2 then (if lo ≤ (tks b t p).2.2.2 ∧ (tks b t p).2.2.2 ≤ hi then .ok ((tks b t p).2.2.2, (tks b t p).2.2.1) else .error (2, (tks b t p).2.1)) else .error (1, (tks b t p).2.1)
noncomputable def pCells (b : Nat → Nat) (t v s r : Nat) : Nat → Nat → Nat → (Nat → Nat) → Except (Nat × Nat) (Nat × (Nat → Nat))
  | 0, _, p, col => .ok (p, col)
  | d + 1, c, p, col => match pNum b t 0 s p with
    | .error e => .error e
    | .ok x => pCells b t v s r d (c + 1) x.2 (updN col (r * v + c) x.1)
section PSA
variable {n1 n2 L : Nat} {xs : Nat → Int32} {g : Nat → GR} {i : Nat → Int32} {A : Nat → Nat → Int32} {m : Nat → Int32} {B : Nat → Nat → Int32} {J : Nat → Int64} {wd : Int64} {o : Nat → Int64} {t : Nat} {b : Nat → Nat} {f' : Nat → Int32}
theorem R_refuse (k : Int32) : f_R_refuse 15 k (mk n1 n2 L xs g i A m B J wd o) = some (mk n1 n2 L xs g (up i 125 k) A m B J wd o, 0) := by
  unfold f_R_refuse e_R_refuse
  rw [sf15, wr15_5, Option.bind_some]
theorem iw_loop (ht : t ≤ 440) (T : tpp t b (A 10) f') (hi : i 73 = nI t) {a π len : Nat} {gg : Nat → Int32} (ha : am_ar (mk n1 n2 L xs g i A m B J wd o) a = some (9, len, .inl gg)) (a8 : a < 8) (hl : π + len ≤ t) (h2 : i 122 = nI π) : ∀ d n j, j + d = len → d < n → ((∀ k, j ≤ k → k < len → nI (b (π + k)) = gg k) ∧ f_R_isWord_p28 n 15 9 a (nI j) (mk n1 n2 L xs g i A m B J wd o) = some (mk n1 n2 L xs g i A m B J wd o, 1)) ∨ ((∃ k, k < len ∧ nI (b (π + k)) ≠ gg k) ∧ f_R_isWord_p28 n 15 9 a (nI j) (mk n1 n2 L xs g i A m B J wd o) = some (mk n1 n2 L xs g i A m B J wd o, 0)) := by
  have etl : am_tl (mk n1 n2 L xs g i A m B J wd o) a = some (nI len) := by
    simp only [am_tl, ha]
    rw [if_pos a8]
    rfl
  intro d
  induction d with
  | zero =>
    intro n j hj hn
    obtain ⟨n, rfl⟩ : ∃ m, n = m + 1 := ⟨n - 1, by omega⟩
    refine Or.inl ⟨fun k a b => by omega, ?_⟩
    rw [f_R_isWord_p28, etl, Option.bind_some, if_pos (nI_le (by omega) (by omega))]
  | succ d ih =>
    intro n j hj hn
    obtain ⟨n, rfl⟩ : ∃ m, n = m + 1 := ⟨n - 1, by omega⟩
    have etc : am_tc (mk n1 n2 L xs g i A m B J wd o) a (nI j) = some (gg j) := by
      simp only [am_tc, ha]
      rw [if_neg (by
        rintro (q | q | q)
        · exact nI_pos (by omega) q
        · rw [nI_clamp (by omega)] at q; omega
        · omega), nI_clamp (by omega)]
    rw [f_R_isWord_p28, etl, Option.bind_some, if_neg (nI_ge (by omega) (by omega)), rd15_2, Option.bind_some, h2, nI_add, T_byteAt ht hi (by omega), Option.bind_some, etc, Option.bind_some, (T (π + j) (by omega)).2.1, nI_1]
    by_cases z : nI (b (π + j)) = gg j
    · rw [if_pos z]
      rcases ih n (j + 1) (by omega) (by omega) with ⟨c, e⟩ | ⟨c, e⟩
      · refine Or.inl ⟨fun k k1 k2 => ?_, e⟩
        by_cases y : k = j
        · subst y; exact z
        · exact c k (by omega) k2
      · exact Or.inr ⟨c, e⟩
    · rw [if_neg z]
      exact Or.inr ⟨⟨j, by omega, z⟩, rfl⟩
theorem R_isWord (ht : t ≤ 440) (T : tpp t b (A 10) f') (hi : i 73 = nI t) {a κ π ν len : Nat} {gg : Nat → Int32} (ha : am_ar (mk n1 n2 L xs g i A m B J wd o) a = some (9, len, .inl gg)) (a8 : a < 8) (l8 : len < 10) (k4 : κ ≤ 4) (h1 : i 121 = nI κ) (h2 : i 122 = nI π) (h3 : κ = 1 → i 123 = nI ν ∧ π < ν ∧ ν ≤ t) : (wdP b κ π ν gg len ∧ f_R_isWord 15 9 a (mk n1 n2 L xs g i A m B J wd o) = some (mk n1 n2 L xs g i A m B J wd o, 1)) ∨ (¬ wdP b κ π ν gg len ∧ f_R_isWord 15 9 a (mk n1 n2 L xs g i A m B J wd o) = some (mk n1 n2 L xs g i A m B J wd o, 0)) := by
  have etl : am_tl (mk n1 n2 L xs g i A m B J wd o) a = some (nI len) := by
    simp only [am_tl, ha]
    rw [if_pos a8]
    rfl
  unfold f_R_isWord e_R_isWord f_R_isWord_p24
  rw [sf15, rd15_1, Option.bind_some, h1]
  by_cases z : κ = 1
  · obtain ⟨h31, h32, h33⟩ := h3 z
    rw [z, if_neg (show ¬ ¬ nI 1 = (1 : Int32) from fun q => q rfl), rd15_3, Option.bind_some, h31, rd15_2, Option.bind_some, h2, etl, Option.bind_some, pk_sub (show π ≤ ν by omega)]
    by_cases y : ν = π + len
    · rw [if_pos (by rw [y, Nat.add_sub_cancel_left])]
      rcases iw_loop (n1 := n1) (n2 := n2) (L := L) (xs := xs) (g := g) (m := m) (B := B) (J := J) (wd := wd) (o := o) ht T hi ha a8 (by omega) h2 len am_N 0 (by omega) (by unfold am_N; omega) with ⟨c, e⟩ | ⟨⟨k, c1, c2⟩, e⟩
      · exact Or.inl ⟨⟨rfl, y, fun j hj => c j (Nat.zero_le _) hj⟩, e⟩
      · exact Or.inr ⟨fun q => c2 (q.2.2 k c1), e⟩
    · rw [if_neg (by rw [nI_eq (by omega) (by omega)]; omega)]
      exact Or.inr ⟨fun q => y q.2.1, rfl⟩
  · rw [if_pos (show ¬ nI κ = (1 : Int32) from fun q => z ((nI_eq (by omega) (b := 1) (by decide)).mp q))]
    exact Or.inr ⟨fun q => z q.1, rfl⟩
theorem R_readNumber (ht : t ≤ 440) (T : tpp t b (A 10) f') {p lo hi' : Nat} (hp : p ≤ t) (hi : i 73 = nI t) (h3 : i 123 = nI p) (l9 : lo ≤ 99) (h9 : hi' ≤ 99) :
    (∀ x, pNum b t lo hi' p = .ok x → ∃ i', f_R_readNumber 15 9 (nI lo) (nI hi') (mk n1 n2 L xs g i A m B J wd o) = some (mk n1 n2 L xs g i' A m B J wd o, 1) ∧ (∀ a, a ≠ 121 → a ≠ 122 → a ≠ 123 → a ≠ 124 → i' a = i a) ∧ i' 123 = nI x.2 ∧ i' 124 = nI x.1 ∧ lo ≤ x.1 ∧ x.1 ≤ hi' ∧ p < x.2 ∧ x.2 ≤ t) ∧
    (∀ e, pNum b t lo hi' p = .error e → ∃ i', f_R_readNumber 15 9 (nI lo) (nI hi') (mk n1 n2 L xs g i A m B J wd o) = some (mk n1 n2 L xs g i' A m B J wd o, 0) ∧ (∀ a, a ≠ 121 → a ≠ 122 → a ≠ 123 → a ≠ 124 → a ≠ 125 → i' a = i a) ∧ i' 125 = nI e.1 ∧ i' 122 = nI e.2) := by
  have K := tks_ok b hp
  have k4 := TK_k4 K
  obtain ⟨i1, e1, fr, c1, c2, c3, c4⟩ := R_step (n1 := n1) (n2 := n2) (L := L) (xs := xs) (g := g) (m := m) (B := B) (J := J) (wd := wd) (o := o) ht T K hp hi h3
  unfold f_R_readNumber e_R_readNumber f_R_readNumber_p35 f_R_readNumber_p43 f_R_readNumber_p48 pNum
  rw [sf15, e1, Option.bind_some, rd15_1, Option.bind_some, c1]
  by_cases z : (tks b t p).1 = 2
  · have v99 := TK_val (by rw [z] at K; exact K)
    have tp := TK_pos K (by omega)
    have hv := c4 z
    rw [if_pos z, z, if_pos (show nI 2 = (2 : Int32) from rfl), rd15_4, Option.bind_some, hv]
    by_cases y : lo ≤ (tks b t p).2.2.2 ∧ (tks b t p).2.2.2 ≤ hi'
    · rw [if_pos y]
      refine ⟨fun x hx => ?_, fun e he => by cases he⟩
      cases hx
      refine ⟨i1, ?_, fr, c3 (by omega), hv, y.1, y.2, by omega, tp.2.2.1⟩
      rw [if_neg (nI_nlt (by omega) (by omega)), Option.bind_some, if_pos (nI_le (by omega) (by omega))]
      rfl
    · rw [if_neg y]
      refine ⟨fun x hx => (by cases hx), fun e he => ?_⟩
      cases he
      refine ⟨up i1 125 2, ?_, fun a b c d e f => by rw [up_n _ _ f, fr a b c d e], up_s _ _ _, by rw [up_n _ _ (by decide), c2]⟩
      rw [R_refuse, Option.bind_some]
      by_cases w : (tks b t p).2.2.2 < lo
      · rw [if_pos (nI_lt w (by omega))]
        rfl
      · rw [if_neg (nI_nlt (by omega) (by omega)), Option.bind_some, if_neg (nI_ge (by omega) (by omega))]
        rfl
  · rw [if_neg z, if_neg (show ¬ nI (tks b t p).1 = (2 : Int32) from fun q => z ((nI_eq (by omega) (b := 2) (by decide)).mp q)), R_refuse, Option.bind_some]
    refine ⟨fun x hx => (by cases hx), fun e he => ?_⟩
    cases he
    exact ⟨up i1 125 1, rfl, fun a b c d e f => by rw [up_n _ _ f, fr a b c d e], up_s _ _ _, by rw [up_n _ _ (by decide), c2]⟩
/-! the model's -/
theorem M_bad (k : Nat) {σ : Nat} (hσ : m 6 = nI σ) (h5' : σ ≤ 5) : f_M_bad 51 (nI k) (mk n1 n2 L xs g i A m B J wd o) = some (mk n1 n2 L xs g i A (up (up m 8 (nI (if σ = 1 then 1 else k))) 9 (m 5)) B J wd o, 0) := by
  unfold f_M_bad e_M_bad f_M_bad_p14
  rw [sf51, rd51_6, Option.bind_some, hσ]
  by_cases z : σ = 1
  · rw [z, if_neg (show ¬ ¬ nI 1 = (1 : Int32) from fun q => q rfl), if_pos rfl, wr51_8, Option.bind_some, rd51_5, Option.bind_some, wr51_9, Option.bind_some, up_n _ _ (by decide)]
    rfl
  · rw [if_pos (show ¬ nI σ = (1 : Int32) from fun q => z ((nI_eq (by omega) (b := 1) (by decide)).mp q)), if_neg z, wr51_8, Option.bind_some, rd51_5, Option.bind_some, wr51_9, Option.bind_some, up_n _ _ (by decide)]
theorem srt_le {t κ : Nat} (h : κ ≤ 4) : srt t κ ≤ 5 := by
  unfold srt
  split
  · split <;> omega
  · split <;> omega
theorem M_told (ht : t ≤ 440) (T : tpp t b f' (B 52)) {p lo hi' : Nat} (hp : p ≤ t) (h3 : m 3 = nI t) (K : mtk b t m wd (tks b t p).1 (tks b t p).2.1 (tks b t p).2.2.1 (tks b t p).2.2.2) (l9 : lo ≤ 99) (h9 : hi' ≤ 99) :
    (∀ x, pNum b t lo hi' p = .ok x → ∃ m' wd', f_M_told 51 (nI lo) (nI hi') (mk n1 n2 L xs g i A m B J wd o) = some (mk n1 n2 L xs g i A m' B J wd' o, nI x.1) ∧ (∀ a, a ≠ 4 → a ≠ 5 → a ≠ 6 → a ≠ 7 → m' a = m a) ∧ x.1 ≤ 99 ∧ x.2 ≤ t ∧ mtk b t m' wd' (tks b t x.2).1 (tks b t x.2).2.1 (tks b t x.2).2.2.1 (tks b t x.2).2.2.2) ∧
    (∀ e, pNum b t lo hi' p = .error e → ∃ m', f_M_told 51 (nI lo) (nI hi') (mk n1 n2 L xs g i A m B J wd o) = some (mk n1 n2 L xs g i A m' B J wd o, -1) ∧ (∀ a, a ≠ 8 → a ≠ 9 → m' a = m a) ∧ m' 8 = nI e.1 ∧ m' 9 = nI e.2) := by
  have KT := tks_ok b hp
  have k4 := TK_k4 KT
  obtain ⟨K5, K6, K4, K7, KW⟩ := K
  unfold f_M_told e_M_told pNum
  rw [sf51, rd51_6, Option.bind_some, K6]
  have s3 : srt t (tks b t p).1 = 3 ↔ (tks b t p).1 = 2 := by
    unfold srt
    by_cases a : (tks b t p).1 = 0
    · rw [if_pos a]
      split <;> omega
    · rw [if_neg a]
      split <;> omega
  have sl := srt_le (t := t) k4
  by_cases z : (tks b t p).1 = 2
  · have v99 := TK_val (by rw [z] at KT; exact KT)
    have tp := TK_pos KT (by omega)
    have hv := K7 z
    rw [if_pos z, s3.mpr z, if_pos (show nI 3 = (3 : Int32) from rfl), rd51_7, Option.bind_some, hv]
    by_cases y : lo ≤ (tks b t p).2.2.2 ∧ (tks b t p).2.2.2 ≤ hi'
    · rw [if_pos y]
      refine ⟨fun x hx => ?_, fun e he => by cases he⟩
      cases hx
      obtain ⟨m', wd', e, fr, K'⟩ := M_next (n1 := n1) (n2 := n2) (L := L) (xs := xs) (g := g) (i := i) (A := A) (m := m) (J := J) (wd := wd) (o := o) ht T (tks_ok b tp.2.2.1) tp.2.2.1 h3 (K4 (by omega))
      refine ⟨m', wd', ?_, fr, v99, tp.2.2.1, K'⟩
      rw [M_isIn_t (nI_nlt (by omega) (by omega)) (nI_nlt (by omega) (by omega)), Option.bind_some, if_pos (show ¬ (1 : Int32) = 0 by decide), rd51_7, Option.bind_some, hv, e, Option.bind_some]
    · rw [if_neg y]
      refine ⟨fun x hx => (by cases hx), fun e he => ?_⟩
      cases he
      have q : nI (tks b t p).2.2.2 < nI lo ∨ nI hi' < nI (tks b t p).2.2.2 := by
        rcases (show (tks b t p).2.2.2 < lo ∨ hi' < (tks b t p).2.2.2 by omega) with w | w
        · exact Or.inl (nI_lt w (by omega))
        · exact Or.inr (nI_lt w (by omega))
      rw [M_isIn_f q, Option.bind_some, if_neg (fun q => q rfl)]
      have eb := M_bad (n1 := n1) (n2 := n2) (L := L) (xs := xs) (g := g) (i := i) (A := A) (m := m) (B := B) (J := J) (wd := wd) (o := o) 2 (σ := 3) (by rw [K6, s3.mpr z]) (by decide)
      have eb' : f_M_bad 51 2 (mk n1 n2 L xs g i A m B J wd o) = _ := eb
      rw [eb', Option.bind_some]
      exact ⟨_, rfl, fun a b c => by rw [up_n _ _ c, up_n _ _ b], by rw [up_n _ _ (by decide), up_s]; rfl, by rw [up_s, K5]⟩
  · rw [if_neg z, if_neg (show ¬ nI (srt t (tks b t p).1) = (3 : Int32) from fun q => z (s3.mp ((nI_eq (by omega) (b := 3) (by decide)).mp q)))]
    refine ⟨fun x hx => (by cases hx), fun e he => ?_⟩
    cases he
    have eb := M_bad (n1 := n1) (n2 := n2) (L := L) (xs := xs) (g := g) (i := i) (A := A) (m := m) (B := B) (J := J) (wd := wd) (o := o) 1 K6 sl
    have eb' : f_M_bad 51 1 (mk n1 n2 L xs g i A m B J wd o) = _ := eb
    rw [eb', Option.bind_some]
    exact ⟨_, rfl, fun a b c => by rw [up_n _ _ c, up_n _ _ b], by rw [up_n _ _ (by decide), up_s]; split <;> rfl, by rw [up_s, K5]⟩
end PSA
