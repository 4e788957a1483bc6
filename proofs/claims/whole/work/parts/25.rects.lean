/-! RECTANGLES -/
def fr (v : Nat) (col : Nat → Nat) (r q c d : Nat) : Nat := if col (r * v + c) = col (r * v + d) ∧ col (r * v + c) = col (q * v + c) ∧ col (r * v + c) = col (q * v + d) then col (r * v + c) else 0
def isR (h v : Nat) (col : Nat → Nat) (r q c d : Nat) : Prop := r < q ∧ q < h ∧ c < d ∧ d < v ∧ fr v col r q c d ≠ 0
def hit (v W r q c d : Nat) : Bool := W.testBit (r * v + c) || W.testBit (r * v + d) || W.testBit (q * v + c) || W.testBit (q * v + d)
def corn (X v r q c d : Nat) : Prop := ∀ k, X.testBit k = (decide (k = r * v + c) || decide (k = r * v + d) || decide (k = q * v + c) || decide (k = q * v + d))
theorem fr_iff (v : Nat) (col : Nat → Nat) (r q c d : Nat) {x : Nat} (hx : x ≠ 0) : fr v col r q c d = x ↔ col (r * v + c) = x ∧ col (r * v + d) = x ∧ col (q * v + c) = x ∧ col (q * v + d) = x := by
  unfold fr
  constructor
  · intro h
    split at h
    · next z => exact ⟨h, z.1 ▸ h, z.2.1 ▸ h, z.2.2 ▸ h⟩
    · exact absurd h.symm hx
  · rintro ⟨h1, h2, h3, h4⟩
    rw [if_pos ⟨by rw [h1, h2], by rw [h1, h3], by rw [h1, h4]⟩, h1]
theorem fr_le {h v s : Nat} {col : Nat → Nat} (O : gok h v s col) {r q c d : Nat} (hr : r < h) (hc : c < v) : fr v col r q c d ≤ s := by
  unfold fr
  split
  · exact O.2.2.2.2.2 _ (row_lt hr hc)
  · omega
theorem low_tab : ∀ n : Fin 256, ((nI n.val ^^^ (nI n.val &&& (-(nI n.val)))) = 0 ∧ ∀ c d : Fin 8, c.val < d.val → ¬ (n.val.testBit c.val = true ∧ n.val.testBit d.val = true)) ∨
    (¬ (nI n.val ^^^ (nI n.val &&& (-(nI n.val)))) = 0 ∧ ∃ c d : Fin 8, c.val < d.val ∧ n.val.testBit c.val = true ∧ n.val.testBit d.val = true ∧
      ((nI n.val &&& (-(nI n.val))) ||| ((nI n.val ^^^ (nI n.val &&& (-(nI n.val)))) &&& (-(nI n.val ^^^ (nI n.val &&& (-(nI n.val))))))) = nI (2 ^ c.val + 2 ^ d.val)) := by decide +kernel
theorem two_bits {x y : Nat} (h : x < y) (k : Nat) : (2 ^ x + 2 ^ y).testBit k = (decide (k = x) || decide (k = y)) := by
  have h1 : 2 ^ x + 2 ^ y = 2 ^ y ||| 2 ^ x := by
    have h2 := Nat.two_pow_add_eq_or_of_lt (i := y) (b := 2 ^ x) (wb_lt2 h) 1
    rw [Nat.mul_one] at h2
    rw [Nat.add_comm, h2]
  rw [h1, Nat.testBit_or, bit_pow, bit_pow, Bool.or_comm]
  congr 1 <;> exact decide_eq_decide.mpr ⟨fun h => h.symm, fun h => h.symm⟩
section RCA
variable {w : am_W} {g a h v s : Nat} {f : Nat → Int64} {col : Nat → Nat}
def rinS (h v : Nat) (p : Nat → Bool) (i : Nat) (o : Option (am_W × Int64)) (w : am_W) : Prop :=
  ((∀ r q c d, i ≤ r → r < q → q < h → c < d → d < v → ¬ (p (r * v + c) = true ∧ p (r * v + d) = true ∧ p (q * v + c) = true ∧ p (q * v + d) = true)) ∧ o = some (w, 0)) ∨
  ∃ X r q c d, X < 2 ^ 64 ∧ r < q ∧ q < h ∧ c < d ∧ d < v ∧ (p (r * v + c) = true ∧ p (r * v + d) = true ∧ p (q * v + c) = true ∧ p (q * v + d) = true) ∧ corn X v r q c d ∧ o = some (w, lN X)
theorem rin_in (H : gr w g a h v s f) (O : gok h v s col) (p : Nat → Bool) {r : Nat} (hr : r < h) (k2 : Nat → Int64 → Int32 → am_W → Option (am_W × Int64)) (K : rinS h v p (r + 1) (k2 g (lN (bs p (h * v))) (nI (r + 1)) w) w) :
    ∀ d n q, q + d = h → r < q → d < n → (∀ q' c d, r < q' → q' < q → c < d → d < v → ¬ (p (r * v + c) = true ∧ p (r * v + d) = true ∧ p (q' * v + c) = true ∧ p (q' * v + d) = true)) →
      rinS h v p r (f_G_rectangleIn_p23 k2 n g (lN (bs p (h * v))) (nI r) (nI (bs (fun c => p (r * v + c)) v)) (nI q) w) w := by
  have h8 := O.1
  have hv8 := O.2.1
  have h64 := O.hv
  intro d
  induction d with
  | zero =>
    intro n q hq hrq hn hno
    obtain ⟨n, rfl⟩ : ∃ m, n = m + 1 := ⟨n - 1, by omega⟩
    rw [f_G_rectangleIn_p23, H.hi, Option.bind_some, if_pos (nI_le (by omega) (by omega)), nI_1]
    rcases K with ⟨K1, K2⟩ | K
    · refine Or.inl ⟨fun r' q' c d h1 h2 h3 h4 h5 => ?_, K2⟩
      rcases Nat.lt_or_ge r r' with z | z
      · exact K1 r' q' c d z h2 h3 h4 h5
      · have e : r' = r := by omega
        subst e
        exact hno q' c d h2 (by omega) h4 h5
    · exact Or.inr K
  | succ d ih =>
    intro n q hq hrq hn hno
    obtain ⟨n, rfl⟩ : ∃ m, n = m + 1 := ⟨n - 1, by omega⟩
    have hqh : q < h := by omega
    rw [f_G_rectangleIn_p23, H.hi, Option.bind_some, if_neg (nI_ge hqh (by omega)), G_cols H O p hqh, Option.bind_some]
    simp only [fa_and, bs_and]
    have hlt := bs256 (fun k => p (r * v + k) && p (q * v + k)) hv8
    have hbit : ∀ c, c < v → (bs (fun k => p (r * v + k) && p (q * v + k)) v).testBit c = (p (r * v + c) && p (q * v + c)) := by
      intro c hc; rw [bs_bit]; simp [hc]
    generalize hn0 : bs (fun k => p (r * v + k) && p (q * v + k)) v = n0 at hlt hbit ⊢
    have hbig : ∀ c, n0.testBit c = true → c < v := by
      intro c hc
      rw [← hn0, bs_bit] at hc
      simp only [Bool.and_eq_true, decide_eq_true_eq] at hc
      exact hc.1
    rcases low_tab ⟨n0, hlt⟩ with ⟨t1, t2⟩ | ⟨t1, c, d2, hcd, b1, b2, t2⟩
    · simp only at t1 t2
      rw [if_pos t1, nI_1]
      refine ih n (q + 1) (by omega) (by omega) (by omega) (fun q' c d' h1 h2 h3 h4 => ?_)
      rcases Nat.lt_or_ge q' q with z | z
      · exact hno q' c d' h1 z h3 h4
      · have e : q' = q := by omega
        subst e
        rintro ⟨z1, z2, z3, z4⟩
        refine t2 ⟨c, by omega⟩ ⟨d', by omega⟩ h3 ⟨?_, ?_⟩
        · show n0.testBit c = true
          rw [hbit c (by omega), z1, z3]; rfl
        · show n0.testBit d' = true
          rw [hbit d' (by omega), z2, z4]; rfl
    · simp only at t1 t2 b1 b2
      rw [if_neg t1, H.wi, Option.bind_some, Option.bind_some, t2]
      have hc := hbig _ b1
      have hd := hbig _ b2
      rw [hbit _ hc] at b1
      rw [hbit _ hd] at b2
      simp only [Bool.and_eq_true] at b1 b2
      have l1 := row_lt hr hc
      have l2 := row_lt hr hd
      have l3 := row_lt hqh hc
      have l4 := row_lt hqh hd
      have hp1 : 2 ^ c.val ≤ 2 ^ 7 := Nat.pow_le_pow_right (by decide) (by omega)
      have hp2 : 2 ^ d2.val ≤ 2 ^ 7 := Nat.pow_le_pow_right (by decide) (by omega)
      rw [nI_l (by omega), pk_mul, pk_mul, wb_shl _ (by omega), wb_shl _ (by omega), fb_orL]
      have e1 : (2 ^ c.val + 2 ^ d2.val) * 2 ^ (r * v) = 2 ^ (r * v + c.val) + 2 ^ (r * v + d2.val) := by rw [Nat.add_mul, ← Nat.pow_add, ← Nat.pow_add, Nat.add_comm c.val, Nat.add_comm d2.val]
      have e2 : (2 ^ c.val + 2 ^ d2.val) * 2 ^ (q * v) = 2 ^ (q * v + c.val) + 2 ^ (q * v + d2.val) := by rw [Nat.add_mul, ← Nat.pow_add, ← Nat.pow_add, Nat.add_comm c.val, Nat.add_comm d2.val]
      rw [e1, e2]
      refine Or.inr ⟨_, r, q, c.val, d2.val, ?_, hrq, hqh, hcd, hd, ⟨b1.1, b2.1, b1.2, b2.2⟩, ?_, rfl⟩
      · refine Nat.or_lt_two_pow ?_ ?_
        · have z1 : 2 ^ (r * v + c.val) < 2 ^ (r * v + d2.val) := wb_lt2 (by omega)
          have z2 : 2 ^ (r * v + d2.val) ≤ 2 ^ 63 := Nat.pow_le_pow_right (by decide) (by omega)
          omega
        · have z1 : 2 ^ (q * v + c.val) < 2 ^ (q * v + d2.val) := wb_lt2 (by omega)
          have z2 : 2 ^ (q * v + d2.val) ≤ 2 ^ 63 := Nat.pow_le_pow_right (by decide) (by omega)
          omega
      · intro k
        rw [Nat.testBit_or, two_bits (by omega), two_bits (by omega)]
        simp [Bool.or_assoc]
theorem rin_out (H : gr w g a h v s f) (O : gok h v s col) (p : Nat → Bool) : ∀ d n r, r + d = h → d < n → rinS h v p r (f_G_rectangleIn_p2 n g (lN (bs p (h * v))) (nI r) w) w := by
  have h8 := O.1
  intro d
  induction d with
  | zero =>
    intro n r hr hn
    obtain ⟨n, rfl⟩ : ∃ m, n = m + 1 := ⟨n - 1, by omega⟩
    rw [f_G_rectangleIn_p2, H.hi, Option.bind_some, if_pos (nI_le (by omega) (by omega))]
    exact Or.inl ⟨fun r' q c d h1 h2 h3 => by omega, rfl⟩
  | succ d ih =>
    intro n r hr hn
    obtain ⟨n, rfl⟩ : ∃ m, n = m + 1 := ⟨n - 1, by omega⟩
    have hrh : r < h := by omega
    rw [f_G_rectangleIn_p2, H.hi, Option.bind_some, if_neg (nI_ge hrh (by omega)), G_cols H O p hrh, Option.bind_some, nI_1]
    exact rin_in H O p hrh (f_G_rectangleIn_p2 n) (ih n (r + 1) (by omega) (by omega)) (h - (r + 1)) am_N (r + 1) (by omega) (by omega) (by unfold am_N; omega) (fun q' c d h1 h2 => by omega)
theorem G_rectangleIn (H : gr w g a h v s f) (O : gok h v s col) (p : Nat → Bool) : rinS h v p 0 (f_G_rectangleIn g (lN (bs p (h * v))) w) w := by
  have h8 := O.1
  unfold f_G_rectangleIn e_G_rectangleIn
  rw [H.self]
  exact rin_out H O p h am_N 0 (by omega) (by unfold am_N; omega)
def anyS (h v : Nat) (col : Nat → Nat) (W : Nat) (x : Nat) (o : Option (am_W × Int64)) (w : am_W) : Prop :=
  ((∀ r q c d, isR h v col r q c d → x ≤ fr v col r q c d → hit v W r q c d = true) ∧ o = some (w, 0)) ∨
  ∃ X r q c d, X < 2 ^ 64 ∧ isR h v col r q c d ∧ hit v W r q c d = false ∧ corn X v r q c d ∧ o = some (w, lN X)
theorem any_loop (H : gr w g a h v s f) (F : fs f h v col) (O : gok h v s col) {W : Nat} (hW : W < 2 ^ 64) : ∀ d n x, x + d = s + 1 → 1 ≤ x → d < n → anyS h v col W x (f_G_anyRectangle_p2 n g (lN W) (nI x) w) w := by
  have h4 := O.2.2.1
  have h64 := O.hv
  intro d
  induction d with
  | zero =>
    intro n x hx h1 hn
    obtain ⟨n, rfl⟩ : ∃ m, n = m + 1 := ⟨n - 1, by omega⟩
    rw [f_G_anyRectangle_p2, H.sh, Option.bind_some, if_pos (nI_lt (by omega) (by omega))]
    refine Or.inl ⟨fun r q c d hR hx' => ?_, rfl⟩
    have := fr_le O (r := r) (q := q) (c := c) (d := d) (by have := hR.1; have := hR.2.1; omega) (by have := hR.2.2.1; have := hR.2.2.2.1; omega)
    omega
  | succ d ih =>
    intro n x hx h1 hn
    obtain ⟨n, rfl⟩ : ∃ m, n = m + 1 := ⟨n - 1, by omega⟩
    rw [f_G_anyRectangle_p2, H.sh, Option.bind_some, if_neg (nI_nlt (by omega) (by omega)), G_cellsOf H (by omega), Option.bind_some]
    have e1 : f x &&& (lN W ^^^ (-1)) = lN (bs (fun k => decide (col k = x) && !W.testBit k) (h * v)) := by
      rw [F x (by omega), lN_not hW, fb_andL]
      congr 1
      unfold stc
      refine bs_ext (Nat.lt_of_le_of_lt Nat.and_le_left (bs_lt _ _)) (fun k hk => ?_)
      have : k < 64 := by omega
      rw [Nat.testBit_and, bs_bit, not_bit hW]
      simp [hk, this]
    simp only [e1]
    rcases G_rectangleIn H O (fun k => decide (col k = x) && !W.testBit k) with ⟨K1, K2⟩ | ⟨X, r, q, c, d2, hX, hrq, hqh, hcd, hdv, hp, hco, K2⟩
    · rw [K2, Option.bind_some]
      simp only [lg_cmp_eq]
      rw [if_pos trivial, nI_1]
      rcases ih n (x + 1) (by omega) (by omega) (by omega) with ⟨J1, J2⟩ | J
      · refine Or.inl ⟨fun r q c d hR hx' => ?_, J2⟩
        rcases Nat.lt_or_ge x (fr v col r q c d) with z | z
        · exact J1 r q c d hR z
        · have e : fr v col r q c d = x := by omega
          have e2 := (fr_iff v col r q c d (by omega)).mp e
          have K3 := K1 r q c d (Nat.zero_le _) hR.1 hR.2.1 hR.2.2.1 hR.2.2.2.1
          cases hh : hit v W r q c d with
          | true => rfl
          | false =>
            exfalso
            unfold hit at hh
            simp only [Bool.or_eq_false_iff] at hh
            exact K3 (by simp [e2.1, e2.2.1, e2.2.2.1, e2.2.2.2, hh.1.1.1, hh.1.1.2, hh.1.2, hh.2])
      · exact Or.inr J
    · rw [K2, Option.bind_some]
      simp only [lg_cmp_eq]
      have hX0 : X ≠ 0 := by
        intro h0
        have := hco (r * v + c)
        rw [h0, Nat.zero_testBit] at this
        simp at this
      rw [if_neg (by rw [lN_0, lN_e hX (by decide)]; exact hX0)]
      simp only [Bool.and_eq_true, decide_eq_true_eq, Bool.not_eq_true'] at hp
      obtain ⟨⟨p1, n1⟩, ⟨p2, n2⟩, ⟨p3, n3⟩, ⟨p4, n4⟩⟩ := hp
      refine Or.inr ⟨X, r, q, c, d2, hX, ⟨hrq, hqh, hcd, hdv, ?_⟩, ?_, hco, rfl⟩
      · rw [(fr_iff v col r q c d2 (x := x) (by omega)).mpr ⟨p1, p2, p3, p4⟩]; omega
      · unfold hit; rw [n1, n2, n3, n4]; rfl
theorem G_anyRectangle (H : gr w g a h v s f) (F : fs f h v col) (O : gok h v s col) {W : Nat} (hW : W < 2 ^ 64) : ((∀ r q c d, isR h v col r q c d → hit v W r q c d = true) ∧ f_G_anyRectangle g (lN W) w = some (w, 0)) ∨ ∃ X r q c d, X < 2 ^ 64 ∧ isR h v col r q c d ∧ hit v W r q c d = false ∧ corn X v r q c d ∧ f_G_anyRectangle g (lN W) w = some (w, lN X) := by
  have h4 := O.2.2.1
  unfold f_G_anyRectangle e_G_anyRectangle
  rw [H.self]
  rcases any_loop H F O hW s am_N 1 (by omega) (by omega) (by unfold am_N; omega) with ⟨J1, J2⟩ | J
  · refine Or.inl ⟨fun r q c d hR => J1 r q c d hR ?_, J2⟩
    have := hR.2.2.2.2
    omega
  · exact Or.inr J
theorem G_isGood (H : gr w g a h v s f) (F : fs f h v col) (O : gok h v s col) : ((∀ r q c d, ¬ isR h v col r q c d) ∧ f_G_isGood g w = some (w, 1)) ∨ ((∃ r q c d, isR h v col r q c d) ∧ f_G_isGood g w = some (w, 0)) := by
  unfold f_G_isGood e_G_isGood f_G_isGood_p15
  rw [H.self, lN_0]
  rcases G_anyRectangle H F O (W := 0) (by decide) with ⟨J1, J2⟩ | ⟨X, r, q, c, d, hX, hR, hh, hco, J⟩
  · refine Or.inl ⟨fun r q c d hR => ?_, ?_⟩
    · have := J1 r q c d hR
      unfold hit at this
      simp [Nat.zero_testBit] at this
    · rw [J2, Option.bind_some]; rfl
  · refine Or.inr ⟨⟨r, q, c, d, hR⟩, ?_⟩
    have hX0 : X ≠ 0 := by
      intro h0
      have := hco (r * v + c)
      rw [h0, Nat.zero_testBit] at this
      simp at this
    rw [J, Option.bind_some, if_pos (by rw [lg_cmp_eq, lN_e hX (by decide)]; exact hX0)]
    rfl
end RCA
