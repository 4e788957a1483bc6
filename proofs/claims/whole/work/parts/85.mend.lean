/-! THE FEWEST CELLS TO BE WIPED -/
def mts (h v : Nat) (col : Nat → Nat) (X : Nat) : Prop := ∀ t ∈ rcs h v col 0, cr4 v t &&& X ≠ 0
def ad : Nat → Nat → Nat → Prop
  | 0, W, Y => Y = W
  | m + 1, W, Y => Y = W ∨ ∃ c, c < 64 ∧ ad m (W ||| 2 ^ c) Y
theorem and_ne0 {a b : Nat} : a &&& b ≠ 0 ↔ ∃ k, a.testBit k = true ∧ b.testBit k = true := by
  constructor
  · intro h
    obtain ⟨k, hk⟩ := Nat.exists_testBit_of_ne_zero h
    rw [Nat.testBit_and, Bool.and_eq_true] at hk
    exact ⟨k, hk⟩
  · rintro ⟨k, h1, h2⟩ e
    have : (a &&& b).testBit k = true := by rw [Nat.testBit_and, h1, h2]; rfl
    rw [e, Nat.zero_testBit] at this
    cases this
theorem hit_iff (v W : Nat) (t : Nat × Nat × Nat × Nat) : hit v W t.1 t.2.1 t.2.2.1 t.2.2.2 = true ↔ cr4 v t &&& W ≠ 0 := by
  rw [and_ne0]
  unfold hit
  constructor
  · intro h
    rw [Bool.or_eq_true, Bool.or_eq_true, Bool.or_eq_true] at h
    rcases h with ((h | h) | h) | h
    · exact ⟨_, by rw [cr4_bit]; simp, h⟩
    · exact ⟨_, by rw [cr4_bit]; simp, h⟩
    · exact ⟨_, by rw [cr4_bit]; simp, h⟩
    · exact ⟨_, by rw [cr4_bit]; simp, h⟩
  · rintro ⟨k, h1, h2⟩
    rw [cr4_bit, Bool.or_eq_true, Bool.or_eq_true, Bool.or_eq_true, decide_eq_true_iff, decide_eq_true_iff, decide_eq_true_iff, decide_eq_true_iff] at h1
    rcases h1 with ((h | h) | h) | h <;> subst h <;> simp [h2]
theorem cr4_ne0 (v : Nat) (t : Nat × Nat × Nat × Nat) : cr4 v t ≠ 0 := by
  intro e
  have : (cr4 v t).testBit (t.1 * v + t.2.2.1) = true := by rw [cr4_bit]; simp
  rw [e, Nat.zero_testBit] at this
  cases this
theorem cr4_in {h v : Nat} {col : Nat → Nat} {t : Nat × Nat × Nat × Nat} (ht : t ∈ rcs h v col 0) {k : Nat} (hk : (cr4 v t).testBit k = true) : k < h * v := by
  obtain ⟨r, q, c, d⟩ := t
  obtain ⟨h1, h2, h3, h4, -⟩ := mem_rcs.mp ht
  rw [cr4_bit, Bool.or_eq_true, Bool.or_eq_true, Bool.or_eq_true, decide_eq_true_iff, decide_eq_true_iff, decide_eq_true_iff, decide_eq_true_iff] at hk
  rcases hk with ((e | e) | e) | e <;> subst e
  · exact row_lt (show r < h by omega) (show c < v by omega)
  · exact row_lt (show r < h by omega) h4
  · exact row_lt h2 (show c < v by omega)
  · exact row_lt h2 h4
theorem ad_sub : ∀ m W Y, ad m W Y → W ||| Y = Y := by
  intro m
  induction m with
  | zero => intro W Y h; cases h; exact Nat.or_self _
  | succ m ih =>
    intro W Y h
    rcases h with rfl | ⟨c, -, h⟩
    · exact Nat.or_self _
    · have := ih _ _ h
      rw [← this, ← Nat.or_assoc, ← Nat.or_assoc, Nat.or_self]
theorem ad_le {m W Y : Nat} (h : ad m W Y) : W ≤ Y := by
  rw [← ad_sub m W Y h]
  exact Nat.left_le_or
theorem ad_self (m W : Nat) : ad m W W := by
  cases m with
  | zero => rfl
  | succ m => exact Or.inl rfl
theorem or_bit (W c k : Nat) : (W ||| 2 ^ c).testBit k = (W.testBit k || decide (c = k)) := by rw [Nat.testBit_or, Nat.testBit_two_pow]
theorem ad_ex : ∀ m W Y c, c < 64 → ad (m + 1) W Y → Y.testBit c = true → W.testBit c = false → ad m (W ||| 2 ^ c) Y := by
  intro m
  induction m with
  | zero =>
    intro W Y c hc h y w
    rcases h with rfl | ⟨e, he, h⟩
    · rw [w] at y; cases y
    · cases h
      rw [or_bit, w] at y
      simp at y
      subst y
      rfl
  | succ m ih =>
    intro W Y c hc h y w
    rcases h with rfl | ⟨e, he, h⟩
    · rw [w] at y; cases y
    · by_cases z : e = c
      · subst z; exact h
      · have := ih (W ||| 2 ^ e) Y c hc h y (by rw [or_bit, w]; simp [z])
        refine Or.inr ⟨e, he, ?_⟩
        rw [Nat.or_assoc, Nat.or_comm (2 ^ c), ← Nat.or_assoc]
        exact this
theorem ad_lt : ∀ m W Y, W < 2 ^ 64 → ad m W Y → Y < 2 ^ 64 := by
  intro m
  induction m with
  | zero => intro W Y hW h; cases h; exact hW
  | succ m ih =>
    intro W Y hW h
    rcases h with rfl | ⟨c, hc, h⟩
    · exact hW
    · exact ih _ _ (Nat.or_lt_two_pow hW (Nat.pow_lt_pow_right (by decide) hc)) h
section MEA
variable {n1 n2 L : Nat} {xs : Nat → Int32} {g : Nat → GR} {i : Nat → Int32} {A : Nat → Nat → Int32} {m : Nat → Int32} {B : Nat → Nat → Int32} {J : Nat → Int64} {wd : Int64} {o : Nat → Int64} {h v s : Nat} {col : Nat → Nat}
theorem any_mts (C : cg g 11 h v s col) (O : gok h v s col) {W : Nat} (hW : W < 2 ^ 64) : (mts h v col W ∧ f_G_anyRectangle 11 (lN W) (mk n1 n2 L xs g i A m B J wd o) = some (mk n1 n2 L xs g i A m B J wd o, 0)) ∨ ∃ t, t ∈ rcs h v col 0 ∧ cr4 v t &&& W = 0 ∧ f_G_anyRectangle 11 (lN W) (mk n1 n2 L xs g i A m B J wd o) = some (mk n1 n2 L xs g i A m B J wd o, lN (cr4 v t)) := by
  rcases G_anyRectangle (C.g11 (n1 := n1) (n2 := n2) (L := L) (xs := xs) (i := i) (A := A) (m := m) (B := B) (J := J) (wd := wd) (o := o)) C.2.2.2 O hW with ⟨a, e⟩ | ⟨X, r, q, c, d, hX, hR, hh, hc, e⟩
  · refine Or.inl ⟨fun t ht => ?_, e⟩
    obtain ⟨r, q, c, d⟩ := t
    obtain ⟨h1, h2, h3, h4, h5⟩ := mem_rcs.mp ht
    exact (hit_iff v W (r, q, c, d)).mp (a r q c d ⟨h1, h2, h3, h4, (okc_0 _).mp h5⟩)
  · have hm : (r, q, c, d) ∈ rcs h v col 0 := mem_rcs.mpr ⟨hR.1, hR.2.1, hR.2.2.1, hR.2.2.2.1, (okc_0 _).mpr hR.2.2.2.2⟩
    have eX : X = cr4 v (r, q, c, d) := by
      apply Nat.eq_of_testBit_eq
      intro k
      rw [hc k, cr4_bit]
    refine Or.inr ⟨(r, q, c, d), hm, ?_, by rw [e, eX]⟩
    rcases Nat.eq_zero_or_pos (cr4 v (r, q, c, d) &&& W) with z | z
    · exact z
    · have := (hit_iff v W (r, q, c, d)).mpr (by omega)
      have hh' : hit v W r q c d = false := hh
      rw [show hit v W (r, q, c, d).1 (r, q, c, d).2.1 (r, q, c, d).2.2.1 (r, q, c, d).2.2.2 = hit v W r q c d from rfl, hh'] at this
      cases this
theorem C_isLess {a b : Nat} (ha : a < 2 ^ 64) (hb : b < 2 ^ 64) (w : am_W) : f_C_isLess (lN a) (lN b) w = some (w, if a < b then 1 else 0) := by
  unfold f_C_isLess e_C_isLess f_C_isLess_p19
  by_cases z : a < b
  · rw [if_pos z, if_neg (by rw [lg_cmp_ge, ultL ha hb]; omega)]
    rfl
  · rw [if_neg z, if_pos (by rw [lg_cmp_ge, ultL ha hb]; omega)]
    rfl
theorem lm_loop (P : Nat → Nat → Prop) (rc : Nat → Int64 → Int32 → am_W → Option (am_W × Int64)) {W X m0 : Nat} (hW : W < 2 ^ 64) (hX : X < 2 ^ 64) (w : am_W) (hrc : ∀ c, c < 64 → ∃ r, r < 2 ^ 64 ∧ rc 11 (lN (W ||| 2 ^ c)) (nI m0) w = some (w, lN r) ∧ (∀ Y, P c Y → r ≤ Y) ∧ (r = 2 ^ 64 - 1 ∨ P c r)) :
    ∀ d n c l, c + d = 64 → d < n → l < 2 ^ 64 → (∀ c', c' < c → X.testBit c' = true → ∀ Y, P c' Y → l ≤ Y) → (l = 2 ^ 64 - 1 ∨ ∃ c', c' < 64 ∧ X.testBit c' = true ∧ P c' l) →
      ∃ r, r < 2 ^ 64 ∧ f_C_leastMend_p32 rc n 11 (lN W) (nI (m0 + 1)) (lN X) (lN l) (nI c) w = some (w, lN r) ∧ (∀ c', c' < 64 → X.testBit c' = true → ∀ Y, P c' Y → r ≤ Y) ∧ (r = 2 ^ 64 - 1 ∨ ∃ c', c' < 64 ∧ X.testBit c' = true ∧ P c' r) := by
  intro d
  induction d with
  | zero =>
    intro n c l hc hn hl h1 h2
    obtain ⟨n, rfl⟩ : ∃ m, n = m + 1 := ⟨n - 1, by omega⟩
    have q : (64 : Int32) ≤ nI c := nI_le (a := 64) (by omega) (by omega)
    refine ⟨l, hl, ?_, fun c' h => h1 c' (by omega), h2⟩
    rw [f_C_leastMend_p32, if_pos q]
  | succ d ih =>
    intro n c l hc hn hl h1 h2
    obtain ⟨n, rfl⟩ : ∃ m, n = m + 1 := ⟨n - 1, by omega⟩
    have q : ¬ (64 : Int32) ≤ nI c := nI_ge (b := 64) (by omega) (by omega)
    rw [f_C_leastMend_p32, if_neg q]
    unfold f_C_leastMend_p83 f_C_leastMend_p85
    rw [nI_1]
    by_cases z : X.testBit c = true
    · rw [if_neg (by rw [lN_bit hX (by omega), z]; decide), lN_shl1 (by omega), wb_or hW (Nat.pow_lt_pow_right (by decide) (by omega)), show nI (m0 + 1) - 1 = nI m0 from pk_sub (b := 1) (by omega)]
      obtain ⟨r, r1, r2, r3, r4⟩ := hrc c (by omega)
      rw [r2, Option.bind_some, C_isLess r1 hl, Option.bind_some]
      by_cases y : r < l
      · rw [if_pos y, if_neg (show ¬ (1 : Int32) = 0 by decide)]
        refine ih n (c + 1) r (by omega) (by omega) r1 (fun c' h hx Y hY => ?_) ?_
        · by_cases u : c' = c
          · subst u; exact r3 Y hY
          · have := h1 c' (by omega) hx Y hY; omega
        · rcases r4 with r4 | r4
          · exact Or.inl r4
          · exact Or.inr ⟨c, by omega, z, r4⟩
      · rw [if_neg y, if_pos rfl]
        refine ih n (c + 1) l (by omega) (by omega) hl (fun c' h hx Y hY => ?_) h2
        by_cases u : c' = c
        · subst u; have := r3 Y hY; omega
        · exact h1 c' (by omega) hx Y hY
    · rw [if_pos (by rw [lN_bit hX (by omega)]; exact Bool.eq_false_iff.mpr z)]
      refine ih n (c + 1) l (by omega) (by omega) hl (fun c' h hx Y hY => ?_) h2
      by_cases u : c' = c
      · subst u; exact absurd hx z
      · exact h1 c' (by omega) hx Y hY
theorem C_lm (C : cg g 11 h v s col) (O : gok h v s col) : ∀ k N W, W < 2 ^ 64 → k < N → N ≤ 6 → ∃ r, r < 2 ^ 64 ∧ f_C_leastMend N 11 (lN W) (nI k) (mk n1 n2 L xs g i A m B J wd o) = some (mk n1 n2 L xs g i A m B J wd o, lN r) ∧ (∀ Y, ad k W Y ∧ mts h v col Y → r ≤ Y) ∧ (r = 2 ^ 64 - 1 ∨ (ad k W r ∧ mts h v col r)) := by
  have h64 := O.hv
  intro k
  induction k with
  | zero =>
    intro N W hW hN hN6
    obtain ⟨N, rfl⟩ : ∃ m, N = m + 1 := ⟨N - 1, by omega⟩
    rw [f_C_leastMend]
    unfold e_C_leastMend
    rcases any_mts (n1 := n1) (n2 := n2) (L := L) (xs := xs) (i := i) (A := A) (m := m) (B := B) (J := J) (wd := wd) (o := o) C O hW with ⟨a, e⟩ | ⟨t, ht, hz, e⟩
    · refine ⟨W, hW, ?_, fun Y hY => ad_le hY.1, Or.inr ⟨rfl, a⟩⟩
      rw [e, Option.bind_some]
      rfl
    · have hl := cr4_lt h64 ht
      have hne : ¬ lg_cmp (lN (cr4 v t)) 0 = 0 := by
        rw [lg_cmp_eq, lN_0, lN_e hl (by decide)]
        exact cr4_ne0 v t
      refine ⟨2 ^ 64 - 1, by decide, ?_, fun Y hY => ?_, Or.inl rfl⟩
      · rw [e, Option.bind_some, if_pos hne, if_neg (show ¬ (0 : Int32) < nI 0 by decide)]
        rfl
      · obtain ⟨h1, h2⟩ := hY
        cases h1
        exact absurd hz (h2 t ht)
  | succ k ih =>
    intro N W hW hN hN6
    obtain ⟨N, rfl⟩ : ∃ m, N = m + 1 := ⟨N - 1, by omega⟩
    rw [f_C_leastMend]
    unfold e_C_leastMend
    rcases any_mts (n1 := n1) (n2 := n2) (L := L) (xs := xs) (i := i) (A := A) (m := m) (B := B) (J := J) (wd := wd) (o := o) C O hW with ⟨a, e⟩ | ⟨t, ht, hz, e⟩
    · refine ⟨W, hW, ?_, fun Y hY => ad_le hY.1, Or.inr ⟨Or.inl rfl, a⟩⟩
      rw [e, Option.bind_some]
      rfl
    · have hl := cr4_lt h64 ht
      have hne : ¬ lg_cmp (lN (cr4 v t)) 0 = 0 := by
        rw [lg_cmp_eq, lN_0, lN_e hl (by decide)]
        exact cr4_ne0 v t
      obtain ⟨r, r1, r2, r3, r4⟩ := lm_loop (fun c Y => ad k (W ||| 2 ^ c) Y ∧ mts h v col Y) (f_C_leastMend N) (W := W) (X := cr4 v t) (m0 := k) hW hl (mk n1 n2 L xs g i A m B J wd o) (fun c hc => ih N (W ||| 2 ^ c) (Nat.or_lt_two_pow hW (Nat.pow_lt_pow_right (by decide) hc)) (by omega) (by omega)) 64 am_N 0 (2 ^ 64 - 1) (by omega) (by unfold am_N; omega) (by decide) (fun c' h => by omega) (Or.inl rfl)
      refine ⟨r, r1, ?_, fun Y hY => ?_, ?_⟩
      · rw [e, Option.bind_some, if_pos hne]
        have q : (0 : Int32) < nI (k + 1) := nI_lt (a := 0) (by omega) (by omega)
        rw [if_pos q, lN_m1]
        exact r2
      · obtain ⟨h1, h2⟩ := hY
        obtain ⟨c, c1, c2⟩ := and_ne0.mp (h2 t ht)
        have cl := cr4_in ht c1
        have cw : W.testBit c = false := by
          rcases hb : W.testBit c with _ | _
          · rfl
          · exact absurd hz (and_ne0.mpr ⟨c, c1, hb⟩)
        exact r3 c (by omega) c1 Y ⟨ad_ex k W Y c (by omega) h1 c2 cw, h2⟩
      · rcases r4 with r4 | ⟨c, c1, c2, c3, c4⟩
        · exact Or.inl r4
        · exact Or.inr ⟨Or.inr ⟨c, c1, c3⟩, c4⟩
end MEA
