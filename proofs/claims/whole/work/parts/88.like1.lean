/-! IN HOW MANY WAYS A GRID IS LIKE ITSELF: the class -/
def dg (c i : Nat) : Nat := c / 2 ^ (2 * i) % 4
theorem dg_lt (c i : Nat) : dg c i < 4 := Nat.mod_lt _ (by decide)
theorem dg_I {c i : Nat} (hc : c < 256) (hi : i < 4) : (nI c >>> ((2 * nI i) &&& 31)) &&& 3 = nI (dg c i) := by
  rw [show (2 : Int32) = nI 2 from rfl, pk_mul, nI_shr (by omega) (by omega)]
  exact fa_mask _ 2
def plc (c : Nat) : Nat → Nat → Nat → Nat
  | 0, _, S => S
  | d + 1, i, S => plc c d (i + 1) (S ||| 2 ^ dg c i)
def isOd (n c : Nat) : Bool := decide (plc c n 0 0 = 2 ^ n - 1)
theorem od_facts : ∀ (n : Fin 5) (c : Fin 256), c.val < 2 ^ (2 * n.val) → isOd n.val c.val = true → (∀ i : Fin 4, i.val < n.val → dg c.val i.val < n.val) ∧ (∀ j : Fin 4, j.val < n.val → ∃ i : Fin 4, i.val < n.val ∧ dg c.val i.val = j.val) ∧ ∀ i j : Fin 4, i.val < n.val → j.val < n.val → dg c.val i.val = dg c.val j.val → i.val = j.val := by decide +kernel
theorem plc_lt (c : Nat) : ∀ d i S, S < 2 ^ 4 → plc c d i S < 2 ^ 4 := by
  intro d
  induction d with
  | zero => intro i S h; exact h
  | succ d ih =>
    intro i S h
    exact ih _ _ (Nat.or_lt_two_pow h (Nat.pow_lt_pow_right (by decide) (dg_lt c i)))
theorem ord_loop {c n : Nat} (hc : c < 256) (hn : n ≤ 4) (w : am_W) : ∀ d N i S, i + d = n → d < N → S < 2 ^ 4 → f_C_isOrder_p4 N (nI c) (nI n) (nI S) (nI i) w = some (w, if plc c d i S = 2 ^ n - 1 then 1 else 0) := by
  have h16 : 2 ^ n ≤ 2 ^ 4 := Nat.pow_le_pow_right (by decide) hn
  have hp := Nat.two_pow_pos n
  intro d
  induction d with
  | zero =>
    intro N i S hi hN hS
    obtain ⟨N, rfl⟩ : ∃ m, N = m + 1 := ⟨N - 1, by omega⟩
    have e : (1 : Int32) <<< (nI n &&& 31) - 1 = nI (2 ^ n - 1) := by
      rw [nI_shl1 (by omega)]
      exact pk_sub (b := 1) hp
    rw [f_C_isOrder_p4, if_pos (nI_le (by omega) (by omega)), e, plc]
    unfold f_C_isOrder_p41
    by_cases z : S = 2 ^ n - 1
    · rw [if_pos z, if_neg (by rw [z]; exact fun q => q rfl)]
      rfl
    · rw [if_neg z, if_pos (by rw [nI_eq (by omega) (by omega)]; exact z)]
      rfl
  | succ d ih =>
    intro N i S hi hN hS
    obtain ⟨N, rfl⟩ : ∃ m, N = m + 1 := ⟨N - 1, by omega⟩
    have hd := dg_lt c i
    rw [f_C_isOrder_p4, if_neg (nI_ge (by omega) (by omega)), dg_I hc (by omega), nI_shl1 (by omega), fa_or, nI_1, plc]
    exact ih N (i + 1) _ (by omega) (by omega) (Nat.or_lt_two_pow hS (Nat.pow_lt_pow_right (by decide) hd))
theorem C_isOrder {c n : Nat} (hc : c < 256) (hn : n ≤ 4) (w : am_W) : f_C_isOrder (nI c) (nI n) w = some (w, if isOd n c then 1 else 0) := by
  unfold f_C_isOrder e_C_isOrder
  have e := ord_loop hc hn w n am_N 0 0 (by omega) (by unfold am_N; omega) (by decide)
  have e' : f_C_isOrder_p4 am_N (nI c) (nI n) 0 0 w = _ := e
  rw [e']
  unfold isOd
  by_cases z : plc c n 0 0 = 2 ^ n - 1
  · rw [if_pos z, if_pos (decide_eq_true z)]
  · rw [if_neg z, if_neg (by rw [decide_eq_true_iff]; exact z)]
/-- where a cell goes -/
def pim (v p q k : Nat) : Nat := dg p (k / v) * v + dg q (k % v)
theorem pim_at {v p q r c : Nat} (hc : c < v) : pim v p q (r * v + c) = dg p r * v + dg q c := by
  obtain ⟨e1, e2⟩ := (cell_eq (v := v) (k := r * v + c) (r := r) (c := c) hc).mp rfl
  unfold pim
  rw [e1, e2]
def bij (n : Nat) (f : Nat → Nat) : Prop := (∀ k, k < n → f k < n) ∧ (∀ j, j < n → ∃ k, k < n ∧ f k = j) ∧ ∀ k k', k < n → k' < n → f k = f k' → k = k'
theorem pim_bij {h v p q : Nat} (h4 : h ≤ 4) (v4 : v ≤ 4) (hp : p < 2 ^ (2 * h)) (hq : q < 2 ^ (2 * v)) (op : isOd h p = true) (oq : isOd v q = true) : bij (h * v) (pim v p q) := by
  have p256 : p < 256 := Nat.lt_of_lt_of_le hp (Nat.pow_le_pow_right (by decide) (show 2 * h ≤ 8 by omega))
  have q256 : q < 256 := Nat.lt_of_lt_of_le hq (Nat.pow_le_pow_right (by decide) (show 2 * v ≤ 8 by omega))
  obtain ⟨a1, a2, a3⟩ := od_facts ⟨h, by omega⟩ ⟨p, p256⟩ hp op
  obtain ⟨b1, b2, b3⟩ := od_facts ⟨v, by omega⟩ ⟨q, q256⟩ hq oq
  have A1 : ∀ i, i < h → dg p i < h := fun i hi => a1 ⟨i, by omega⟩ hi
  have B1 : ∀ i, i < v → dg q i < v := fun i hi => b1 ⟨i, by omega⟩ hi
  have dv : ∀ k, k < h * v → k / v < h ∧ k % v < v := by
    intro k hk
    have v0 : 0 < v := Nat.pos_of_ne_zero (fun e => by subst e; omega)
    exact ⟨Nat.div_lt_of_lt_mul (by rw [Nat.mul_comm]; exact hk), Nat.mod_lt _ v0⟩
  refine ⟨fun k hk => ?_, fun j hj => ?_, fun k k' hk hk' e => ?_⟩
  · obtain ⟨k1, k2⟩ := dv k hk
    exact row_lt (A1 _ k1) (B1 _ k2)
  · obtain ⟨j1, j2⟩ := dv j hj
    obtain ⟨r, r1, r2⟩ := a2 ⟨j / v, by omega⟩ j1
    obtain ⟨c, c1, c2⟩ := b2 ⟨j % v, by omega⟩ j2
    refine ⟨r.val * v + c.val, row_lt r1 c1, ?_⟩
    rw [pim_at c1]
    have r2' : dg p r.val = j / v := r2
    have c2' : dg q c.val = j % v := c2
    rw [r2', c2', Nat.mul_comm]
    exact Nat.div_add_mod j v
  · obtain ⟨k1, k2⟩ := dv k hk
    obtain ⟨l1, l2⟩ := dv k' hk'
    have e1 := (cell_eq (v := v) (k := pim v p q k) (r := dg p (k / v)) (c := dg q (k % v)) (B1 _ k2)).mp rfl
    have e2 := (cell_eq (v := v) (k := pim v p q k) (r := dg p (k' / v)) (c := dg q (k' % v)) (B1 _ l2)).mp e
    have f1 := a3 ⟨k / v, by omega⟩ ⟨k' / v, by omega⟩ k1 l1 (show dg p (k / v) = dg p (k' / v) by omega)
    have f2 := b3 ⟨k % v, by omega⟩ ⟨k' % v, by omega⟩ k2 l2 (show dg q (k % v) = dg q (k' % v) by omega)
    have f1' : k / v = k' / v := f1
    have f2' : k % v = k' % v := f2
    rw [← Nat.div_add_mod k v, ← Nat.div_add_mod k' v, f1', f2']
def mv (p : Nat → Bool) (f : Nat → Nat) : Nat → Nat
  | 0 => 0
  | k + 1 => if p k then mv p f k ||| 2 ^ f k else mv p f k
theorem mv_bit (p : Nat → Bool) (f : Nat → Nat) (j : Nat) : ∀ n, (mv p f n).testBit j = true ↔ ∃ k, k < n ∧ p k = true ∧ f k = j := by
  intro n
  induction n with
  | zero => rw [mv, Nat.zero_testBit]; constructor
            · intro h; cases h
            · rintro ⟨k, hk, -⟩; omega
  | succ n ih =>
    rw [mv]
    by_cases z : p n = true
    · rw [if_pos z, or_bit, Bool.or_eq_true, decide_eq_true_iff, ih]
      constructor
      · rintro (⟨k, a, b, c⟩ | h)
        · exact ⟨k, by omega, b, c⟩
        · exact ⟨n, by omega, z, h⟩
      · rintro ⟨k, a, b, c⟩
        by_cases y : k = n
        · subst y; exact Or.inr c
        · exact Or.inl ⟨k, by omega, b, c⟩
    · rw [if_neg z, ih]
      constructor
      · rintro ⟨k, a, b, c⟩; exact ⟨k, by omega, b, c⟩
      · rintro ⟨k, a, b, c⟩
        by_cases y : k = n
        · subst y; exact absurd b z
        · exact ⟨k, by omega, b, c⟩
theorem mv_lt {p : Nat → Bool} {f : Nat → Nat} {n N : Nat} (hf : ∀ k, k < n → f k < N) : ∀ m, m ≤ n → mv p f m < 2 ^ N := by
  intro m
  induction m with
  | zero => intro _; exact Nat.two_pow_pos _
  | succ m ih =>
    intro hm
    rw [mv]
    split
    · exact Nat.or_lt_two_pow (ih (by omega)) (Nat.pow_lt_pow_right (by decide) (hf m (by omega)))
    · exact ih (by omega)
theorem mv_eq {h v : Nat} {col : Nat → Nat} {f : Nat → Nat} (b : bij (h * v) f) (c c' : Nat) : mv (fun k => decide (col k = c)) f (h * v) = stc h v col c' ↔ ∀ k, k < h * v → (col k = c ↔ col (f k) = c') := by
  obtain ⟨b1, b2, b3⟩ := b
  constructor
  · intro e k hk
    have h1 := mv_bit (fun k => decide (col k = c)) f (f k) (h * v)
    rw [e] at h1
    unfold stc at h1
    rw [bs_bit, Bool.and_eq_true, decide_eq_true_iff, decide_eq_true_iff] at h1
    constructor
    · intro hc
      exact (h1.mpr ⟨k, hk, decide_eq_true hc, rfl⟩).2
    · intro hc
      obtain ⟨k', k1, k2, k3⟩ := h1.mp ⟨b1 k hk, hc⟩
      have := b3 k' k k1 hk k3
      subst this
      exact of_decide_eq_true k2
  · intro hall
    apply Nat.eq_of_testBit_eq
    intro j
    unfold stc
    rw [bs_bit]
    rcases Nat.lt_or_ge j (h * v) with q | q
    · obtain ⟨k, k1, rfl⟩ := b2 j q
      rw [Bool.eq_iff_iff, mv_bit, Bool.and_eq_true, decide_eq_true_iff, decide_eq_true_iff]
      constructor
      · rintro ⟨k', a1, a2, a3⟩
        have := b3 k' k a1 k1 a3
        subst this
        exact ⟨q, (hall k' k1).mp (of_decide_eq_true a2)⟩
      · rintro ⟨-, a⟩
        exact ⟨k, k1, decide_eq_true ((hall k k1).mpr a), rfl⟩
    · have h1 : (mv (fun k => decide (col k = c)) f (h * v)).testBit j = false := Nat.testBit_lt_two_pow (Nat.lt_of_lt_of_le (mv_lt b1 _ (Nat.le_refl _)) (Nat.pow_le_pow_right (by decide) q))
      rw [h1, decide_eq_false (by omega)]
      rfl
def LKp (n : Nat) (f : Nat → Nat) (col : Nat → Nat) : Prop := (∀ k, k < n → (col k = 0 ↔ col (f k) = 0)) ∧ ∀ k, k < n → ∀ k', k' < n → (col k = col k' ↔ col (f k) = col (f k'))
section LKA
variable {w : am_W} {g a h v s : Nat} {f : Nat → Int64} {col : Nat → Nat}
theorem mvd_in (H : gr w g a h v s f) (O : gok h v s col) (P : Nat → Bool) {p q : Nat} (hp : p < 256) (hq : q < 256) (h4 : h ≤ 4) (v4 : v ≤ 4) (hb : ∀ k, k < h * v → pim v p q k < h * v) {r : Nat} (hr : r < h) (k6 : Nat → Int64 → Int32 → Int32 → Int64 → Int32 → am_W → Option (am_W × Int64)) : ∀ d N c, c + d = v → d < N → f_G_moved_p18 k6 N g (lN (bs P (h * v))) (nI p) (nI q) (lN (mv P (pim v p q) (r * v + c))) (nI r) (nI c) w = k6 g (lN (bs P (h * v))) (nI p) (nI q) (lN (mv P (pim v p q) ((r + 1) * v))) (nI (r + 1)) w := by
  have h64 := O.hv
  intro d
  induction d with
  | zero =>
    intro N c hc hN
    obtain ⟨N, rfl⟩ : ∃ m, N = m + 1 := ⟨N - 1, by omega⟩
    have ec : c = v := by omega
    subst ec
    rw [f_G_moved_p18, H.wi, Option.bind_some, if_pos (nI_le (by omega) (by omega)), nI_1, Nat.succ_mul]
  | succ d ih =>
    intro N c hc hN
    obtain ⟨N, rfl⟩ : ∃ m, N = m + 1 := ⟨N - 1, by omega⟩
    have hcv : c < v := by omega
    have hk := row_lt hr hcv
    have hbk := hb _ hk
    rw [pim_at hcv] at hbk
    have hml := mv_lt (p := P) hb (r * v + c) (by omega)
    have hm64 : mv P (pim v p q) (r * v + c) < 2 ^ 64 := Nat.lt_of_lt_of_le hml (Nat.pow_le_pow_right (by decide) h64)
    rw [f_G_moved_p18, H.wi, Option.bind_some, if_neg (nI_ge hcv (by omega)), G_cellAt H, Option.bind_some]
    have es : mv P (pim v p q) (r * v + (c + 1)) = if P (r * v + c) then mv P (pim v p q) (r * v + c) ||| 2 ^ (dg p r * v + dg q c) else mv P (pim v p q) (r * v + c) := by
      rw [← pim_at (v := v) (p := p) (q := q) (r := r) hcv]
      rfl
    have hi := ih N (c + 1) (by omega) (by omega)
    rw [es] at hi
    unfold f_G_moved_p80
    rw [nI_1]
    by_cases z : P (r * v + c) = true
    · rw [if_pos z] at hi
      rw [if_neg (by rw [lN_bit (bs_lt64 P h64) (by omega), bs_bit, z]; simp [hk]), dg_I hp (by omega), dg_I hq (by omega), G_cellAt H, Option.bind_some]
      simp only []
      rw [lN_shl1 (by omega), wb_or hm64 (Nat.pow_lt_pow_right (by decide) (by omega))]
      exact hi
    · rw [if_neg z] at hi
      rw [if_pos (by rw [lN_bit (bs_lt64 P h64) (by omega), bs_bit, Bool.eq_false_iff.mpr z, Bool.and_false])]
      exact hi
theorem mvd_out (H : gr w g a h v s f) (O : gok h v s col) (P : Nat → Bool) {p q : Nat} (hp : p < 256) (hq : q < 256) (h4 : h ≤ 4) (v4 : v ≤ 4) (hb : ∀ k, k < h * v → pim v p q k < h * v) : ∀ d N r, r + d = h → d < N → f_G_moved_p6 N g (lN (bs P (h * v))) (nI p) (nI q) (lN (mv P (pim v p q) (r * v))) (nI r) w = some (w, lN (mv P (pim v p q) (h * v))) := by
  intro d
  induction d with
  | zero =>
    intro N r hr hN
    obtain ⟨N, rfl⟩ : ∃ m, N = m + 1 := ⟨N - 1, by omega⟩
    have er : r = h := by omega
    subst er
    rw [f_G_moved_p6, H.hi, Option.bind_some, if_pos (nI_le (by omega) (by omega))]
  | succ d ih =>
    intro N r hr hN
    obtain ⟨N, rfl⟩ : ∃ m, N = m + 1 := ⟨N - 1, by omega⟩
    rw [f_G_moved_p6, H.hi, Option.bind_some, if_neg (nI_ge (by omega) (by omega))]
    have e := mvd_in H O P hp hq h4 v4 hb (r := r) (by omega) (f_G_moved_p6 N) v am_N 0 (by omega) (by unfold am_N; omega)
    have e' : f_G_moved_p18 (f_G_moved_p6 N) am_N g (lN (bs P (h * v))) (nI p) (nI q) (lN (mv P (pim v p q) (r * v))) (nI r) 0 w = _ := e
    rw [e']
    exact ih N (r + 1) (by omega) (by omega)
theorem G_moved (H : gr w g a h v s f) (O : gok h v s col) (P : Nat → Bool) {p q : Nat} (hp : p < 256) (hq : q < 256) (h4 : h ≤ 4) (v4 : v ≤ 4) (hb : ∀ k, k < h * v → pim v p q k < h * v) : f_G_moved g (lN (bs P (h * v))) (nI p) (nI q) w = some (w, lN (mv P (pim v p q) (h * v))) := by
  unfold f_G_moved e_G_moved
  rw [H.self]
  have e := mvd_out H O P hp hq h4 v4 hb h am_N 0 (by omega) (by unfold am_N; omega)
  rw [Nat.zero_mul] at e
  exact e
theorem one_loop (H : gr w g a h v s f) (F : fs f h v col) (O : gok h v s col) {Y : Nat} (hY : Y < 2 ^ 64) : ∀ d N c, c + d = s + 1 → 1 ≤ c → d < N → ((∃ c', c ≤ c' ∧ c' ≤ s ∧ stc h v col c' = Y) ∧ f_G_isOfOneColour_p2 N g (lN Y) (nI c) w = some (w, 1)) ∨ ((∀ c', c ≤ c' → c' ≤ s → stc h v col c' ≠ Y) ∧ f_G_isOfOneColour_p2 N g (lN Y) (nI c) w = some (w, 0)) := by
  have s4 := O.2.2.1
  intro d
  induction d with
  | zero =>
    intro N c hc h1 hN
    obtain ⟨N, rfl⟩ : ∃ m, N = m + 1 := ⟨N - 1, by omega⟩
    refine Or.inr ⟨fun c' a b => by omega, ?_⟩
    rw [f_G_isOfOneColour_p2, H.sh, Option.bind_some, if_pos (nI_lt (by omega) (by omega))]
  | succ d ih =>
    intro N c hc h1 hN
    obtain ⟨N, rfl⟩ : ∃ m, N = m + 1 := ⟨N - 1, by omega⟩
    rw [f_G_isOfOneColour_p2, H.sh, Option.bind_some, if_neg (nI_nlt (by omega) (by omega)), G_cellsOf H (by omega), Option.bind_some, F c (by omega), nI_1]
    by_cases z : stc h v col c = Y
    · rw [if_neg (by rw [lg_cmp_eq, z]; exact fun q => q rfl)]
      exact Or.inl ⟨⟨c, by omega, by omega, z⟩, rfl⟩
    · rw [if_pos (by rw [lg_cmp_eq, lN_e (stc_lt O c) hY]; exact z)]
      rcases ih N (c + 1) (by omega) (by omega) (by omega) with ⟨⟨c', a1, a2, a3⟩, e⟩ | ⟨a1, e⟩
      · exact Or.inl ⟨⟨c', by omega, a2, a3⟩, e⟩
      · refine Or.inr ⟨fun c' b1 b2 => ?_, e⟩
        by_cases y : c' = c
        · subst y; exact z
        · exact a1 c' (by omega) b2
theorem lik_loop (H : gr w g a h v s f) (F : fs f h v col) (O : gok h v s col) {p q : Nat} (hp : p < 256) (hq : q < 256) (h4 : h ≤ 4) (v4 : v ≤ 4) (hb : bij (h * v) (pim v p q)) : ∀ d N c, c + d = s + 1 → 1 ≤ c → d < N → ((∀ e, c ≤ e → e ≤ s → ∃ c', 1 ≤ c' ∧ c' ≤ s ∧ ∀ k, k < h * v → (col k = e ↔ col (pim v p q k) = c')) ∧ f_G_isLikeItself_p24 N g (nI p) (nI q) (nI c) w = some (w, 1)) ∨ ((∃ e, 1 ≤ e ∧ e ≤ s ∧ ∀ c', 1 ≤ c' → c' ≤ s → ¬ ∀ k, k < h * v → (col k = e ↔ col (pim v p q k) = c')) ∧ f_G_isLikeItself_p24 N g (nI p) (nI q) (nI c) w = some (w, 0)) := by
  have s4 := O.2.2.1
  have h64 := O.hv
  intro d
  induction d with
  | zero =>
    intro N c hc h1 hN
    obtain ⟨N, rfl⟩ : ∃ m, N = m + 1 := ⟨N - 1, by omega⟩
    refine Or.inl ⟨fun c' a b => by omega, ?_⟩
    rw [f_G_isLikeItself_p24, H.sh, Option.bind_some, if_pos (nI_lt (by omega) (by omega))]
  | succ d ih =>
    intro N c hc h1 hN
    obtain ⟨N, rfl⟩ : ∃ m, N = m + 1 := ⟨N - 1, by omega⟩
    have hm64 : mv (fun k => decide (col k = c)) (pim v p q) (h * v) < 2 ^ 64 := Nat.lt_of_lt_of_le (mv_lt hb.1 _ (Nat.le_refl _)) (Nat.pow_le_pow_right (by decide) h64)
    rw [f_G_isLikeItself_p24, H.sh, Option.bind_some, if_neg (nI_nlt (by omega) (by omega)), G_cellsOf H (by omega), Option.bind_some, F c (by omega)]
    have em : f_G_moved g (lN (stc h v col c)) (nI p) (nI q) w = some (w, lN (mv (fun k => decide (col k = c)) (pim v p q) (h * v))) := G_moved H O _ hp hq h4 v4 hb.1
    rw [em, Option.bind_some]
    unfold f_G_isOfOneColour e_G_isOfOneColour
    rw [H.self]
    have eo := one_loop H F O hm64 s am_N 1 (by omega) (by omega) (by unfold am_N; omega)
    rcases eo with ⟨⟨c', a1, a2, a3⟩, e⟩ | ⟨a1, e⟩
    · have e' : f_G_isOfOneColour_p2 am_N g (lN (mv (fun k => decide (col k = c)) (pim v p q) (h * v))) 1 w = _ := e
      rw [e', Option.bind_some, if_pos (show ¬ (1 : Int32) = 0 by decide), nI_1]
      rcases ih N (c + 1) (by omega) (by omega) (by omega) with ⟨b1, e2⟩ | ⟨b1, e2⟩
      · refine Or.inl ⟨fun x x1 x2 => ?_, e2⟩
        by_cases y : x = c
        · subst y
          exact ⟨c', a1, a2, (mv_eq hb x c').mp a3.symm⟩
        · exact b1 x (by omega) x2
      · exact Or.inr ⟨b1, e2⟩
    · have e' : f_G_isOfOneColour_p2 am_N g (lN (mv (fun k => decide (col k = c)) (pim v p q) (h * v))) 1 w = _ := e
      rw [e', Option.bind_some, if_neg (fun q => q rfl)]
      exact Or.inr ⟨⟨c, h1, by omega, fun c' b1 b2 hall => a1 c' b1 b2 ((mv_eq hb c c').mpr hall).symm⟩, rfl⟩
theorem lk_class (O : gok h v s col) {π : Nat → Nat} (hb : bij (h * v) π) : LKp (h * v) π col ↔ (∀ k, k < h * v → (col k = 0 ↔ col (π k) = 0)) ∧ ∀ e, 1 ≤ e → e ≤ s → ∃ c', 1 ≤ c' ∧ c' ≤ s ∧ ∀ k, k < h * v → (col k = e ↔ col (π k) = c') := by
  have oc := O.2.2.2.2.2
  constructor
  · rintro ⟨z, l⟩
    refine ⟨z, fun e e1 e2 => ?_⟩
    by_cases occ : ∃ k0, k0 < h * v ∧ col k0 = e
    · obtain ⟨k0, k1, k2⟩ := occ
      refine ⟨col (π k0), ?_, oc _ (hb.1 _ k1), fun k hk => ?_⟩
      · rcases Nat.eq_zero_or_pos (col (π k0)) with y | y
        · have := (z k0 k1).mpr y
          omega
        · exact y
      · rw [← k2]
        exact l k hk k0 k1
    · refine ⟨e, e1, e2, fun k hk => ⟨fun y => absurd ⟨k, hk, y⟩ occ, fun y => absurd ⟨π k, hb.1 k hk, y⟩ occ⟩⟩
  · rintro ⟨z, l⟩
    refine ⟨z, fun k hk k' hk' => ?_⟩
    constructor
    · intro e
      rcases Nat.eq_zero_or_pos (col k) with y | y
      · rw [(z k hk).mp y, (z k' hk').mp (by omega)]
      · obtain ⟨c', -, -, h3⟩ := l (col k) y (oc k hk)
        rw [(h3 k hk).mp rfl, (h3 k' hk').mp e.symm]
    · intro e
      rcases Nat.eq_zero_or_pos (col (π k)) with y | y
      · rw [(z k hk).mpr y, (z k' hk').mpr (by omega)]
      · have kc : 1 ≤ col k := by
          rcases Nat.eq_zero_or_pos (col k) with u | u
          · have := (z k hk).mp u; omega
          · exact u
        obtain ⟨c', -, -, h3⟩ := l (col k) kc (oc k hk)
        have e1 := (h3 k hk).mp rfl
        exact ((h3 k' hk').mpr (by omega)).symm
theorem G_isLike (H : gr w g a h v s f) (F : fs f h v col) (O : gok h v s col) {p q : Nat} (hp : p < 256) (hq : q < 256) (h4 : h ≤ 4) (v4 : v ≤ 4) (hb : bij (h * v) (pim v p q)) : (LKp (h * v) (pim v p q) col ∧ f_G_isLikeItself g (nI p) (nI q) w = some (w, 1)) ∨ (¬ LKp (h * v) (pim v p q) col ∧ f_G_isLikeItself g (nI p) (nI q) w = some (w, 0)) := by
  have s4 := O.2.2.1
  have h64 := O.hv
  have hm64 : mv (fun k => decide (col k = 0)) (pim v p q) (h * v) < 2 ^ 64 := Nat.lt_of_lt_of_le (mv_lt hb.1 _ (Nat.le_refl _)) (Nat.pow_le_pow_right (by decide) h64)
  have ec : f_G_cellsOf g 0 w = some (w, lN (stc h v col 0)) := by
    have := G_cellsOf H (c := 0) (by decide)
    rw [F 0 (by decide)] at this
    exact this
  have em : f_G_moved g (lN (stc h v col 0)) (nI p) (nI q) w = some (w, lN (mv (fun k => decide (col k = 0)) (pim v p q) (h * v))) := G_moved H O _ hp hq h4 v4 hb.1
  rw [lk_class O hb]
  unfold f_G_isLikeItself e_G_isLikeItself
  rw [H.self, ec, Option.bind_some, em, Option.bind_some, ec, Option.bind_some]
  by_cases z : mv (fun k => decide (col k = 0)) (pim v p q) (h * v) = stc h v col 0
  · have zz := (mv_eq hb 0 0).mp z
    rw [if_pos (by rw [lg_cmp_eq, z])]
    rcases lik_loop H F O hp hq h4 v4 hb s am_N 1 (by omega) (by omega) (by unfold am_N; omega) with ⟨b1, e2⟩ | ⟨⟨e, b1, b2, b3⟩, e2⟩
    · exact Or.inl ⟨⟨zz, b1⟩, e2⟩
    · refine Or.inr ⟨fun y => ?_, e2⟩
      obtain ⟨c', d1, d2, d3⟩ := y.2 e b1 b2
      exact b3 c' d1 d2 d3
  · rw [if_neg (by rw [lg_cmp_eq, lN_e hm64 (stc_lt O 0)]; exact z)]
    exact Or.inr ⟨fun y => z ((mv_eq hb 0 0).mpr y.1), rfl⟩
end LKA
