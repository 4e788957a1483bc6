/-! SETS OF CELLS AS NUMBERS -/
def bs (p : Nat → Bool) : Nat → Nat
  | 0 => 0
  | n + 1 => bs p n + if p n then 2 ^ n else 0
theorem bs_lt (p : Nat → Bool) : ∀ n, bs p n < 2 ^ n
  | 0 => Nat.one_pos
  | n + 1 => by
    have h := bs_lt p n
    rw [bs, Nat.pow_succ]
    split <;> omega
theorem bs_bit (p : Nat → Bool) (k : Nat) : ∀ n, (bs p n).testBit k = (decide (k < n) && p k)
  | 0 => by rw [bs, Nat.zero_testBit]; simp
  | n + 1 => by
    have h := bs_bit p k n
    have hl := bs_lt p n
    rw [bs]
    rcases Nat.lt_trichotomy k n with q | q | q
    · have e1 : decide (k < n) = true := by simpa using q
      have e2 : decide (k < n + 1) = true := by simp; omega
      rw [e1] at h
      rw [e2]
      split
      · rw [Nat.add_comm, Nat.testBit_two_pow_add_gt q]; exact h
      · exact h
    · subst q
      have e1 : decide (k < k) = false := by simp
      have e2 : decide (k < k + 1) = true := by simp
      rw [e1] at h
      rw [e2]
      cases hp : p k with
      | true => rw [if_pos rfl, Nat.add_comm, Nat.testBit_two_pow_add_eq, h]; rfl
      | false => rw [if_neg (by decide), Nat.add_zero, h]; rfl
    · have e2 : decide (k < n + 1) = false := by simp; omega
      rw [e2, Bool.false_and]
      refine Nat.testBit_lt_two_pow (Nat.lt_of_lt_of_le ?_ (Nat.pow_le_pow_right (by decide) (show n + 1 ≤ k from q)))
      rw [Nat.pow_succ]
      split <;> omega
theorem bs_ext {x n : Nat} {p : Nat → Bool} (hx : x < 2 ^ n) (h : ∀ k, k < n → x.testBit k = p k) : x = bs p n := by
  apply Nat.eq_of_testBit_eq
  intro k
  rw [bs_bit]
  rcases Nat.lt_or_ge k n with q | q
  · rw [h k q]; simp [q]
  · rw [Nat.testBit_lt_two_pow (Nat.lt_of_lt_of_le hx (Nat.pow_le_pow_right (by decide) q))]
    simp [Nat.not_lt.mpr q]
theorem bs_cong {p q : Nat → Bool} {n : Nat} (h : ∀ k, k < n → p k = q k) : bs p n = bs q n :=
  bs_ext (bs_lt p n) (fun k hk => by rw [bs_bit, h k hk]; simp [hk])
theorem bs_and (p q : Nat → Bool) (n : Nat) : bs p n &&& bs q n = bs (fun k => p k && q k) n :=
  bs_ext (Nat.lt_of_le_of_lt Nat.and_le_left (bs_lt p n)) (fun k hk => by rw [Nat.testBit_and, bs_bit, bs_bit]; simp [hk])
theorem bs_or (p q : Nat → Bool) (n : Nat) : bs p n ||| bs q n = bs (fun k => p k || q k) n :=
  bs_ext (Nat.or_lt_two_pow (bs_lt p n) (bs_lt q n)) (fun k hk => by rw [Nat.testBit_or, bs_bit, bs_bit]; simp [hk])
theorem bs_le {p : Nat → Bool} {n m : Nat} (h : n ≤ m) : bs p n = bs (fun k => decide (k < n) && p k) m :=
  bs_ext (Nat.lt_of_lt_of_le (bs_lt p n) (Nat.pow_le_pow_right (by decide) h)) (fun k _ => bs_bit p k n)
theorem bs_lt64 (p : Nat → Bool) {n : Nat} (h : n ≤ 64) : bs p n < 2 ^ 64 := Nat.lt_of_lt_of_le (bs_lt p n) (Nat.pow_le_pow_right (by decide) h)
theorem bs_inj {p q : Nat → Bool} {n : Nat} (h : bs p n = bs q n) : ∀ k, k < n → p k = q k := by
  intro k hk
  have h1 := bs_bit p k n
  rw [h, bs_bit] at h1
  simpa [hk] using h1.symm
theorem bs_zero {p : Nat → Bool} {n : Nat} : bs p n = 0 ↔ ∀ k, k < n → p k = false := by
  constructor
  · intro h k hk
    have h1 := bs_bit p k n
    rw [h, Nat.zero_testBit] at h1
    simpa [hk] using h1.symm
  · intro h
    exact (bs_ext (x := 0) (Nat.two_pow_pos n) (fun k hk => by rw [Nat.zero_testBit, h k hk])).symm
theorem ct_bs (p : Nat → Bool) (n : Nat) : fb_ct (fun k => (bs p n).testBit k) n = fb_ct p n := fb_ct_cong (fun k hk => by rw [bs_bit]; simp [hk])
/-! longs that are such sets -/
theorem lN_e {a b : Nat} (ha : a < 2 ^ 64) (hb : b < 2 ^ 64) : lN a = lN b ↔ a = b := by
  constructor
  · intro h
    have h1 := congrArg (fun x : Int64 => x.toBitVec.toNat) h
    simp only [wb_tn ha, wb_tn hb] at h1
    exact h1
  · intro h; rw [h]
theorem lN_0 : (0 : Int64) = lN 0 := rfl
theorem lN_m1 : (-1 : Int64) = lN (2 ^ 64 - 1) := by decide
theorem lN_one : (1 : Int64) = lN 1 := rfl
theorem am_lu_eq {n k : Nat} (hn : n < 2 ^ 64) (hk : k < 64) : am_lu (lN n) (nI k) = lN (n / 2 ^ k) := wb_shr hn hk
theorem lN_bit {n k : Nat} (hn : n < 2 ^ 64) (hk : k < 64) : (lg_cmp (am_lu (lN n) (nI k) &&& 1) 0 = 0) ↔ n.testBit k = false := by
  rw [lg_cmp_eq, am_lu_eq hn hk, g_and1 (Nat.lt_of_le_of_lt (Nat.div_le_self _ _) hn), lN_0, lN_e (by omega) (by decide), Nat.testBit_eq_decide_div_mod_eq]
  simp
theorem lN_shl1 {k : Nat} (hk : k < 64) : (1 : Int64) <<< (Int32.toInt64 (nI k) &&& 63) = lN (2 ^ k) := by
  have h := wb_shl 1 hk
  rw [Nat.one_mul] at h
  exact h
theorem lN_not {n : Nat} (hn : n < 2 ^ 64) : lN n ^^^ (-1) = lN (2 ^ 64 - 1 - n) := by
  rw [lN_m1, fb_xorL]
  congr 1
  apply Nat.eq_of_testBit_eq
  intro k
  rw [Nat.testBit_xor, Nat.testBit_two_pow_sub_one, show 2 ^ 64 - 1 - n = 2 ^ 64 - (n + 1) by omega, Nat.testBit_two_pow_sub_succ hn]
  cases hh : n.testBit k with
  | true =>
    have : k < 64 := by
      rcases Nat.lt_or_ge k 64 with q | q
      · exact q
      · rw [Nat.testBit_lt_two_pow (Nat.lt_of_lt_of_le hn (Nat.pow_le_pow_right (by decide) q))] at hh; cases hh
    simp [this]
  | false => simp
theorem not_bit {n k : Nat} (hn : n < 2 ^ 64) : (2 ^ 64 - 1 - n).testBit k = (decide (k < 64) && !n.testBit k) := by
  rw [show 2 ^ 64 - 1 - n = 2 ^ 64 - (n + 1) by omega, Nat.testBit_two_pow_sub_succ hn]
theorem bit_pow (k i : Nat) : (2 ^ k).testBit i = decide (k = i) := Nat.testBit_two_pow
/-! ints -/
theorem am_iu_eq {n k : Nat} (hn : n < 2 ^ 32) (hk : k < 32) : am_iu (nI n) (nI k) = nI (n / 2 ^ k) := pk_ushrN hn (nI k) k (s_u k hk)
theorem nI_shl1 {k : Nat} (hk : k < 31) : (1 : Int32) <<< (nI k &&& 31) = nI (2 ^ k) := by
  have h := pk_shlN (n := 1) (nI k &&& 31) k (s_l k (by omega)) (by rw [Nat.one_mul]; exact Nat.lt_of_lt_of_le (wb_lt2 hk) (by decide))
  rw [Nat.one_mul] at h
  exact h
theorem nI_shr {n k : Nat} (hn : n < 2 ^ 31) (hk : k < 32) : nI n >>> (nI k &&& 31) = nI (n / 2 ^ k) := pk_shrN hn (nI k &&& 31) k (s_l k hk)
theorem lN_toI (n : Nat) : Int64.toInt32 (lN n) = nI n := lN_i n
theorem nI_mod (n : Nat) : nI n = nI (n % 2 ^ 32) := by
  apply Int32.toBitVec_inj.mp
  apply BitVec.eq_of_toNat_eq
  show (BitVec.ofNat 32 n).toNat = (BitVec.ofNat 32 (n % 2 ^ 32)).toNat
  rw [BitVec.toNat_ofNat, BitVec.toNat_ofNat, Nat.mod_mod]
theorem nI_not {n k : Nat} (hn : n < 2 ^ 31) (hk : k < 31) : nI n &&& (nI (2 ^ k) ^^^ (-1)) = nI (n &&& (2 ^ 31 - 1 - 2 ^ k)) := by
  rw [show (-1 : Int32) = nI (2 ^ 32 - 1) by decide, fb_xorI, fa_and]
  congr 1
  apply Nat.eq_of_testBit_eq
  intro i
  have hk' : 2 ^ k < 2 ^ 31 := wb_lt2 hk
  rw [Nat.testBit_and, Nat.testBit_and, Nat.testBit_xor, Nat.testBit_two_pow_sub_one, bit_pow, show 2 ^ 31 - 1 - 2 ^ k = 2 ^ 31 - (2 ^ k + 1) by omega, Nat.testBit_two_pow_sub_succ hk', bit_pow]
  rcases Nat.lt_or_ge i 31 with q | q
  · have : decide (i < 32) = true := by simp; omega
    simp [q, this]
  · rw [Nat.testBit_lt_two_pow (Nat.lt_of_lt_of_le hn (Nat.pow_le_pow_right (by decide) q))]
    rfl
/-! COUNTS OF BITS -/
def pc8 (b : Nat) : Nat := fb_ct (fun k => b.testBit k) 8
theorem I_bitCount {n : Nat} (hn : n < 256) (w : am_W) : f_I_bitCount (nI n) w = some (w, nI (fb_ct (fun k => n.testBit k) 8)) := by
  have h : ∀ n, n < 256 → f_I_bitCount (nI n) (0, 0, []) = some ((0, 0, []), nI (fb_ct (fun k => n.testBit k) 8)) := by
    intro n hn
    have h2 : ∀ n : Fin 256, (f_I_bitCount (nI n.val) (0, 0, [])).map (fun r => r.2) = some (nI (fb_ct (fun k => n.val.testBit k) 8)) := by decide +kernel
    have h3 := h2 ⟨n, hn⟩
    unfold f_I_bitCount e_I_bitCount at h3 ⊢
    simp only [Option.map_some, Option.some.injEq] at h3
    rw [h3]
  have h1 := h n hn
  unfold f_I_bitCount e_I_bitCount at h1 ⊢
  simp only [Option.some.injEq, Prod.mk.injEq, true_and] at h1 ⊢
  exact h1
theorem and_split (q M : Nat) {b m : Nat} (hb : b < 256) (hm : m < 256) : (256 * q + b) &&& (256 * M + m) = 256 * (q &&& M) + (b &&& m) := by
  apply Nat.eq_of_testBit_eq
  intro j
  have e : (256 : Nat) = 2 ^ 8 := rfl
  have h3 : b &&& m < 2 ^ 8 := Nat.lt_of_le_of_lt Nat.and_le_left hb
  rw [Nat.testBit_and, e, Nat.testBit_two_pow_mul_add _ hb, Nat.testBit_two_pow_mul_add _ hm, Nat.testBit_two_pow_mul_add _ h3]
  split
  · rw [Nat.testBit_and]
  · rw [Nat.testBit_and]
def jm (m : Nat) : Nat → Nat
  | 0 => 0
  | n + 1 => 256 * jm m n + m
def j1 (M x : Nat) : Nat := x - ((x / 2) &&& M)
def j2 (M y : Nat) : Nat := (y &&& M) + ((y / 4) &&& M)
def j3 (M z : Nat) : Nat := (z + z / 16) &&& M
def t1 (b : Nat) : Nat := b - ((b / 2) &&& 85)
def t2 (b : Nat) : Nat := (b &&& 51) + ((b / 4) &&& 51)
theorem t1_lt {b : Nat} (h : b < 256) : t1 b < 256 := Nat.lt_of_le_of_lt (Nat.sub_le _ _) h
theorem j1_split (q M : Nat) {b : Nat} (hb : b < 256) : j1 (256 * M + 85) (256 * q + b) = 256 * j1 M q + t1 b := by
  have h1 : (256 * q + b) / 2 = 256 * (q / 2) + (128 * (q % 2) + b / 2) := by omega
  have h2 : ∀ e : Fin 2, ∀ b : Fin 256, (128 * e.val + b.val / 2) &&& 85 = (b.val / 2) &&& 85 := by decide +kernel
  have h3 := h2 ⟨q % 2, by omega⟩ ⟨b, hb⟩
  simp only at h3
  have h4 : (q / 2) &&& M ≤ q := Nat.le_trans Nat.and_le_left (Nat.div_le_self _ _)
  have h5 : (b / 2) &&& 85 ≤ b := Nat.le_trans Nat.and_le_left (Nat.div_le_self _ _)
  unfold j1 t1
  rw [h1, and_split (q / 2) M (by omega) (by decide), h3]
  omega
theorem j2_split (q M : Nat) {b : Nat} (hb : b < 256) : j2 (256 * M + 51) (256 * q + b) = 256 * j2 M q + t2 b := by
  have h1 : (256 * q + b) / 4 = 256 * (q / 4) + (64 * (q % 4) + b / 4) := by omega
  have h2 : ∀ e : Fin 4, ∀ b : Fin 256, (64 * e.val + b.val / 4) &&& 51 = (b.val / 4) &&& 51 := by decide +kernel
  have h3 := h2 ⟨q % 4, by omega⟩ ⟨b, hb⟩
  simp only at h3
  unfold j2 t2
  rw [h1, and_split (q / 4) M (by omega) (by decide), h3, and_split q M hb (by decide)]
  omega
theorem j3_split (q M : Nat) {b : Nat} (hb : b ≤ 68) (hq : q % 16 ≤ 4) : j3 (256 * M + 15) (256 * q + b) = 256 * j3 M q + ((b + b / 16) % 16) := by
  have h1 : (256 * q + b) + (256 * q + b) / 16 = 256 * (q + q / 16) + (b + b / 16 + 16 * (q % 16)) := by omega
  unfold j3
  rw [h1, and_split (q + q / 16) M (by omega) (by decide)]
  rw [show (15 : Nat) = 2 ^ 4 - 1 from rfl, Nat.and_two_pow_sub_one_eq_mod]
  omega
theorem t2_le : ∀ b : Fin 256, t2 (t1 b.val) ≤ 68 ∧ t2 (t1 b.val) % 16 ≤ 4 ∧ (t2 (t1 b.val) + t2 (t1 b.val) / 16) % 16 = pc8 b.val ∧ pc8 b.val ≤ 8 := by decide +kernel
theorem j_low : ∀ (n q : Nat), q < 256 ^ n → j2 (jm 51 n) (j1 (jm 85 n) q) % 16 ≤ 4
  | 0, q, h => by
    have : q = 0 := by omega
    subst this
    decide
  | n + 1, q, h => by
    have hb : q % 256 < 256 := Nat.mod_lt _ (by decide)
    have e : q = 256 * (q / 256) + q % 256 := by omega
    rw [e, jm, jm, j1_split _ _ hb, j2_split _ _ (t1_lt hb)]
    have h1 := (t2_le ⟨q % 256, hb⟩).2.1
    simp only at h1
    omega
def jF (n x : Nat) : Nat := j3 (jm 15 n) (j2 (jm 51 n) (j1 (jm 85 n) x))
theorem jF_split (n q : Nat) {b : Nat} (hb : b < 256) (hq : q < 256 ^ n) : jF (n + 1) (256 * q + b) = 256 * jF n q + pc8 b := by
  have h1 := t2_le ⟨b, hb⟩
  simp only at h1
  unfold jF
  rw [jm, jm, jm, j1_split _ _ hb, j2_split _ _ (t1_lt hb), j3_split _ _ h1.1 (j_low n q hq), h1.2.2.1]
theorem pc8_mod (x : Nat) : pc8 (x % 256) = fb_ct (fun k => x.testBit k) 8 := by
  refine fb_ct_cong (fun k hk => ?_)
  show (x % 2 ^ 8).testBit k = _
  rw [Nat.testBit_mod_two_pow]
  simp [hk]
theorem ct_bytes (x n : Nat) : fb_ct (fun k => x.testBit k) (8 * (n + 1)) = pc8 (x % 256) + fb_ct (fun k => (x / 256).testBit k) (8 * n) := by
  rw [show 8 * (n + 1) = 8 + 8 * n by omega, fb_ct_split, pc8_mod]
  congr 1
  refine fb_ct_cong (fun k hk => ?_)
  show x.testBit (8 + k) = (x / 2 ^ 8).testBit k
  rw [Nat.testBit_div_two_pow, Nat.add_comm]
theorem pc8_le (b : Nat) : pc8 (b % 256) ≤ 8 := (t2_le ⟨b % 256, Nat.mod_lt _ (by decide)⟩).2.2.2
theorem jF_step (n x : Nat) (h : x < 256 ^ (n + 1)) : jF (n + 1) x = 256 * jF n (x / 256) + pc8 (x % 256) := by
  have h1 := jF_split n (x / 256) (b := x % 256) (Nat.mod_lt _ (by decide)) (by rw [Nat.pow_succ] at h; omega)
  rw [show 256 * (x / 256) + x % 256 = x by omega] at h1
  exact h1
theorem jF_all {x : Nat} (h : x < 2 ^ 64) : ∃ p0 p1 p2 p3 p4 p5 p6 p7, jF 8 x = p0 + 256 * p1 + 65536 * p2 + 16777216 * p3 + 4294967296 * p4 + 1099511627776 * p5 + 281474976710656 * p6 + 72057594037927936 * p7 ∧
    p0 ≤ 8 ∧ p1 ≤ 8 ∧ p2 ≤ 8 ∧ p3 ≤ 8 ∧ p4 ≤ 8 ∧ p5 ≤ 8 ∧ p6 ≤ 8 ∧ p7 ≤ 8 ∧ fb_ct (fun k => x.testBit k) 64 = p0 + p1 + p2 + p3 + p4 + p5 + p6 + p7 := by
  refine ⟨pc8 (x % 256), pc8 (x / 256 % 256), pc8 (x / 256 / 256 % 256), pc8 (x / 256 / 256 / 256 % 256), pc8 (x / 256 / 256 / 256 / 256 % 256), pc8 (x / 256 / 256 / 256 / 256 / 256 % 256), pc8 (x / 256 / 256 / 256 / 256 / 256 / 256 % 256), pc8 (x / 256 / 256 / 256 / 256 / 256 / 256 / 256 % 256), ?_, pc8_le _, pc8_le _, pc8_le _, pc8_le _, pc8_le _, pc8_le _, pc8_le _, pc8_le _, ?_⟩
  · rw [jF_step 7 x (by omega), jF_step 6 _ (by omega), jF_step 5 _ (by omega), jF_step 4 _ (by omega), jF_step 3 _ (by omega), jF_step 2 _ (by omega), jF_step 1 _ (by omega), jF_step 0 _ (by omega)]
    have : ∀ y, jF 0 y = 0 := by
      intro y
      unfold jF j3
      exact Nat.and_zero _
    rw [this]
    omega
  · rw [show (64 : Nat) = 8 * (7 + 1) from rfl, ct_bytes x 7, show (8 * 7 : Nat) = 8 * (6 + 1) from rfl, ct_bytes _ 6, show (8 * 6 : Nat) = 8 * (5 + 1) from rfl, ct_bytes _ 5, show (8 * 5 : Nat) = 8 * (4 + 1) from rfl, ct_bytes _ 4, show (8 * 4 : Nat) = 8 * (3 + 1) from rfl, ct_bytes _ 3, show (8 * 3 : Nat) = 8 * (2 + 1) from rfl, ct_bytes _ 2, show (8 * 2 : Nat) = 8 * (1 + 1) from rfl, ct_bytes _ 1, show (8 * 1 : Nat) = 8 * (0 + 1) from rfl, ct_bytes _ 0]
    show _ + (_ + (_ + (_ + (_ + (_ + (_ + (_ + 0))))))) = _
    omega
theorem dv {a b c m : Nat} (h : a = b + m * c) (hb : b < m) : a / m = c := by
  rw [h, Nat.add_mul_div_left _ _ (by omega), Nat.div_eq_of_lt hb, Nat.zero_add]
theorem dm {a b c m : Nat} (h : a = b + m * c) (hb : b < m) : a % m = b := by
  rw [h, Nat.add_mul_mod_self_left, Nat.mod_eq_of_lt hb]
theorem jA {p0 p1 p2 p3 p4 p5 p6 p7 : Nat} (b0 : p0 ≤ 8) : (p0 + 256 * p1 + 65536 * p2 + 16777216 * p3 + 4294967296 * p4 + 1099511627776 * p5 + 281474976710656 * p6 + 72057594037927936 * p7) / 256 = p1 + 256 * p2 + 65536 * p3 + 16777216 * p4 + 4294967296 * p5 + 1099511627776 * p6 + 281474976710656 * p7 := dv (b := p0) (by omega) (by omega)
theorem jA2 {p0 p1 p2 p3 p4 p5 p6 p7 : Nat} : (p0 + 256 * p1 + 65536 * p2 + 16777216 * p3 + 4294967296 * p4 + 1099511627776 * p5 + 281474976710656 * p6 + 72057594037927936 * p7) + (p1 + 256 * p2 + 65536 * p3 + 16777216 * p4 + 4294967296 * p5 + 1099511627776 * p6 + 281474976710656 * p7) = (p0 + p1) + 256 * (p1 + p2) + 65536 * (p2 + p3) + 16777216 * (p3 + p4) + 4294967296 * (p4 + p5) + 1099511627776 * (p5 + p6) + 281474976710656 * (p6 + p7) + 72057594037927936 * p7 := by omega
theorem jB {p0 p1 p2 p3 p4 p5 p6 p7 : Nat} (b0 : p0 ≤ 8) (b1 : p1 ≤ 8) (b2 : p2 ≤ 8) : ((p0 + p1) + 256 * (p1 + p2) + 65536 * (p2 + p3) + 16777216 * (p3 + p4) + 4294967296 * (p4 + p5) + 1099511627776 * (p5 + p6) + 281474976710656 * (p6 + p7) + 72057594037927936 * p7) / 65536 = (p2 + p3) + 256 * (p3 + p4) + 65536 * (p4 + p5) + 16777216 * (p5 + p6) + 4294967296 * (p6 + p7) + 1099511627776 * p7 := dv (b := p0 + p1 + 256 * (p1 + p2)) (by omega) (by omega)
theorem jB2 {p0 p1 p2 p3 p4 p5 p6 p7 : Nat} : ((p0 + p1) + 256 * (p1 + p2) + 65536 * (p2 + p3) + 16777216 * (p3 + p4) + 4294967296 * (p4 + p5) + 1099511627776 * (p5 + p6) + 281474976710656 * (p6 + p7) + 72057594037927936 * p7) + ((p2 + p3) + 256 * (p3 + p4) + 65536 * (p4 + p5) + 16777216 * (p5 + p6) + 4294967296 * (p6 + p7) + 1099511627776 * p7) = (p0 + p1 + p2 + p3) + 256 * (p1 + p2 + p3 + p4) + 65536 * (p2 + p3 + p4 + p5) + 16777216 * (p3 + p4 + p5 + p6) + 4294967296 * (p4 + p5 + p6 + p7) + 1099511627776 * (p5 + p6 + p7) + 281474976710656 * (p6 + p7) + 72057594037927936 * p7 := by omega
theorem jC {p0 p1 p2 p3 p4 p5 p6 p7 : Nat} (b0 : p0 ≤ 8) (b1 : p1 ≤ 8) (b2 : p2 ≤ 8) (b3 : p3 ≤ 8) (b4 : p4 ≤ 8) (b5 : p5 ≤ 8) (b6 : p6 ≤ 8) : ((p0 + p1 + p2 + p3) + 256 * (p1 + p2 + p3 + p4) + 65536 * (p2 + p3 + p4 + p5) + 16777216 * (p3 + p4 + p5 + p6) + 4294967296 * (p4 + p5 + p6 + p7) + 1099511627776 * (p5 + p6 + p7) + 281474976710656 * (p6 + p7) + 72057594037927936 * p7) / 4294967296 = (p4 + p5 + p6 + p7) + 256 * (p5 + p6 + p7) + 65536 * (p6 + p7) + 16777216 * p7 := dv (b := (p0 + p1 + p2 + p3) + 256 * (p1 + p2 + p3 + p4) + 65536 * (p2 + p3 + p4 + p5) + 16777216 * (p3 + p4 + p5 + p6)) (by omega) (by omega)
theorem jD {p0 p1 p2 p3 p4 p5 p6 p7 : Nat} (b0 : p0 ≤ 8) (b1 : p1 ≤ 8) (b2 : p2 ≤ 8) (b3 : p3 ≤ 8) (b4 : p4 ≤ 8) (b5 : p5 ≤ 8) (b6 : p6 ≤ 8) (b7 : p7 ≤ 8) : (((p0 + p1 + p2 + p3) + 256 * (p1 + p2 + p3 + p4) + 65536 * (p2 + p3 + p4 + p5) + 16777216 * (p3 + p4 + p5 + p6) + 4294967296 * (p4 + p5 + p6 + p7) + 1099511627776 * (p5 + p6 + p7) + 281474976710656 * (p6 + p7) + 72057594037927936 * p7) + ((p4 + p5 + p6 + p7) + 256 * (p5 + p6 + p7) + 65536 * (p6 + p7) + 16777216 * p7)) % 2 ^ 7 = p0 + p1 + p2 + p3 + p4 + p5 + p6 + p7 :=
  dm (c := 2 * (p1 + p2 + p3 + p4) + 512 * (p2 + p3 + p4 + p5) + 131072 * (p3 + p4 + p5 + p6) + 33554432 * (p4 + p5 + p6 + p7) + 8589934592 * (p5 + p6 + p7) + 2199023255552 * (p6 + p7) + 562949953421312 * p7 + 2 * (p5 + p6 + p7) + 512 * (p6 + p7) + 131072 * p7) (by omega) (by omega)
theorem lu_lit {n : Nat} (hn : n < 2 ^ 64) : am_lu (lN n) 1 = lN (n / 2) ∧ am_lu (lN n) 2 = lN (n / 4) ∧ am_lu (lN n) 4 = lN (n / 16) ∧ am_lu (lN n) 8 = lN (n / 256) ∧ am_lu (lN n) 16 = lN (n / 65536) ∧ am_lu (lN n) 32 = lN (n / 4294967296) :=
  ⟨am_lu_eq hn (k := 1) (by decide), am_lu_eq hn (k := 2) (by decide), am_lu_eq hn (k := 4) (by decide), am_lu_eq hn (k := 8) (by decide), am_lu_eq hn (k := 16) (by decide), am_lu_eq hn (k := 32) (by decide)⟩
theorem J_bitCount {x : Nat} (hx : x < 2 ^ 64) (w : am_W) : f_J_bitCount (lN x) w = some (w, nI (fb_ct (fun k => x.testBit k) 64)) := by
  obtain ⟨p0, p1, p2, p3, p4, p5, p6, p7, hF, b0, b1, b2, b3, b4, b5, b6, b7, hc⟩ := jF_all hx
  have e5 : jm 85 8 = 6148914691236517205 := by decide +kernel
  have e3 : jm 51 8 = 3689348814741910323 := by decide +kernel
  have ef : jm 15 8 = 1085102592571150095 := by decide +kernel
  unfold jF j3 j2 at hF
  rw [e5, e3, ef] at hF
  unfold f_J_bitCount e_J_bitCount
  have h1 : lN x - (am_lu (lN x) 1 &&& 6148914691236517205) = lN (j1 6148914691236517205 x) := by
    rw [(lu_lit hx).1, fa_litL, fb_andL, lN_sub (Nat.le_trans Nat.and_le_left (Nat.div_le_self _ _))]
    rfl
  rw [h1]
  have hy : j1 6148914691236517205 x < 2 ^ 64 := Nat.lt_of_le_of_lt (Nat.sub_le _ _) hx
  generalize j1 6148914691236517205 x = y at *
  have a1 : y &&& 3689348814741910323 ≤ 3689348814741910323 := Nat.and_le_right
  have a2 : (y / 4) &&& 3689348814741910323 ≤ 3689348814741910323 := Nat.and_le_right
  have h2 : (lN y &&& 3689348814741910323) + (am_lu (lN y) 2 &&& 3689348814741910323) = lN ((y &&& 3689348814741910323) + ((y / 4) &&& 3689348814741910323)) := by
    rw [(lu_lit hy).2.1, fa_litL, fb_andL, fb_andL, lN_add]
  rw [h2]
  have hz : (y &&& 3689348814741910323) + ((y / 4) &&& 3689348814741910323) < 2 ^ 64 := by omega
  generalize (y &&& 3689348814741910323) + ((y / 4) &&& 3689348814741910323) = z at *
  have h3 : (lN z + am_lu (lN z) 4) &&& 1085102592571150095 = lN ((z + z / 16) &&& 1085102592571150095) := by
    rw [(lu_lit hz).2.2.1, lN_add, fa_litL, fb_andL]
  rw [h3, hF]
  generalize hu : p0 + 256 * p1 + 65536 * p2 + 16777216 * p3 + 4294967296 * p4 + 1099511627776 * p5 + 281474976710656 * p6 + 72057594037927936 * p7 = u at *
  have hu0 : u < 2 ^ 64 := by omega
  have h4 : lN u + am_lu (lN u) 8 = lN (u + u / 256) := by rw [(lu_lit hu0).2.2.2.1, lN_add]
  rw [h4]
  have hv0 : u + u / 256 < 2 ^ 64 := by omega
  generalize hv : u + u / 256 = v at *
  have h5 : lN v + am_lu (lN v) 16 = lN (v + v / 65536) := by rw [(lu_lit hv0).2.2.2.2.1, lN_add]
  rw [h5]
  have ht0 : v + v / 65536 < 2 ^ 64 := by omega
  generalize ht : v + v / 65536 = t at *
  have h6 : lN t + am_lu (lN t) 32 = lN (t + t / 4294967296) := by rw [(lu_lit ht0).2.2.2.2.2, lN_add]
  rw [h6, lN_toI, show (127 : Int32) = nI (2 ^ 7 - 1) from rfl, fa_mask]
  refine congrArg some (Prod.ext rfl ?_)
  show nI ((t + t / 4294967296) % 2 ^ 7) = _
  rw [hc]
  congr 1
  subst ht
  subst hv
  subst hu
  rw [jA b0, jA2, jB b0 b1 b2, jB2, jC b0 b1 b2 b3 b4 b5 b6, jD b0 b1 b2 b3 b4 b5 b6 b7]
