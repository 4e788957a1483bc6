/-! HOW LARGE AN OPEN SET CAN BE: rows of levels, each level a set of used pairs as the bits of a number -/
theorem and0_add : ∀ n x y : Nat, x ≤ n → x &&& y = 0 → x ||| y = x + y := by
  intro n
  induction n with
  | zero => intro x y hx h; have : x = 0 := by omega
            subst this; simp
  | succ n ih =>
    intro x y hx h
    by_cases x0 : x = 0
    · subst x0; simp
    have hd : (x ||| y) / 2 = x / 2 ||| y / 2 := by
      apply Nat.eq_of_testBit_eq
      intro i
      rw [Nat.testBit_div_two, Nat.testBit_or, Nat.testBit_or, Nat.testBit_div_two, Nat.testBit_div_two]
    have ha : x / 2 &&& y / 2 = 0 := by
      apply Nat.eq_of_testBit_eq
      intro i
      rw [Nat.testBit_and, Nat.testBit_div_two, Nat.testBit_div_two, ← Nat.testBit_and, h]
      simp
    have hi := ih (x / 2) (y / 2) (by omega) ha
    have c0 : (x ||| y) % 2 = 1 ↔ x % 2 = 1 ∨ y % 2 = 1 := by
      rw [Nat.mod_two_eq_one_iff_testBit_zero, Nat.testBit_or, Bool.or_eq_true, ← Nat.mod_two_eq_one_iff_testBit_zero, ← Nat.mod_two_eq_one_iff_testBit_zero]
    have d0 : ¬ (x % 2 = 1 ∧ y % 2 = 1) := by
      rw [Nat.mod_two_eq_one_iff_testBit_zero, Nat.mod_two_eq_one_iff_testBit_zero, ← Bool.and_eq_true, ← Nat.testBit_and, h]
      simp
    omega
def pqI (s c : Nat) : Nat → Nat → Nat → Nat → Nat
  | 0, _, p, _ => p
  | d + 1, e, p, k => pqI s c d (e + 1) (if s.testBit c && s.testBit e then p ||| 2 ^ k else p) (k + 1)
def pqO (n s : Nat) : Nat → Nat → Nat → Nat → Nat
  | 0, _, p, _ => p
  | d + 1, c, p, k => pqO n s d (c + 1) (pqI s c (n - (c + 1)) (c + 1) p k) (k + (n - (c + 1)))
def Pn (n s : Nat) : Nat := pqO n s n 0 0 0
def bcn : Nat → Nat → Nat
  | 0, _ => 0
  | f + 1, s => if s = 0 then 0 else 1 + bcn f (s &&& (s - 1))
def bc (s : Nat) : Nat := bcn 64 s
def prN (n : Nat) : Nat := n * (n - 1) / 2
def al (n : Nat) : Nat := 2 ^ prN n
def Zf (p : Nat) : Nat → Nat
  | 0 => 1
  | i + 1 => if p.testBit i then Zf p i else Zf p i ||| (Zf p i <<< 2 ^ i)
theorem bit_top {x i : Nat} (h1 : 2 ^ i ≤ x) (h2 : x < 2 ^ (i + 1)) : x.testBit i = true := by
  rw [Nat.testBit_eq_decide_div_mod_eq, Nat.pow_succ] at *
  have : x / 2 ^ i = 1 := by
    apply Nat.div_eq_of_lt_le <;> omega
  rw [this]
  rfl
theorem Zf_bit (p : Nat) : ∀ i x, (Zf p i).testBit x = true ↔ x < 2 ^ i ∧ x &&& p = 0 := by
  intro i
  induction i with
  | zero =>
    intro x
    rw [Zf, Nat.testBit_one_eq_true_iff_self_eq_zero]
    constructor
    · rintro rfl; exact ⟨by decide, by simp⟩
    · rintro ⟨h, -⟩; have : x < 1 := h; omega
  | succ i ih =>
    intro x
    have h2 : 2 ^ (i + 1) = 2 * 2 ^ i := by rw [Nat.pow_succ, Nat.mul_comm]
    have hp := Nat.two_pow_pos i
    rw [Zf]
    by_cases q : p.testBit i = true
    · rw [if_pos q, ih]
      constructor
      · rintro ⟨a, b⟩; exact ⟨by omega, b⟩
      · rintro ⟨a, b⟩
        refine ⟨?_, b⟩
        rcases Nat.lt_or_ge x (2 ^ i) with z | z
        · exact z
        · have t := bit_top z a
          have : (x &&& p).testBit i = true := by rw [Nat.testBit_and, t, q]; rfl
          rw [b] at this
          simp at this
    · rw [if_neg q, Nat.testBit_or, Nat.testBit_shiftLeft, Bool.or_eq_true, Bool.and_eq_true, decide_eq_true_iff, ih, ih]
      constructor
      · rintro (⟨a, b⟩ | ⟨a, b, c⟩)
        · exact ⟨by omega, b⟩
        · refine ⟨by omega, ?_⟩
          have e : x = 2 ^ i * 1 ||| (x - 2 ^ i) := by
            rw [← Nat.two_pow_add_eq_or_of_lt b]
            omega
          have z : 2 ^ i * 1 &&& p = 0 := by
            apply Nat.eq_of_testBit_eq
            intro j
            rw [Nat.mul_one, Nat.testBit_and, Nat.testBit_two_pow, Nat.zero_testBit]
            by_cases y : i = j
            · subst y; simpa using q
            · simp [y]
          rw [e, Nat.and_or_distrib_right, z, c]
          rfl
      · rintro ⟨a, b⟩
        rcases Nat.lt_or_ge x (2 ^ i) with z | z
        · exact Or.inl ⟨z, b⟩
        · refine Or.inr ⟨z, by omega, ?_⟩
          have e : x = 2 ^ i * 1 ||| (x - 2 ^ i) := by
            rw [← Nat.two_pow_add_eq_or_of_lt (show x - 2 ^ i < 2 ^ i by omega)]
            omega
          rw [e, Nat.and_or_distrib_right] at b
          exact (Nat.or_eq_zero_iff.mp b).2
/-- one row more, from the values before -/
def nxt (n : Nat) (W W' : Nat → Nat) : Prop := ∀ u, u < al n → ∀ k, 1 ≤ k → (k ≤ W' u ↔ (W u ≠ 0 ∧ k ≤ W u + 1) ∨ ∃ u' s, 3 ≤ s ∧ s < 2 ^ n ∧ Pn n s ≠ 0 ∧ u' &&& Pn n s = 0 ∧ u' ||| Pn n s = u ∧ W u' ≠ 0 ∧ k ≤ W u' + bc s)
def tab (n : Nat) : Nat → Nat → List (Nat × Nat × Nat)
  | 0, _ => []
  | d + 1, s => if Pn n s = 0 then tab n d (s + 1) else (Pn n s, Zf (Pn n s) (prN n), bc s) :: tab n d (s + 1)
theorem tab_mem (n : Nat) {t : Nat × Nat × Nat} : ∀ d s, t ∈ tab n d s ↔ ∃ e, s ≤ e ∧ e < s + d ∧ Pn n e ≠ 0 ∧ t = (Pn n e, Zf (Pn n e) (prN n), bc e) := by
  intro d
  induction d with
  | zero => intro s; rw [tab]; simp; intro x h1 h2; omega
  | succ d ih =>
    intro s
    rw [tab]
    by_cases q : Pn n s = 0
    · rw [if_pos q, ih]
      constructor
      · rintro ⟨e, a, b, c, d⟩; exact ⟨e, by omega, by omega, c, d⟩
      · rintro ⟨e, a, b, c, d⟩
        refine ⟨e, ?_, by omega, c, d⟩
        rcases Nat.lt_or_ge s e with z | z
        · exact z
        · have : e = s := by omega
          subst this; exact absurd q c
    · rw [if_neg q, List.mem_cons, ih]
      constructor
      · rintro (rfl | ⟨e, a, b, c, d⟩)
        · exact ⟨s, by omega, by omega, q, rfl⟩
        · exact ⟨e, by omega, by omega, c, d⟩
      · rintro ⟨e, a, b, c, d⟩
        rcases Nat.lt_or_ge s e with z | z
        · exact Or.inr ⟨e, z, by omega, c, d⟩
        · have : e = s := by omega
          subst this; exact Or.inl d
def orS (l : List Nat) (j : Nat) : List (Nat × Nat × Nat) → Nat → Nat
  | [], a => a
  | t :: ts, a => orS l j ts (a ||| ((l.getD (j - t.2.2) 0 &&& t.2.1) <<< t.1))
theorem orS_bit (l : List Nat) (j u : Nat) : ∀ T a, (orS l j T a).testBit u = true ↔ a.testBit u = true ∨ ∃ t ∈ T, t.1 ≤ u ∧ (l.getD (j - t.2.2) 0).testBit (u - t.1) = true ∧ t.2.1.testBit (u - t.1) = true := by
  intro T
  induction T with
  | nil => intro a; rw [orS]; simp
  | cons t T ih =>
    intro a
    rw [orS, ih, Nat.testBit_or, Nat.testBit_shiftLeft, Nat.testBit_and]
    constructor
    · rintro (h | ⟨t', h1, h2⟩)
      · rw [Bool.or_eq_true, Bool.and_eq_true, Bool.and_eq_true, decide_eq_true_iff] at h
        rcases h with h | ⟨h1, h2, h3⟩
        · exact Or.inl h
        · exact Or.inr ⟨t, List.mem_cons_self, h1, h2, h3⟩
      · exact Or.inr ⟨t', List.mem_cons_of_mem _ h1, h2⟩
    · rintro (h | ⟨t', h1, h2⟩)
      · exact Or.inl (by rw [h]; rfl)
      · rw [List.mem_cons] at h1
        rcases h1 with rfl | h1
        · refine Or.inl ?_
          rw [Bool.or_eq_true, Bool.and_eq_true, Bool.and_eq_true, decide_eq_true_iff]
          exact Or.inr h2
        · exact Or.inr ⟨t', h1, h2⟩
def stpL (T : List (Nat × Nat × Nat)) (l : List Nat) : Nat → Nat → List Nat
  | 0, _ => []
  | d + 1, j => orS l j T (l.getD (j - 1) 0) :: stpL T l d (j + 1)
theorem stpL_at (T : List (Nat × Nat × Nat)) (l : List Nat) : ∀ d j k, k < d → (stpL T l d j).getD k 0 = orS l (j + k) T (l.getD (j + k - 1) 0) := by
  intro d
  induction d with
  | zero => intro j k hk; omega
  | succ d ih =>
    intro j k hk
    rw [stpL]
    cases k with
    | zero => rfl
    | succ k =>
      rw [List.getD_cons_succ, ih (j + 1) k (by omega), show j + 1 + k = j + (k + 1) by omega]
def rep (n K : Nat) (W : Nat → Nat) (l : List Nat) : Prop := ∀ u, u < al n → ∀ j, j < K → (j + 1 ≤ W u ↔ (l.getD j 0).testBit u = true)
def Tn (n : Nat) : List (Nat × Nat × Nat) := tab n (2 ^ n - 3) 3
theorem rep_step {n K : Nat} {W W' : Nat → Nat} {l : List Nat} (R : rep n K W l) (N : nxt n W W') : rep n K W' (stpL (Tn n) l K 0) := by
  intro u hu j hj
  rw [stpL_at _ _ K 0 j hj, Nat.zero_add, orS_bit, N u hu (j + 1) (by omega)]
  have h1 : (W u ≠ 0 ∧ j + 1 ≤ W u + 1) ↔ (l.getD (j - 1) 0).testBit u = true := by
    rw [← R u hu (j - 1) (by omega)]
    omega
  rw [h1]
  refine or_congr Iff.rfl ?_
  constructor
  · rintro ⟨u', s, s3, sn, p0, pa, po, w0, wk⟩
    have ea := and0_add u' u' (Pn n s) (Nat.le_refl _) pa
    have hu' : u' < al n := by omega
    refine ⟨(Pn n s, Zf (Pn n s) (prN n), bc s), (tab_mem n _ _).mpr ⟨s, s3, by omega, p0, rfl⟩, ?_, ?_, ?_⟩
    · show Pn n s ≤ u
      omega
    · show (l.getD (j - bc s) 0).testBit (u - Pn n s) = true
      rw [show u - Pn n s = u' by omega, ← R u' hu' (j - bc s) (by omega)]
      omega
    · show (Zf (Pn n s) (prN n)).testBit (u - Pn n s) = true
      rw [show u - Pn n s = u' by omega]
      exact (Zf_bit _ _ _).mpr ⟨hu', pa⟩
  · rintro ⟨t, ht, t1, t2, t3⟩
    obtain ⟨s, s3, sn, p0, rfl⟩ := (tab_mem n _ _).mp ht
    have t1' : Pn n s ≤ u := t1
    have t2' : (l.getD (j - bc s) 0).testBit (u - Pn n s) = true := t2
    obtain ⟨z1, z2⟩ := (Zf_bit _ _ _).mp (show (Zf (Pn n s) (prN n)).testBit (u - Pn n s) = true from t3)
    have ea := and0_add _ _ (Pn n s) (Nat.le_refl _) z2
    rw [← R _ z1 (j - bc s) (by omega)] at t2'
    exact ⟨u - Pn n s, s, s3, by omega, p0, z2, by omega, by omega, by omega⟩
/-! the kernel reckons with levels that are numbers, not terms -/
def frc {α : Type} (x : Nat) (k : Nat → α) : α := match x with
  | 0 => k 0
  | n + 1 => k (n + 1)
theorem frc_eq {α : Type} (x : Nat) (k : Nat → α) : frc x k = k x := by cases x <;> rfl
def frcL {α : Type} : List Nat → (List Nat → α) → α
  | [], k => k []
  | x :: xs, k => frc x (fun y => frcL xs (fun ys => k (y :: ys)))
theorem frcL_eq {α : Type} : ∀ (l : List Nat) (k : List Nat → α), frcL l k = k l
  | [], _ => rfl
  | x :: xs, k => by rw [frcL, frc_eq, frcL_eq xs]
def frcT {α : Type} : List (Nat × Nat × Nat) → (List (Nat × Nat × Nat) → α) → α
  | [], k => k []
  | x :: xs, k => frc x.1 (fun a => frc x.2.1 (fun b => frc x.2.2 (fun c => frcT xs (fun ys => k ((a, b, c) :: ys)))))
theorem frcT_eq {α : Type} : ∀ (l : List (Nat × Nat × Nat)) (k : List (Nat × Nat × Nat) → α), frcT l k = k l
  | [], _ => rfl
  | x :: xs, k => by rw [frcT, frc_eq, frc_eq, frc_eq, frcT_eq xs]
def chk (T : List (Nat × Nat × Nat)) (N : Nat) : List Nat → List Nat → Bool
  | [], _ => true
  | e :: es, l => frcL (stpL T l 21 0) (fun l' => decide (l'.getD e 0 % 2 ^ N ≠ 0) && decide (l'.getD (e + 1) 0 = 0) && chk T N es l')
def ocN (j : Nat) : Nat := [1, 2, 3, 4, 5, 6, 2, 3, 4, 5, 6, 7, 3, 4, 6, 7, 8, 9, 4, 5, 7, 9, 10, 12, 5, 6, 8, 10, 12, 14, 6, 7, 9, 12, 14, 16, 7, 8, 10, 13, 15, 18, 8, 9, 11, 14, 17, 19].getD j 0
theorem oc_eq : ∀ j : Fin 48, am_oc j.val = nI (ocN j.val) := by decide
def esN (n : Nat) : List Nat := [ocN (0 + (n - 1)), ocN (6 + (n - 1)), ocN (12 + (n - 1)), ocN (18 + (n - 1)), ocN (24 + (n - 1)), ocN (30 + (n - 1)), ocN (36 + (n - 1)), ocN (42 + (n - 1))]
def l0 : List Nat := [1, 0, 0, 0, 0, 0, 0, 0, 0, 0, 0, 0, 0, 0, 0, 0, 0, 0, 0, 0, 0]
def chkF (n : Nat) : Bool := frcT (Tn n) (fun T => chk T (al n) (esN n) l0)
theorem chk_all : chkF 1 = true ∧ chkF 2 = true ∧ chkF 3 = true ∧ chkF 4 = true ∧ chkF 5 = true := by decide +kernel
theorem chk_six : chkF 6 = true := by decide +kernel
