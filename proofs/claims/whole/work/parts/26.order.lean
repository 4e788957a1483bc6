/-! THINGS IN ORDER -/
def enum {α : Type} (F : Nat → List α) (i : Nat) : Nat → List α
  | 0 => []
  | m + 1 => F i ++ enum F (i + 1) m
theorem enum_len {α : Type} (F : Nat → List α) : ∀ (m i : Nat), (enum F i m).length = fb_sm (fun j => (F (i + j)).length) m
  | 0, _ => rfl
  | m + 1, i => by
    rw [enum, List.length_append, enum_len F m (i + 1), Nat.add_comm m 1, fb_sm_split]
    congr 1
    · show _ = 0 + (F (i + 0)).length
      rw [Nat.add_zero, Nat.zero_add]
    · refine fb_sm_cong (fun k _ => ?_)
      rw [Nat.add_assoc]
theorem enum_mem {α : Type} {F : Nat → List α} {x : α} : ∀ {m i : Nat}, x ∈ enum F i m ↔ ∃ j, i ≤ j ∧ j < i + m ∧ x ∈ F j
  | 0, i => by simp only [enum, List.not_mem_nil, false_iff]; rintro ⟨j, h1, h2, -⟩; omega
  | m + 1, i => by
    rw [enum, List.mem_append, enum_mem (m := m) (i := i + 1)]
    constructor
    · rintro (h | ⟨j, h1, h2, h3⟩)
      · exact ⟨i, Nat.le_refl _, by omega, h⟩
      · exact ⟨j, by omega, by omega, h3⟩
    · rintro ⟨j, h1, h2, h3⟩
      rcases Nat.lt_or_ge i j with z | z
      · exact Or.inr ⟨j, z, by omega, h3⟩
      · have : j = i := by omega
        subst this; exact Or.inl h3
theorem enum_cong {α : Type} {F F' : Nat → List α} : ∀ {m i : Nat}, (∀ j, i ≤ j → j < i + m → F j = F' j) → enum F i m = enum F' i m
  | 0, _, _ => rfl
  | m + 1, i, h => by
    rw [enum, enum, h i (Nat.le_refl _) (by omega), enum_cong (fun j h1 h2 => h j (by omega) (by omega))]
/-- the pairs of columns for two rows; x: the colour, 0: any -/
def okc (x t : Nat) : Bool := decide (t ≠ 0) && (decide (x = 0) || decide (t = x))
def blC (v : Nat) (col : Nat → Nat) (x r q c : Nat) : List (Nat × Nat × Nat × Nat) := enum (fun d => if okc x (fr v col r q c d) then [(r, q, c, d)] else []) (c + 1) (v - (c + 1))
def blk (v : Nat) (col : Nat → Nat) (x r q : Nat) : List (Nat × Nat × Nat × Nat) := enum (blC v col x r q) 0 v
def rcR (h v : Nat) (col : Nat → Nat) (x r : Nat) : List (Nat × Nat × Nat × Nat) := enum (blk v col x r) (r + 1) (h - (r + 1))
def rcs (h v : Nat) (col : Nat → Nat) (x : Nat) : List (Nat × Nat × Nat × Nat) := enum (rcR h v col x) 0 h
theorem mem_rcs {h v : Nat} {col : Nat → Nat} {x r q c d : Nat} : (r, q, c, d) ∈ rcs h v col x ↔ r < q ∧ q < h ∧ c < d ∧ d < v ∧ okc x (fr v col r q c d) = true := by
  unfold rcs rcR blk blC
  constructor
  · intro hm
    obtain ⟨r', -, h1, hm⟩ := enum_mem.mp hm
    obtain ⟨q', h2, h3, hm⟩ := enum_mem.mp hm
    obtain ⟨c', -, h4, hm⟩ := enum_mem.mp hm
    obtain ⟨d', h5, h6, hm⟩ := enum_mem.mp hm
    split at hm
    · next z =>
      rw [List.mem_singleton] at hm
      cases hm
      exact ⟨by omega, by omega, by omega, by omega, z⟩
    · cases hm
  · rintro ⟨h1, h2, h3, h4, h5⟩
    refine enum_mem.mpr ⟨r, Nat.zero_le _, by omega, enum_mem.mpr ⟨q, by omega, by omega, enum_mem.mpr ⟨c, Nat.zero_le _, by omega, enum_mem.mpr ⟨d, by omega, by omega, ?_⟩⟩⟩⟩
    rw [if_pos h5]
    exact List.mem_singleton.mpr rfl
theorem okc_0 (t : Nat) : okc 0 t = true ↔ t ≠ 0 := by unfold okc; simp
theorem okc_x {x : Nat} (hx : x ≠ 0) (t : Nat) : okc x t = true ↔ t = x := by
  unfold okc
  simp only [Bool.and_eq_true, Bool.or_eq_true, decide_eq_true_eq]
  constructor
  · rintro ⟨h1, h2 | h2⟩
    · exact absurd h2 hx
    · exact h2
  · intro h; exact ⟨by omega, Or.inr h⟩
/-! how many -/
theorem pr_succ (n : Nat) : pr (n + 1) = pr n + n := by
  unfold pr
  rcases Nat.eq_zero_or_pos n with q | q
  · subst q; rfl
  · obtain ⟨m, rfl⟩ : ∃ m, n = m + 1 := ⟨n - 1, by omega⟩
    have e1 : (m + 1 + 1) * (m + 1 + 1 - 1) = (m + 1) * (m + 1 - 1) + (m + 1) * 2 := by
      rw [Nat.add_sub_cancel, Nat.add_sub_cancel, ← Nat.mul_add, Nat.mul_comm]
    rw [e1, Nat.add_mul_div_right _ _ (by decide)]
theorem fb_sm_z (n : Nat) : fb_sm (fun _ => 0) n = 0 := by rw [fb_sm_const]; rfl
theorem fb_sm_swap (t : Nat → Nat → Nat) (n : Nat) : ∀ m, fb_sm (fun x => fb_sm (fun c => t x c) n) m = fb_sm (fun c => fb_sm (fun x => t x c) m) n
  | 0 => by
    show 0 = fb_sm (fun _ => 0) n
    rw [fb_sm_z]
  | m + 1 => by
    rw [fb_sm_succ, fb_sm_swap t n m, ← fb_sm_add]
    rfl
theorem ct_sm (p : Nat → Bool) : ∀ n, fb_ct p n = fb_sm (fun k => if p k then 1 else 0) n
  | 0 => rfl
  | n + 1 => by rw [fb_ct_succ, fb_sm_succ, ct_sm p n]
theorem ct_sub (p : Nat → Bool) {i n : Nat} (h : i ≤ n) : fb_ct (fun k => p (i + k)) (n - i) = fb_ct p n - fb_ct p i := by
  have := fb_ct_split p i (n - i)
  rw [show i + (n - i) = n by omega] at this
  omega
theorem pairs_len (P : Nat → Bool) (v : Nat) : fb_sm (fun c => fb_sm (fun j => if (P c && P (c + 1 + j)) = true then 1 else 0) (v - (c + 1))) v = pr (fb_ct P v) := by
  have h1 : ∀ n, n ≤ v → fb_sm (fun c => fb_sm (fun j => if (P c && P (c + 1 + j)) = true then 1 else 0) (v - (c + 1))) n + pr (fb_ct P v - fb_ct P n) = pr (fb_ct P v) := by
    intro n
    induction n with
    | zero => intro _; show 0 + pr (fb_ct P v - 0) = _; rw [Nat.zero_add, Nat.sub_zero]
    | succ n ih =>
      intro hn
      have ih := ih (by omega)
      have hm := fb_ct_mono P hn
      rw [fb_ct_succ] at hm
      rw [fb_sm_succ]
      cases hP : P n with
      | false =>
        have e0 : fb_sm (fun j => if (false && P (n + 1 + j)) = true then 1 else 0) (v - (n + 1)) = 0 := fb_sm_z _
        rw [e0, fb_ct_succ, hP]
        exact ih
      | true =>
        have e0 : fb_sm (fun j => if (true && P (n + 1 + j)) = true then 1 else 0) (v - (n + 1)) = fb_ct P v - fb_ct P (n + 1) := by
          rw [← ct_sub P hn, ct_sm]
          rfl
        rw [e0, fb_ct_succ, hP]
        rw [hP] at hm
        simp only [if_true] at hm ⊢
        obtain ⟨m, hm'⟩ : ∃ m, fb_ct P v - fb_ct P n = m + 1 := ⟨fb_ct P v - fb_ct P n - 1, by omega⟩
        have e1 : fb_ct P v - (fb_ct P n + 1) = m := by omega
        rw [hm', pr_succ] at ih
        rw [e1]
        omega
  have h2 := h1 v (Nat.le_refl _)
  rw [Nat.sub_self] at h2
  exact h2
theorem blk_len (v : Nat) (col : Nat → Nat) (x r q : Nat) : (blk v col x r q).length = fb_sm (fun c => fb_sm (fun j => if okc x (fr v col r q c (c + 1 + j)) then 1 else 0) (v - (c + 1))) v := by
  unfold blk
  rw [enum_len]
  refine fb_sm_cong (fun c _ => ?_)
  unfold blC
  rw [enum_len, Nat.zero_add]
  refine fb_sm_cong (fun j _ => ?_)
  split <;> rfl
theorem blk_one (v : Nat) (col : Nat → Nat) {x : Nat} (hx : x ≠ 0) (r q : Nat) : (blk v col x r q).length = rowP v col x r q := by
  rw [blk_len]
  unfold rowP
  rw [← pairs_len]
  refine fb_sm_cong (fun c _ => fb_sm_cong (fun j _ => ?_))
  have h1 := okc_x hx (fr v col r q c (c + 1 + j))
  rw [fr_iff v col r q c (c + 1 + j) hx] at h1
  have e : okc x (fr v col r q c (c + 1 + j)) = (decide (col (r * v + c) = x) && decide (col (q * v + c) = x) && (decide (col (r * v + (c + 1 + j)) = x) && decide (col (q * v + (c + 1 + j)) = x))) := by
    rw [Bool.eq_iff_iff, h1]
    simp only [Bool.and_eq_true, decide_eq_true_eq]
    constructor
    · rintro ⟨z1, z2, z3, z4⟩; exact ⟨⟨z1, z3⟩, z2, z4⟩
    · rintro ⟨⟨z1, z3⟩, z2, z4⟩; exact ⟨z1, z2, z3, z4⟩
  rw [e]
theorem one_sum {t s : Nat} (ht : t ≤ s) : (if okc 0 t then 1 else 0) = fb_sm (fun x => if okc (x + 1) t then 1 else 0) s := by
  have h1 : ∀ n, fb_sm (fun x => if okc (x + 1) t then 1 else 0) n = if t ≠ 0 ∧ t ≤ n then 1 else 0 := by
    intro n
    induction n with
    | zero => rw [if_neg (by omega)]; rfl
    | succ n ih =>
      rw [fb_sm_succ, ih]
      by_cases q : t = n + 1
      · rw [if_neg (by omega), if_pos ((okc_x (by omega) t).mpr q), if_pos (by omega)]
      · have : ¬ okc (n + 1) t = true := fun h => q ((okc_x (by omega) t).mp h)
        rw [if_neg this]
        by_cases q2 : t ≠ 0 ∧ t ≤ n
        · rw [if_pos q2, if_pos ⟨q2.1, by omega⟩]
        · rw [if_neg q2, if_neg (by omega)]
  rw [h1 s]
  by_cases q : t = 0
  · rw [if_neg (by rw [okc_0]; omega), if_neg (by omega)]
  · rw [if_pos (by rw [okc_0]; exact q), if_pos ⟨q, ht⟩]
theorem blk_all {h v s : Nat} {col : Nat → Nat} (O : gok h v s col) {r : Nat} (hr : r < h) (q : Nat) : (blk v col 0 r q).length = fb_sm (fun x => rowP v col (x + 1) r q) s := by
  have e : fb_sm (fun x => rowP v col (x + 1) r q) s = fb_sm (fun x => fb_sm (fun c => fb_sm (fun j => if okc (x + 1) (fr v col r q c (c + 1 + j)) then 1 else 0) (v - (c + 1))) v) s :=
    fb_sm_cong (fun x _ => by rw [← blk_one v col (by omega), blk_len])
  rw [e, blk_len, fb_sm_swap]
  refine fb_sm_cong (fun c hc => ?_)
  rw [fb_sm_swap]
  refine fb_sm_cong (fun j _ => ?_)
  exact one_sum (fr_le O hr hc)
theorem rcs_len (h v : Nat) (col : Nat → Nat) (x : Nat) : (rcs h v col x).length = fb_sm (fun r => fb_sm (fun j => (blk v col x r (r + 1 + j)).length) (h - (r + 1))) h := by
  unfold rcs
  rw [enum_len]
  refine fb_sm_cong (fun r _ => ?_)
  unfold rcR
  rw [enum_len, Nat.zero_add]
theorem cof_len (h v : Nat) (col : Nat → Nat) {x : Nat} (hx : x ≠ 0) : cof h v col x = (rcs h v col x).length := by
  rw [rcs_len]
  unfold cof cofR
  exact fb_sm_cong (fun r _ => fb_sm_cong (fun j _ => (blk_one v col hx r _).symm))
theorem call_len {h v s : Nat} {col : Nat → Nat} (O : gok h v s col) : fb_sm (fun x => cof h v col (x + 1)) s = (rcs h v col 0).length := by
  rw [rcs_len]
  unfold cof cofR
  rw [fb_sm_swap]
  refine fb_sm_cong (fun r hr => ?_)
  rw [fb_sm_swap]
  refine fb_sm_cong (fun j _ => ?_)
  exact (blk_all O hr _).symm
theorem blk_le (v : Nat) (col : Nat → Nat) (x r q : Nat) (hv : v ≤ 8) : (blk v col x r q).length ≤ 64 := by
  rw [blk_len]
  have h1 : ∀ c, c < v → fb_sm (fun j => if okc x (fr v col r q c (c + 1 + j)) then 1 else 0) (v - (c + 1)) ≤ 8 := by
    intro c hc
    rw [← ct_sm]
    have := fb_ct_le (fun j => okc x (fr v col r q c (c + 1 + j))) (v - (c + 1))
    omega
  have h2 : fb_sm (fun c => fb_sm (fun j => if okc x (fr v col r q c (c + 1 + j)) then 1 else 0) (v - (c + 1))) v ≤ fb_sm (fun _ => 8) v := fb_sm_le h1
  rw [fb_sm_const] at h2
  omega
theorem rcs_le (h v : Nat) (col : Nat → Nat) (x : Nat) (hh : h ≤ 8) (hv : v ≤ 8) : (rcs h v col x).length ≤ 784 := by
  rw [rcs_len]
  have hB : ∀ r q, (blk v col x r q).length ≤ 28 := by
    intro r q
    rw [blk_len]
    have h1 : fb_sm (fun c => fb_sm (fun j => if okc x (fr v col r q c (c + 1 + j)) then 1 else 0) (v - (c + 1))) v ≤ fb_sm (fun c => fb_sm (fun _ => 1) (v - (c + 1))) v :=
      fb_sm_le (fun c _ => fb_sm_le (fun j _ => by split <;> omega))
    have h2 : ∀ v : Fin 9, fb_sm (fun c => fb_sm (fun _ => 1) (v.val - (c + 1))) v.val ≤ 28 := by decide
    exact Nat.le_trans h1 (h2 ⟨v, by omega⟩)
  have h1 : fb_sm (fun r => fb_sm (fun j => (blk v col x r (r + 1 + j)).length) (h - (r + 1))) h ≤ fb_sm (fun r => fb_sm (fun _ => 28) (h - (r + 1))) h := fb_sm_le (fun r _ => fb_sm_le (fun j _ => hB _ _))
  have h2 : ∀ h : Fin 9, fb_sm (fun r => fb_sm (fun _ => 28) (h.val - (r + 1))) h.val ≤ 784 := by decide
  exact Nat.le_trans h1 (h2 ⟨h, by omega⟩)
