/-! TOKENS: what a text's next one is, and that the class steps to it -/
def isL (c : Nat) : Prop := 97 ≤ c ∧ c ≤ 122
def isD (c : Nat) : Prop := 48 ≤ c ∧ c ≤ 57
def isB (c : Nat) : Prop := c = 32 ∨ c = 10
def vfn (b : Nat → Nat) (q : Nat) : Nat → Nat
  | 0 => 0
  | k + 1 => vfn b q k * 10 + (b (q + k) - 48)
/-- a token behind place p: its kind, where it begins, where the next may begin, its number -/
def TK (b : Nat → Nat) (t p : Nat) (κ π ν val : Nat) : Prop := ∃ q, p ≤ q ∧ q ≤ t ∧ (∀ j, p ≤ j → j < q → isB (b j)) ∧ (q < t → ¬ isB (b q)) ∧
  ((min t 400 ≤ q ∧ κ = 0 ∧ π = min t 400) ∨
   (q < min t 400 ∧ π = q ∧ b q = 59 ∧ κ = 3 ∧ ν = q + 1) ∨
   (q < min t 400 ∧ π = q ∧ b q ≠ 59 ∧ ∃ e, q ≤ e ∧ e ≤ t ∧ (∀ j, q ≤ j → j < e → isL (b j) ∨ isD (b j)) ∧ (e < t → ¬ (isL (b e) ∨ isD (b e))) ∧
     ((κ = 1 ∧ ν = e ∧ q < e ∧ ∀ j, q ≤ j → j < e → isL (b j)) ∨
      (κ = 2 ∧ ν = e ∧ q < e ∧ e ≤ q + 2 ∧ (∀ j, q ≤ j → j < e → isD (b j)) ∧ val = vfn b q (e - q)) ∨
      (κ = 4 ∧ (e = q ∨ (¬ (∀ j, q ≤ j → j < e → isL (b j)) ∧ ¬ ((∀ j, q ≤ j → j < e → isD (b j)) ∧ e ≤ q + 2)))))))
theorem run_ex (P : Nat → Prop) (t : Nat) : ∀ d q, q + d = t → ∃ e, q ≤ e ∧ e ≤ t ∧ (∀ j, q ≤ j → j < e → P j) ∧ (e < t → ¬ P e) := by
  intro d
  induction d with
  | zero => intro q hq; exact ⟨q, Nat.le_refl _, by omega, fun j a b => by omega, fun h => by omega⟩
  | succ d ih =>
    intro q hq
    rcases Classical.em (P q) with z | z
    · obtain ⟨e, a, b, c, f⟩ := ih (q + 1) (by omega)
      refine ⟨e, by omega, b, fun j j1 j2 => ?_, f⟩
      by_cases y : j = q
      · subst y; exact z
      · exact c j (by omega) j2
    · exact ⟨q, Nat.le_refl _, by omega, fun j a b => by omega, fun _ => z⟩
theorem TK_ex (b : Nat → Nat) {t p : Nat} (hp : p ≤ t) : ∃ κ π ν val, TK b t p κ π ν val := by
  obtain ⟨q, q1, q2, q3, q4⟩ := run_ex (fun j => isB (b j)) t (t - p) p (by omega)
  rcases Nat.lt_or_ge q (min t 400) with z | z
  · by_cases y : b q = 59
    · exact ⟨3, q, q + 1, 0, q, q1, q2, q3, q4, Or.inr (Or.inl ⟨z, rfl, y, rfl, rfl⟩)⟩
    · obtain ⟨e, e1, e2, e3, e4⟩ := run_ex (fun j => isL (b j) ∨ isD (b j)) t (t - q) q (by omega)
      rcases Classical.em (q < e ∧ ∀ j, q ≤ j → j < e → isL (b j)) with u | u
      · exact ⟨1, q, e, 0, q, q1, q2, q3, q4, Or.inr (Or.inr ⟨z, rfl, y, e, e1, e2, e3, e4, Or.inl ⟨rfl, rfl, u.1, u.2⟩⟩)⟩
      · rcases Classical.em (q < e ∧ e ≤ q + 2 ∧ ∀ j, q ≤ j → j < e → isD (b j)) with w | w
        · exact ⟨2, q, e, vfn b q (e - q), q, q1, q2, q3, q4, Or.inr (Or.inr ⟨z, rfl, y, e, e1, e2, e3, e4, Or.inr (Or.inl ⟨rfl, rfl, w.1, w.2.1, w.2.2, rfl⟩)⟩)⟩
        · refine ⟨4, q, 0, 0, q, q1, q2, q3, q4, Or.inr (Or.inr ⟨z, rfl, y, e, e1, e2, e3, e4, Or.inr (Or.inr ⟨rfl, ?_⟩)⟩)⟩
          rcases Nat.lt_or_ge q e with x | x
          · exact Or.inr ⟨fun h => u ⟨x, h⟩, fun h => w ⟨x, h.2, h.1⟩⟩
          · exact Or.inl (by omega)
  · exact ⟨0, min t 400, 0, 0, q, q1, q2, q3, q4, Or.inl ⟨z, rfl, rfl⟩⟩
/-- what a token that may come tells of places -/
theorem TK_pos {b : Nat → Nat} {t p κ π ν val : Nat} (T : TK b t p κ π ν val) (hk : κ = 1 ∨ κ = 2 ∨ κ = 3) : p ≤ π ∧ π < ν ∧ ν ≤ t ∧ π < 400 := by
  obtain ⟨q, q1, q2, q3, q4, h⟩ := T
  rcases h with ⟨a, c, d⟩ | ⟨a, c, d, e, f⟩ | ⟨a, c, d, e, e1, e2, e3, e4, h⟩
  · omega
  · omega
  · rcases h with ⟨h1, h2, h3, -⟩ | ⟨h1, h2, h3, -⟩ | ⟨h1, -⟩
    · omega
    · omega
    · omega
theorem TK_val {b : Nat → Nat} {t p π ν val : Nat} (T : TK b t p 2 π ν val) : val ≤ 99 := by
  obtain ⟨q, q1, q2, q3, q4, h⟩ := T
  rcases h with ⟨a, c, d⟩ | ⟨a, c, d, e, f⟩ | ⟨a, c, d, e, e1, e2, e3, e4, h⟩
  · omega
  · omega
  · rcases h with ⟨h1, -⟩ | ⟨h1, h2, h3, h4, h5, h6⟩ | ⟨h1, -⟩
    · omega
    · rcases (show e = q + 1 ∨ e = q + 2 by omega) with z | z
      · have := h5 q (by omega) (by omega)
        unfold isD at this
        rw [h6, z, show q + 1 - q = 1 by omega]
        show 0 * 10 + (b (q + 0) - 48) ≤ 99
        rw [Nat.add_zero]
        omega
      · have a1 := h5 q (by omega) (by omega)
        have a2 := h5 (q + 1) (by omega) (by omega)
        unfold isD at a1 a2
        rw [h6, z, show q + 2 - q = 2 by omega]
        show (0 * 10 + (b (q + 0) - 48)) * 10 + (b (q + 1) - 48) ≤ 99
        rw [Nat.add_zero]
        omega
    · omega
theorem R_isLetter {c : Nat} (hc : c < 256) (w : am_W) : (isL c ∧ f_R_isLetter (nI c) w = some (w, 1)) ∨ (¬ isL c ∧ f_R_isLetter (nI c) w = some (w, 0)) := by
  unfold f_R_isLetter e_R_isLetter f_R_isLetter_p16 f_R_isLetter_p17 isL
  rcases Nat.lt_or_ge c 97 with a | a
  · have q : nI c < (97 : Int32) := nI_lt (b := 97) a (by decide)
    exact Or.inr ⟨by omega, by rw [if_pos q]; rfl⟩
  · have q : ¬ nI c < (97 : Int32) := nI_nlt (b := 97) a (by omega)
    rw [if_neg q]
    rcases Nat.lt_or_ge 122 c with d | d
    · have q2 : (122 : Int32) < nI c := nI_lt (a := 122) d (by omega)
      exact Or.inr ⟨by omega, by rw [if_pos q2]; rfl⟩
    · have q2 : ¬ (122 : Int32) < nI c := nI_nlt (a := 122) d (by omega)
      exact Or.inl ⟨⟨a, d⟩, by rw [if_neg q2]; rfl⟩
theorem R_isDigit {c : Nat} (hc : c < 256) (w : am_W) : (isD c ∧ f_R_isDigit (nI c) w = some (w, 1)) ∨ (¬ isD c ∧ f_R_isDigit (nI c) w = some (w, 0)) := by
  unfold f_R_isDigit e_R_isDigit f_R_isDigit_p16 f_R_isDigit_p17 isD
  rcases Nat.lt_or_ge c 48 with a | a
  · have q : nI c < (48 : Int32) := nI_lt (b := 48) a (by decide)
    exact Or.inr ⟨by omega, by rw [if_pos q]; rfl⟩
  · have q : ¬ nI c < (48 : Int32) := nI_nlt (b := 48) a (by omega)
    rw [if_neg q]
    rcases Nat.lt_or_ge 57 c with d | d
    · have q2 : (57 : Int32) < nI c := nI_lt (a := 57) d (by omega)
      exact Or.inr ⟨by omega, by rw [if_pos q2]; rfl⟩
    · have q2 : ¬ (57 : Int32) < nI c := nI_nlt (a := 57) d (by omega)
      exact Or.inl ⟨⟨a, d⟩, by rw [if_neg q2]; rfl⟩
theorem nI_is {c k : Nat} (hc : c < 256) (hk : k < 256) : nI c = nI k ↔ c = k := nI_eq (by omega) (by omega)
theorem R_isBlank {c : Nat} (hc : c < 256) (w : am_W) : (isB c ∧ f_R_isBlank (nI c) w = some (w, 1)) ∨ (¬ isB c ∧ f_R_isBlank (nI c) w = some (w, 0)) := by
  unfold f_R_isBlank e_R_isBlank f_R_isBlank_p12 f_R_isBlank_p17 isB
  by_cases a : c = 32
  · exact Or.inl ⟨Or.inl a, by rw [if_pos (show nI c = (32 : Int32) by rw [a]; rfl)]; rfl⟩
  · have a' : ¬ nI c = (32 : Int32) := fun h => a ((nI_is hc (k := 32) (by decide)).mp h)
    rw [if_neg a']
    by_cases d : c = 10
    · exact Or.inl ⟨Or.inr d, by rw [if_neg (show ¬ ¬ nI c = (10 : Int32) by rw [d]; exact fun q => q rfl)]; rfl⟩
    · have d' : ¬ nI c = (10 : Int32) := fun h => d ((nI_is hc (k := 10) (by decide)).mp h)
      exact Or.inr ⟨by rintro (h | h); exact a h; exact d h, by rw [if_pos d']; rfl⟩
theorem dig_no_let {c : Nat} (h : isD c) : ¬ isL c := by unfold isD at h; unfold isL; omega
section TKA
variable {n1 n2 L : Nat} {xs : Nat → Int32} {g : Nat → GR} {i : Nat → Int32} {A : Nat → Nat → Int32} {m : Nat → Int32} {B : Nat → Nat → Int32} {J : Nat → Int64} {wd : Int64} {o : Nat → Int64} {t : Nat} {b : Nat → Nat} {f' : Nat → Int32}
theorem rr_loop (ht : t ≤ 440) (T : tpp t b (A 10) f') {q e : Nat} (e2 : e ≤ t) (e3 : ∀ j, q ≤ j → j < e → isL (b j) ∨ isD (b j)) (e4 : e < t → ¬ (isL (b e) ∨ isD (b e))) : ∀ d n x l dd i, x + d = e → q ≤ x → d < n → i 73 = nI t → i 123 = nI x → l + dd = x - q → (dd = 0 ↔ ∀ j, q ≤ j → j < x → isL (b j)) → (l = 0 ↔ ∀ j, q ≤ j → j < x → isD (b j)) → ((∀ j, q ≤ j → j < x → isD (b j)) → i 124 = nI (vfn b q (x - q))) →
    ∃ l' dd' i', (∀ a, a ≠ 123 → a ≠ 124 → i' a = i a) ∧ i' 123 = nI e ∧ l' + dd' = e - q ∧ (dd' = 0 ↔ ∀ j, q ≤ j → j < e → isL (b j)) ∧ (l' = 0 ↔ ∀ j, q ≤ j → j < e → isD (b j)) ∧ ((∀ j, q ≤ j → j < e → isD (b j)) → i' 124 = nI (vfn b q (e - q))) ∧
      f_R_readRun_p17 n 15 9 (nI l) (nI dd) (mk n1 n2 L xs g i A m B J wd o) = f_R_readRun_p93 15 (nI l') (nI dd') (mk n1 n2 L xs g i' A m B J wd o) := by
  intro d
  induction d with
  | zero =>
    intro n x l dd i hx hq hn hi hp h1 h2 h3 h4
    obtain ⟨n, rfl⟩ : ∃ m, n = m + 1 := ⟨n - 1, by omega⟩
    have ex : x = e := by omega
    subst ex
    refine ⟨l, dd, i, fun _ _ _ => rfl, hp, h1, h2, h3, h4, ?_⟩
    rw [f_R_readRun_p17, rd15_3, Option.bind_some, T_length, Option.bind_some, hi, hp]
    rcases Nat.lt_or_ge x t with z | z
    · obtain ⟨c1, c2, -⟩ := T x z
      have nn := e4 z
      rw [if_neg (nI_ge z (by omega)), rd15_3, Option.bind_some, hp, T_byteAt ht hi z, Option.bind_some, c2]
      rcases R_isLetter c1 (mk n1 n2 L xs g i A m B J wd o) with ⟨u, _⟩ | ⟨u, eu⟩
      · exact absurd (Or.inl u) nn
      · rw [eu, Option.bind_some, if_pos rfl]
        rcases R_isDigit c1 (mk n1 n2 L xs g i A m B J wd o) with ⟨y, _⟩ | ⟨y, ey⟩
        · exact absurd (Or.inr y) nn
        · rw [ey, Option.bind_some, if_pos rfl]
    · rw [if_pos (nI_le (by omega) (by omega))]
  | succ d ih =>
    intro n x l dd i hx hq hn hi hp h1 h2 h3 h4
    obtain ⟨n, rfl⟩ : ∃ m, n = m + 1 := ⟨n - 1, by omega⟩
    have xt : x < t := by omega
    obtain ⟨c1, c2, -⟩ := T x xt
    have al := e3 x hq (by omega)
    have split : ∀ P : Nat → Prop, (∀ j, q ≤ j → j < x + 1 → P (b j)) ↔ (∀ j, q ≤ j → j < x → P (b j)) ∧ P (b x) := by
      intro P
      constructor
      · intro h; exact ⟨fun j a c => h j a (by omega), h x hq (by omega)⟩
      · rintro ⟨h, h'⟩ j a c
        by_cases y : j = x
        · subst y; exact h'
        · exact h j a (by omega)
    rw [f_R_readRun_p17, rd15_3, Option.bind_some, T_length, Option.bind_some, hi, hp, if_neg (nI_ge xt (by omega)), rd15_3, Option.bind_some, hp, T_byteAt ht hi xt, Option.bind_some, c2]
    rcases R_isLetter c1 (mk n1 n2 L xs g i A m B J wd o) with ⟨u, eu⟩ | ⟨u, eu⟩
    · rw [eu, Option.bind_some, if_neg (show ¬ (1 : Int32) = 0 by decide), nI_1]
      unfold f_R_readRun_p80
      rw [rd15_3, Option.bind_some, hp, wr15_3, Option.bind_some, nI_1]
      have nd : ¬ isD (b x) := fun h => dig_no_let h u
      obtain ⟨l', dd', i', a1, a2, a3, a4, a5, a6, a7⟩ := ih n (x + 1) (l + 1) dd (up i 123 (nI (x + 1))) (by omega) (by omega) (by omega) (by rw [up_n _ _ (by decide), hi]) (up_s _ _ _) (by omega) (by rw [split isL, h2]; exact ⟨fun h => ⟨h, u⟩, fun h => h.1⟩) (by rw [split isD]; exact ⟨fun h => by omega, fun h => absurd h.2 nd⟩) (fun h => absurd ((split isD).mp h).2 nd)
      exact ⟨l', dd', i', fun a b c => by rw [a1 a b c, up_n _ _ b], a2, a3, a4, a5, a6, a7⟩
    · have dg' : isD (b x) := by
        rcases al with h | h
        · exact absurd h u
        · exact h
      rw [eu, Option.bind_some, if_pos rfl]
      rcases R_isDigit c1 (mk n1 n2 L xs g i A m B J wd o) with ⟨y, ey⟩ | ⟨y, _⟩
      · rw [ey, Option.bind_some, if_neg (show ¬ (1 : Int32) = 0 by decide), rd15_4, Option.bind_some, wr15_4, Option.bind_some, nI_1]
        unfold f_R_readRun_p80
        rw [rd15_3, Option.bind_some, up_n _ _ (by decide), hp, wr15_3, Option.bind_some, nI_1]
        obtain ⟨l', dd', i', a1, a2, a3, a4, a5, a6, a7⟩ := ih n (x + 1) l (dd + 1) (up (up i 124 (i 124 * 10 + nI (b x) - 48)) 123 (nI (x + 1))) (by omega) (by omega) (by omega) (by rw [up_n _ _ (by decide), up_n _ _ (by decide), hi]) (up_s _ _ _) (by omega) (by rw [split isL]; exact ⟨fun h => by omega, fun h => absurd h.2 u⟩) (by rw [split isD, h3]; exact ⟨fun h => ⟨h, dg'⟩, fun h => h.1⟩) (fun h => by
          have hv := h4 ((split isD).mp h).1
          have d48 : 48 ≤ b x := dg'.1
          rw [up_n _ _ (by decide), up_s, hv, show (10 : Int32) = nI 10 from rfl, pk_mul, nI_add, show (48 : Int32) = nI 48 from rfl, pk_sub (by omega), show x + 1 - q = (x - q) + 1 by omega]
          show nI (vfn b q (x - q) * 10 + b x - 48) = nI (vfn b q (x - q) * 10 + (b (q + (x - q)) - 48))
          rw [show q + (x - q) = x by omega, show vfn b q (x - q) * 10 + b x - 48 = vfn b q (x - q) * 10 + (b x - 48) by omega])
        exact ⟨l', dd', i', fun a b c => by rw [a1 a b c, up_n _ _ b, up_n _ _ c], a2, a3, a4, a5, a6, a7⟩
      · exact absurd dg' y
theorem rs_skip (ht : t ≤ 440) (T : tpp t b (A 10) f') {q p lm : Nat} (hlm : lm ≤ t) (q3 : ∀ j, p ≤ j → j < q → isB (b j)) (q4 : q < t → ¬ isB (b q)) {z : Nat} (hz : (p ≤ lm ∧ z = min q lm ∧ p ≤ q) ∨ (lm < p ∧ z = p)) (hzt : z ≤ t) : ∀ d n x i, x + d = z → p ≤ x → d < n → i 73 = nI t → i 123 = nI x → f_R_step_p11 n 15 9 (nI lm) (mk n1 n2 L xs g i A m B J wd o) = f_R_step_p46 15 9 (nI lm) (mk n1 n2 L xs g (up i 123 (nI z)) A m B J wd o) := by
  intro d
  induction d with
  | zero =>
    intro n x i hx hp hn hi h3
    obtain ⟨n, rfl⟩ : ∃ m, n = m + 1 := ⟨n - 1, by omega⟩
    have ex : x = z := by omega
    have hu : up i 123 (nI z) = i := by rw [← ex, ← h3]; exact up_id i 123
    rw [hu, f_R_step_p11, rd15_3, Option.bind_some, h3]
    rcases Nat.lt_or_ge x lm with y | y
    · have xq : x = q := by omega
      obtain ⟨c1, c2, -⟩ := T x (by omega)
      rw [if_neg (nI_ge y (by omega)), Option.bind_some, T_byteAt ht hi (by omega), Option.bind_some, c2]
      rcases R_isBlank c1 (mk n1 n2 L xs g i A m B J wd o) with ⟨u, eu⟩ | ⟨u, eu⟩
      · exact absurd (by rw [← xq]; exact u) (q4 (by omega))
      · rw [eu, Option.bind_some, if_pos rfl]
    · rw [if_pos (nI_le y (by omega))]
  | succ d ih =>
    intro n x i hx hp hn hi h3
    obtain ⟨n, rfl⟩ : ∃ m, n = m + 1 := ⟨n - 1, by omega⟩
    have y : x < lm := by omega
    obtain ⟨c1, c2, -⟩ := T x (by omega)
    rw [f_R_step_p11, rd15_3, Option.bind_some, h3, if_neg (nI_ge y (by omega)), Option.bind_some, T_byteAt ht hi (by omega), Option.bind_some, c2]
    rcases R_isBlank c1 (mk n1 n2 L xs g i A m B J wd o) with ⟨u, eu⟩ | ⟨u, eu⟩
    · rw [eu, Option.bind_some, if_neg (show ¬ (1 : Int32) = 0 by decide), rd15_3, Option.bind_some, h3, wr15_3, Option.bind_some, nI_1, ih n (x + 1) (up i 123 (nI (x + 1))) (by omega) (by omega) (by omega) (by rw [up_n _ _ (by decide), hi]) (up_s _ _ _), up_up]
    · exact absurd (q3 x hp (by omega)) u
theorem am_min_nI {a c : Nat} (ha : a < 2 ^ 31) (hc : c < 2 ^ 31) : am_min (nI a) (nI c) = nI (min a c) := by
  unfold am_min
  rcases Nat.lt_or_ge c a with z | z
  · rw [if_pos (nI_lt z ha), show min a c = c by omega]
  · rw [if_neg (nI_nlt z hc), show min a c = a by omega]
theorem R_step (ht : t ≤ 440) (T : tpp t b (A 10) f') {p κ π ν val : Nat} (K : TK b t p κ π ν val) (hp : p ≤ t) (hi : i 73 = nI t) (h3 : i 123 = nI p) : ∃ i', f_R_step 15 9 (mk n1 n2 L xs g i A m B J wd o) = some (mk n1 n2 L xs g i' A m B J wd o, ()) ∧ (∀ a, a ≠ 121 → a ≠ 122 → a ≠ 123 → a ≠ 124 → i' a = i a) ∧ i' 121 = nI κ ∧ i' 122 = nI π ∧ ((κ = 1 ∨ κ = 2 ∨ κ = 3) → i' 123 = nI ν) ∧ (κ = 2 → i' 124 = nI val) := by
  obtain ⟨q, q1, q2, q3, q4, K⟩ := K
  have e400 : am_min (nI t) 400 = nI (min t 400) := am_min_nI (c := 400) (by omega) (by decide)
  have hz : (p ≤ min t 400 ∧ (if p ≤ min t 400 then min q (min t 400) else p) = min q (min t 400) ∧ p ≤ q) ∨ (min t 400 < p ∧ (if p ≤ min t 400 then min q (min t 400) else p) = p) := by
    by_cases y : p ≤ min t 400
    · exact Or.inl ⟨y, if_pos y, q1⟩
    · exact Or.inr ⟨by omega, if_neg y⟩
  have hpz : p ≤ (if p ≤ min t 400 then min q (min t 400) else p) := by split <;> omega
  have hzt : (if p ≤ min t 400 then min q (min t 400) else p) ≤ t := by split <;> omega
  generalize hzz : (if p ≤ min t 400 then min q (min t 400) else p) = z at *
  have e1 := rs_skip (n1 := n1) (n2 := n2) (L := L) (xs := xs) (g := g) (m := m) (B := B) (J := J) (wd := wd) (o := o) ht T (lm := min t 400) (by omega) q3 q4 hz hzt (z - p) am_N p i (by omega) (by omega) (by unfold am_N; omega) hi h3
  unfold f_R_step e_R_step
  rw [sf15, T_length, Option.bind_some, hi, e400, e1]
  unfold f_R_step_p46 f_R_step_p110
  rw [rd15_3, Option.bind_some, up_s, am_min_nI (by omega) (by omega), wr15_2, Option.bind_some, rd15_3, Option.bind_some, up_n _ _ (by decide), up_s]
  rcases K with ⟨k1, k2, k3⟩ | ⟨k1, k2, k3, k4, k5⟩ | ⟨k1, k2, k3, e, e1', e2, e3, e4, K⟩
  · have zl : min z (min t 400) = min t 400 := by omega
    rw [if_neg (nI_nlt (by omega) (by omega)), wr15_1, Option.bind_some, zl]
    exact ⟨_, rfl, fun a b c d e => by rw [up_n _ _ b, up_n _ _ c, up_n _ _ d], by rw [up_s, k2]; rfl, by rw [up_n _ _ (by decide), up_s, k3], fun h => by omega, fun h => by omega⟩
  · have zq : z = q := by omega
    subst zq
    obtain ⟨c1, c2, -⟩ := T z (by omega)
    have c59 : A 10 z = (59 : Int32) := by rw [c2, k3]; rfl
    rw [if_pos (nI_lt (by omega) (by omega)), Option.bind_some, T_byteAt ht (by rw [up_n _ _ (by decide), up_n _ _ (by decide), hi]) (by omega), Option.bind_some, c59, if_neg (fun h => h rfl), wr15_1, Option.bind_some, rd15_3, Option.bind_some, up_n _ _ (by decide), up_n _ _ (by decide), up_s, wr15_3, Option.bind_some, nI_1, show min z (min t 400) = z by omega]
    exact ⟨_, rfl, fun a b c d e => by rw [up_n _ _ d, up_n _ _ b, up_n _ _ c, up_n _ _ d], by rw [up_n _ _ (by decide), up_s, k4]; rfl, by rw [up_n _ _ (by decide), up_n _ _ (by decide), up_s, k2], fun h => by rw [up_s, k5], fun h => by omega⟩
  · have zq : z = q := by omega
    subst zq
    obtain ⟨c1, c2, -⟩ := T z (by omega)
    have c59 : ¬ A 10 z = (59 : Int32) := by rw [c2]; exact fun h => k3 ((nI_is c1 (k := 59) (by decide)).mp h)
    rw [if_pos (nI_lt (by omega) (by omega)), Option.bind_some, T_byteAt ht (by rw [up_n _ _ (by decide), up_n _ _ (by decide), hi]) (by omega), Option.bind_some, if_pos c59, show min z (min t 400) = z by omega]
    unfold f_R_readRun e_R_readRun
    rw [sf15, wr15_4, Option.bind_some, rd15_2, Option.bind_some, up_n _ _ (by decide), up_s, wr15_3, Option.bind_some]
    obtain ⟨l', dd', i', a1, a2, a3, a4, a5, a6, a7⟩ := rr_loop (n1 := n1) (n2 := n2) (L := L) (xs := xs) (g := g) (m := m) (B := B) (J := J) (wd := wd) (o := o) ht T e2 e3 e4 (e - z) am_N z 0 0 (up (up (up (up i 123 (nI z)) 122 (nI z)) 124 0) 123 (nI z)) (by omega) (by omega) (by unfold am_N; omega) (by rw [up_n _ _ (by decide), up_n _ _ (by decide), up_n _ _ (by decide), up_n _ _ (by decide), hi]) (up_s _ _ _) (by omega) ⟨fun _ j h1 h2 => by omega, fun _ => rfl⟩ ⟨fun _ j h1 h2 => by omega, fun _ => rfl⟩ (fun _ => by rw [up_n _ _ (by decide), up_s, Nat.sub_self]; rfl)
    have a7' : f_R_readRun_p17 am_N 15 9 0 0 (mk n1 n2 L xs g (up (up (up (up i 123 (nI z)) 122 (nI z)) 124 0) 123 (nI z)) A m B J wd o) = _ := a7
    rw [a7']
    have f122 : i' 122 = nI z := by rw [a1 122 (by decide) (by decide), up_n _ _ (by decide), up_n _ _ (by decide), up_s]
    have fo : ∀ a, a ≠ 121 → a ≠ 122 → a ≠ 123 → a ≠ 124 → i' a = i a := fun a b c d e => by rw [a1 a d e, up_n _ _ d, up_n _ _ e, up_n _ _ c, up_n _ _ d]
    have fin : ∀ y : Int32, y = nI κ → ∃ i2, ((f_R_readRun_p129 15 y (mk n1 n2 L xs g i' A m B J wd o)).bind fun r13 => some (r13.1, ())) = some (mk n1 n2 L xs g i2 A m B J wd o, ()) ∧ (∀ a, a ≠ 121 → a ≠ 122 → a ≠ 123 → a ≠ 124 → i2 a = i a) ∧ i2 121 = nI κ ∧ i2 122 = nI z ∧ i2 123 = nI e ∧ i2 124 = i' 124 := by
      intro y hy
      unfold f_R_readRun_p129 f_R_readRun_p132
      rw [wr15_1, Option.bind_some, Option.bind_some]
      exact ⟨_, rfl, fun a b c d e => by rw [up_n _ _ b, fo a b c d e], by rw [up_s, hy], by rw [up_n _ _ (by decide), f122], by rw [up_n _ _ (by decide), a2], up_n _ _ (by decide)⟩
    unfold f_R_readRun_p93 f_R_readRun_p109 f_R_readRun_p128 f_R_readRun_p124
    have lpos : ∀ x : Nat, x ≤ 440 → (nI x ≤ (0 : Int32) ↔ x = 0) := by
      intro x hx
      constructor
      · intro h
        rcases Nat.eq_zero_or_pos x with y | y
        · exact y
        · exact absurd h (nI_ge (a := 0) y (by omega))
      · rintro rfl; decide
    rcases K with ⟨h1, h2, h3', h4⟩ | ⟨h1, h2, h3', h4, h5, h6⟩ | ⟨h1, h2⟩
    · have dz : dd' = 0 := a4.mpr h4
      have ln : ¬ nI l' ≤ (0 : Int32) := by rw [lpos l' (by omega)]; omega
      rw [if_neg ln, dz, if_neg (show ¬ ¬ nI 0 = (0 : Int32) from fun q => q rfl)]
      obtain ⟨i2, g1, g2, g3, g4, g5, g6⟩ := fin 1 (by rw [h1]; rfl)
      unfold f_R_readRun_p129 at g1
      exact ⟨i2, g1, g2, g3, by rw [g4, k2], fun _ => by rw [g5, h2], fun h => by omega⟩
    · have lz : l' = 0 := a5.mpr h5
      have dn : ¬ nI dd' = (0 : Int32) := nI_ne0 (by omega) (by omega)
      obtain ⟨i2, g1, g2, g3, g4, g5, g6⟩ := fin 2 (by rw [h1]; rfl)
      refine ⟨i2, ?_, g2, g3, by rw [g4, k2], fun _ => by rw [g5, h2], fun _ => by rw [g6, a6 h5, h6]⟩
      rw [lz, if_pos (show nI 0 ≤ (0 : Int32) by decide), if_neg (show ¬ ¬ nI 0 = (0 : Int32) from fun q => q rfl)]
      rcases (show dd' = 1 ∨ dd' = 2 by omega) with y | y
      · rw [y, if_pos (show nI 1 = (1 : Int32) from rfl)]
        exact g1
      · rw [y, if_neg (show ¬ nI 2 = (1 : Int32) by decide), if_neg (show ¬ ¬ nI 2 = (2 : Int32) from fun q => q rfl)]
        exact g1
    · obtain ⟨i2, g1, g2, g3, g4, g5, g6⟩ := fin 4 (by rw [h1]; rfl)
      refine ⟨i2, ?_, g2, g3, by rw [g4, k2], fun h => by omega, fun h => by omega⟩
      by_cases lz : l' = 0
      · have dd12 : dd' ≠ 1 ∧ dd' ≠ 2 := by
          rcases h2 with h2 | ⟨h2, h3'⟩
          · omega
          · have ad := a5.mp lz
            have : ¬ e ≤ z + 2 := fun y => h3' ⟨ad, y⟩
            omega
        rw [lz, if_pos (show nI 0 ≤ (0 : Int32) by decide), if_neg (show ¬ ¬ nI 0 = (0 : Int32) from fun q => q rfl), if_neg (show ¬ nI dd' = (1 : Int32) from fun h => dd12.1 ((nI_eq (by omega) (b := 1) (by decide)).mp h)), if_pos (show ¬ nI dd' = (2 : Int32) from fun h => dd12.2 ((nI_eq (by omega) (b := 2) (by decide)).mp h))]
        exact g1
      · have dn : dd' ≠ 0 := by
          rcases h2 with h2 | ⟨h2, h3'⟩
          · omega
          · exact fun y => h2 (a4.mp y)
        have ln : ¬ nI l' ≤ (0 : Int32) := by rw [lpos l' (by omega)]; exact lz
        rw [if_neg ln, if_pos (nI_ne0 (by omega) (by omega)), if_pos (nI_ne0 (by omega) (by omega))]
        exact g1
end TKA
