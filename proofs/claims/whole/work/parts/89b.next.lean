/-! TOKENS: the model goes to the same; words -/
def hsh (b : Nat → Nat) (q : Nat) : Nat → Nat
  | 0 => 0
  | k + 1 => 27 * hsh b q k + (b (q + k) - 96)
def srt (t κ : Nat) : Nat := if κ = 0 then (if t ≤ 400 then 0 else 1) else if κ = 4 then 1 else κ + 1
theorem M_isLetter {c : Nat} (hc : c < 256) (w : am_W) : (isL c ∧ f_M_isLetter (nI c) w = some (w, 1)) ∨ (¬ isL c ∧ f_M_isLetter (nI c) w = some (w, 0)) := by
  unfold f_M_isLetter e_M_isLetter f_M_isLetter_p16 f_M_isLetter_p17 isL
  rcases Nat.lt_or_ge c 97 with a | a
  · have q : nI c < (97 : Int32) := nI_lt (b := 97) a (by decide)
    exact Or.inr ⟨by omega, by rw [if_pos q]; rfl⟩
  · have q : ¬ nI c < (97 : Int32) := nI_nlt (b := 97) a (by omega)
    rw [if_neg q]
    rcases Nat.lt_or_ge 122 c with d | d
    · have q2 : (122 : Int32) < nI c := nI_lt (a := 122) d (by omega)
      exact Or.inr ⟨by omega, by rw [if_pos q2]; rfl⟩
    · have q2 : ¬ (122 : Int32) < nI c := nI_nlt (a := 122) d (by omega)
      exact Or.inl ⟨⟨a, d⟩, by rw [if_neg q2]; rfl⟩
theorem M_isDigit {c : Nat} (hc : c < 256) (w : am_W) : (isD c ∧ f_M_isDigit (nI c) w = some (w, 1)) ∨ (¬ isD c ∧ f_M_isDigit (nI c) w = some (w, 0)) := by
  unfold f_M_isDigit e_M_isDigit f_M_isDigit_p16 f_M_isDigit_p17 isD
  rcases Nat.lt_or_ge c 48 with a | a
  · have q : nI c < (48 : Int32) := nI_lt (b := 48) a (by decide)
    exact Or.inr ⟨by omega, by rw [if_pos q]; rfl⟩
  · have q : ¬ nI c < (48 : Int32) := nI_nlt (b := 48) a (by omega)
    rw [if_neg q]
    rcases Nat.lt_or_ge 57 c with d | d
    · have q2 : (57 : Int32) < nI c := nI_lt (a := 57) d (by omega)
      exact Or.inr ⟨by omega, by rw [if_pos q2]; rfl⟩
    · have q2 : ¬ (57 : Int32) < nI c := nI_nlt (a := 57) d (by omega)
      exact Or.inl ⟨⟨a, d⟩, by rw [if_neg q2]; rfl⟩
section NXA
variable {n1 n2 L : Nat} {xs : Nat → Int32} {g : Nat → GR} {i : Nat → Int32} {A : Nat → Nat → Int32} {m : Nat → Int32} {B : Nat → Nat → Int32} {J : Nat → Int64} {wd : Int64} {o : Nat → Int64} {t : Nat} {b : Nat → Nat} {f' : Nat → Int32}
theorem M_tapeAt (ht : t ≤ 440) (T : tpp t b f' (B 52)) (h3 : m 3 = nI t) {x : Nat} (hx : x ≤ t) : f_M_tapeAt 51 (nI x) (mk n1 n2 L xs g i A m B J wd o) = some (mk n1 n2 L xs g i A m B J wd o, nI (if x < t then b x else 0)) := by
  unfold f_M_tapeAt e_M_tapeAt f_M_tapeAt_p18
  rw [sf51, rd51_3, Option.bind_some, h3]
  by_cases z : x < t
  · rw [if_neg (nI_ge z (by omega)), if_pos z, rd51_1, Option.bind_some, r_ai ar52 (by omega) (by decide), Option.bind_some, (T x z).2.2]
  · rw [if_pos (nI_le (by omega) (by omega)), if_neg z]
    rfl
theorem mr_loop (ht : t ≤ 440) (T : tpp t b f' (B 52)) {q e : Nat} (l2 : Int32) (hl2 : (isL (b q) ∧ l2 = 1) ∨ (¬ isL (b q) ∧ l2 = 0)) (e2 : e ≤ t) (e3 : ∀ j, q ≤ j → j < e → isL (b j) ∨ isD (b j)) (e4 : e < t → ¬ (isL (b e) ∨ isD (b e))) : ∀ (d n x gd : Nat) (m : Nat → Int32) (wd : Int64), x + d = e → q ≤ x → d < n → m 3 = nI t → m 4 = nI x → m 5 = nI q → gd ≤ 1 → (gd = 1 ↔ ∀ j, q ≤ j → j < x → (isL (b j) ↔ isL (b q))) → ((∀ j, q ≤ j → j < x → isD (b j)) → m 7 = nI (vfn b q (min 2 (x - q)))) → ((∀ j, q ≤ j → j < x → isL (b j)) → wd = lN (hsh b q (min 5 (x - q)))) →
    ∃ (m' : Nat → Int32) (wd' : Int64) (σ : Nat), (∀ a, a ≠ 4 → a ≠ 6 → a ≠ 7 → m' a = m a) ∧ m' 4 = nI e ∧ m' 6 = nI σ ∧ ((¬ (∀ j, q ≤ j → j < e → (isL (b j) ↔ isL (b q))) ∧ σ = 1) ∨ ((∀ j, q ≤ j → j < e → (isL (b j) ↔ isL (b q))) ∧ ((isL (b q) ∧ σ = 2) ∨ (¬ isL (b q) ∧ e ≤ q + 2 ∧ σ = 3) ∨ (¬ isL (b q) ∧ q + 2 < e ∧ σ = 1)))) ∧ ((∀ j, q ≤ j → j < e → isD (b j)) → m' 7 = nI (vfn b q (min 2 (e - q)))) ∧ ((∀ j, q ≤ j → j < e → isL (b j)) → wd' = lN (hsh b q (min 5 (e - q)))) ∧
      f_M_next_p177 n 51 l2 (nI gd) (mk n1 n2 L xs g i A m B J wd o) = some (mk n1 n2 L xs g i A m' B J wd' o, ()) := by
  have nl0 : ¬ isL 0 := by unfold isL; omega
  have nd0 : ¬ isD 0 := by unfold isD; omega
  intro d
  induction d with
  | zero =>
    intro n x gd m wd hx hq hn h3 h4 h5 hg hg1 hv hw
    obtain ⟨n, rfl⟩ : ∃ m, n = m + 1 := ⟨n - 1, by omega⟩
    have ex : x = e := by omega
    subst ex
    have c1 : (if x < t then b x else 0) < 256 := by
      split
      · next z => exact (T x z).1
      · decide
    have nn : ¬ isL (if x < t then b x else 0) ∧ ¬ isD (if x < t then b x else 0) := by
      split
      · next z => exact ⟨fun h => e4 z (Or.inl h), fun h => e4 z (Or.inr h)⟩
      · exact ⟨nl0, nd0⟩
    rw [f_M_next_p177, rd51_4, Option.bind_some, h4, M_tapeAt ht T h3 e2, Option.bind_some]
    rcases M_isLetter c1 (mk n1 n2 L xs g i A m B J wd o) with ⟨u, _⟩ | ⟨u, eu⟩
    · exact absurd u nn.1
    rw [eu, Option.bind_some, if_neg (fun q => q rfl), rd51_4, Option.bind_some, h4, M_tapeAt ht T h3 e2, Option.bind_some]
    rcases M_isDigit c1 (mk n1 n2 L xs g i A m B J wd o) with ⟨y, _⟩ | ⟨y, ey⟩
    · exact absurd y nn.2
    rw [ey, Option.bind_some, if_pos rfl]
    unfold f_M_next_p333 f_M_next_p337 f_M_next_p346
    have esub : nI x - nI q = nI (x - q) := pk_sub hq
    by_cases g0 : gd = 1
    · have same := hg1.mp g0
      subst g0
      rw [if_neg (show ¬ nI 1 = (0 : Int32) by decide)]
      rcases hl2 with ⟨a, rfl⟩ | ⟨a, rfl⟩
      · rw [if_pos (show ¬ (1 : Int32) = 0 by decide), if_neg (show ¬ (1 : Int32) = 0 by decide), wr51_6, Option.bind_some]
        exact ⟨_, _, 2, fun a b c d => up_n _ _ c, by rw [up_n _ _ (by decide), h4], up_s _ _ _, Or.inr ⟨same, Or.inl ⟨a, rfl⟩⟩, fun h => by rw [up_n _ _ (by decide)]; exact hv h, hw, rfl⟩
      · rw [if_neg (fun q => q rfl), rd51_4, Option.bind_some, h4, rd51_5, Option.bind_some, h5, esub]
        by_cases z : x ≤ q + 2
        · have q2 : nI (x - q) ≤ (2 : Int32) := nI_le (b := 2) (by omega) (by decide)
          rw [if_pos q2, if_pos rfl, wr51_6, Option.bind_some]
          exact ⟨_, _, 3, fun a b c d => up_n _ _ c, by rw [up_n _ _ (by decide), h4], up_s _ _ _, Or.inr ⟨same, Or.inr (Or.inl ⟨a, z, rfl⟩)⟩, fun h => by rw [up_n _ _ (by decide)]; exact hv h, hw, rfl⟩
        · have q2 : ¬ nI (x - q) ≤ (2 : Int32) := nI_ge (a := 2) (by omega) (by omega)
          rw [if_neg q2, wr51_6, Option.bind_some]
          exact ⟨_, _, 1, fun a b c d => up_n _ _ c, by rw [up_n _ _ (by decide), h4], up_s _ _ _, Or.inr ⟨same, Or.inr (Or.inr ⟨a, by omega, rfl⟩)⟩, fun h => by rw [up_n _ _ (by decide)]; exact hv h, hw, rfl⟩
    · have gz : gd = 0 := by omega
      subst gz
      rw [if_pos (show nI 0 = (0 : Int32) from rfl), wr51_6, Option.bind_some]
      exact ⟨_, _, 1, fun a b c d => up_n _ _ c, by rw [up_n _ _ (by decide), h4], up_s _ _ _, Or.inl ⟨fun h => g0 (hg1.mpr h), rfl⟩, fun h => by rw [up_n _ _ (by decide)]; exact hv h, hw, rfl⟩
  | succ d ih =>
    intro n x gd m wd hx hq hn h3 h4 h5 hg hg1 hv hw
    obtain ⟨n, rfl⟩ : ∃ m, n = m + 1 := ⟨n - 1, by omega⟩
    have xt : x < t := by omega
    obtain ⟨c1, -, c2⟩ := T x xt
    have al := e3 x hq (by omega)
    have split : ∀ P : Nat → Prop, (∀ j, q ≤ j → j < x + 1 → P (b j)) ↔ (∀ j, q ≤ j → j < x → P (b j)) ∧ P (b x) := by
      intro P
      constructor
      · intro h; exact ⟨fun j a c => h j a (by omega), h x hq (by omega)⟩
      · rintro ⟨h, h'⟩ j a c
        by_cases y : j = x
        · subst y; exact h'
        · exact h j a (by omega)
    have esub : nI x - nI q = nI (x - q) := pk_sub hq
    have e52 : am_ai (mk n1 n2 L xs g i A m B J wd o) 52 (nI x) = some (nI (b x)) := by
      rw [r_ai ar52 (by omega) (by decide), c2]
    -- the sign taken up
    have body : ∀ gd' : Nat, gd' ≤ 1 → (gd' = 1 ↔ ∀ j, q ≤ j → j < x + 1 → (isL (b j) ↔ isL (b q))) → ∃ (m' : Nat → Int32) (wd' : Int64) (σ : Nat), (∀ a, a ≠ 4 → a ≠ 6 → a ≠ 7 → m' a = m a) ∧ m' 4 = nI e ∧ m' 6 = nI σ ∧ ((¬ (∀ j, q ≤ j → j < e → (isL (b j) ↔ isL (b q))) ∧ σ = 1) ∨ ((∀ j, q ≤ j → j < e → (isL (b j) ↔ isL (b q))) ∧ ((isL (b q) ∧ σ = 2) ∨ (¬ isL (b q) ∧ e ≤ q + 2 ∧ σ = 3) ∨ (¬ isL (b q) ∧ q + 2 < e ∧ σ = 1)))) ∧ ((∀ j, q ≤ j → j < e → isD (b j)) → m' 7 = nI (vfn b q (min 2 (e - q)))) ∧ ((∀ j, q ≤ j → j < e → isL (b j)) → wd' = lN (hsh b q (min 5 (e - q)))) ∧
      f_M_next_p234 (f_M_next_p177 n) 51 l2 (nI (b x)) (nI gd') (mk n1 n2 L xs g i A m B J wd o) = some (mk n1 n2 L xs g i A m' B J wd' o, ()) := by
      intro gd' hg' hg1'
      obtain ⟨wd1, hwd1, ew⟩ : ∃ wd1 : Int64, ((∀ j, q ≤ j → j < x + 1 → isL (b j)) → wd1 = lN (hsh b q (min 5 (x + 1 - q)))) ∧ f_M_next_p234 (f_M_next_p177 n) 51 l2 (nI (b x)) (nI gd') (mk n1 n2 L xs g i A m B J wd o) = f_M_next_p268 (f_M_next_p177 n) 51 l2 (nI gd') (nI (b x)) (mk n1 n2 L xs g i A m B J wd1 o) := by
        unfold f_M_next_p234
        rw [rd51_4, Option.bind_some, h4, rd51_5, Option.bind_some, h5, esub]
        by_cases z : x - q < 5
        · have q5 : ¬ (5 : Int32) ≤ nI (x - q) := nI_ge (b := 5) z (by decide)
          rw [if_neg q5, rd51_10, Option.bind_some, wr51_10, Option.bind_some]
          refine ⟨_, fun hall => ?_, rfl⟩
          obtain ⟨a1, a2⟩ := (split isL).mp hall
          have c96 : 97 ≤ b x := a2.1
          rw [hw a1, nI_l (by omega), show (27 : Int64) = lN 27 from rfl, lN_mul, lN_add, show (96 : Int64) = lN 96 from rfl, lN_sub (by omega), show min 5 (x - q) = x - q by omega, show min 5 (x + 1 - q) = (x - q) + 1 by omega]
          show lN (27 * hsh b q (x - q) + b x - 96) = lN (27 * hsh b q (x - q) + (b (q + (x - q)) - 96))
          rw [show q + (x - q) = x by omega, show 27 * hsh b q (x - q) + b x - 96 = 27 * hsh b q (x - q) + (b x - 96) by omega]
        · have q5 : (5 : Int32) ≤ nI (x - q) := nI_le (a := 5) (by omega) (by omega)
          rw [if_pos q5]
          exact ⟨wd, fun hall => by rw [hw ((split isL).mp hall).1, show min 5 (x - q) = min 5 (x + 1 - q) by omega], rfl⟩
      obtain ⟨m1, k1, k2, em⟩ : ∃ m1 : Nat → Int32, (∀ a, a ≠ 7 → m1 a = m a) ∧ ((∀ j, q ≤ j → j < x + 1 → isD (b j)) → m1 7 = nI (vfn b q (min 2 (x + 1 - q)))) ∧ f_M_next_p268 (f_M_next_p177 n) 51 l2 (nI gd') (nI (b x)) (mk n1 n2 L xs g i A m B J wd1 o) = f_M_next_p298 (f_M_next_p177 n) 51 l2 (nI gd') (mk n1 n2 L xs g i A m1 B J wd1 o) := by
        unfold f_M_next_p268
        rw [rd51_4, Option.bind_some, h4, rd51_5, Option.bind_some, h5, esub]
        by_cases z : x - q < 2
        · have q2 : ¬ (2 : Int32) ≤ nI (x - q) := nI_ge (b := 2) z (by decide)
          rw [if_neg q2, rd51_7, Option.bind_some, wr51_7, Option.bind_some]
          refine ⟨_, fun a ha => up_n _ _ ha, fun hall => ?_, rfl⟩
          obtain ⟨a1, a2⟩ := (split isD).mp hall
          have d48 : 48 ≤ b x := a2.1
          rw [up_s, hv a1, show (10 : Int32) = nI 10 from rfl, pk_mul, nI_add, show (48 : Int32) = nI 48 from rfl, pk_sub (by omega), show min 2 (x - q) = x - q by omega, show min 2 (x + 1 - q) = (x - q) + 1 by omega]
          show nI (10 * vfn b q (x - q) + b x - 48) = nI (vfn b q (x - q) * 10 + (b (q + (x - q)) - 48))
          rw [show q + (x - q) = x by omega, show 10 * vfn b q (x - q) + b x - 48 = vfn b q (x - q) * 10 + (b x - 48) by omega]
        · have q2 : (2 : Int32) ≤ nI (x - q) := nI_le (a := 2) (by omega) (by omega)
          rw [if_pos q2]
          exact ⟨m, fun _ _ => rfl, fun hall => by rw [hv ((split isD).mp hall).1, show min 2 (x - q) = min 2 (x + 1 - q) by omega], rfl⟩
      rw [ew, em]
      unfold f_M_next_p298
      rw [rd51_4, Option.bind_some, k1 4 (by decide), h4, wr51_4, Option.bind_some, nI_1]
      obtain ⟨m', wd', σ, r1, r2, r3, r4, r5, r6, r7⟩ := ih n (x + 1) gd' (up m1 4 (nI (x + 1))) wd1 (by omega) (by omega) (by omega) (by rw [up_n _ _ (by decide), k1 3 (by decide), h3]) (up_s _ _ _) (by rw [up_n _ _ (by decide), k1 5 (by decide), h5]) hg' hg1' (fun h => by rw [up_n _ _ (by decide)]; exact k2 h) hwd1
      exact ⟨m', wd', σ, fun a b c d => by rw [r1 a b c d, up_n _ _ b, k1 a d], r2, r3, r4, r5, r6, r7⟩
    have p205 : ∃ (m' : Nat → Int32) (wd' : Int64) (σ : Nat), (∀ a, a ≠ 4 → a ≠ 6 → a ≠ 7 → m' a = m a) ∧ m' 4 = nI e ∧ m' 6 = nI σ ∧ ((¬ (∀ j, q ≤ j → j < e → (isL (b j) ↔ isL (b q))) ∧ σ = 1) ∨ ((∀ j, q ≤ j → j < e → (isL (b j) ↔ isL (b q))) ∧ ((isL (b q) ∧ σ = 2) ∨ (¬ isL (b q) ∧ e ≤ q + 2 ∧ σ = 3) ∨ (¬ isL (b q) ∧ q + 2 < e ∧ σ = 1)))) ∧ ((∀ j, q ≤ j → j < e → isD (b j)) → m' 7 = nI (vfn b q (min 2 (e - q)))) ∧ ((∀ j, q ≤ j → j < e → isL (b j)) → wd' = lN (hsh b q (min 5 (e - q)))) ∧
      f_M_next_p205 (f_M_next_p177 n) 51 l2 (nI gd) (mk n1 n2 L xs g i A m B J wd o) = some (mk n1 n2 L xs g i A m' B J wd' o, ()) := by
      unfold f_M_next_p205
      rw [rd51_1, Option.bind_some, rd51_4, Option.bind_some, h4, e52, Option.bind_some]
      have hsp := split (fun c => (isL c ↔ isL (b q)))
      by_cases g0 : gd = 0
      · subst g0
        rw [if_pos (show nI 0 = (0 : Int32) from rfl)]
        exact body 0 (by decide) ⟨fun h => by omega, fun h => absurd (hg1.mpr (hsp.mp h).1) (by decide)⟩
      · have g1 : gd = 1 := by omega
        subst g1
        rw [if_neg (show ¬ nI 1 = (0 : Int32) by decide)]
        have same := hg1.mp rfl
        rcases M_isLetter c1 (mk n1 n2 L xs g i A m B J wd o) with ⟨u, eu⟩ | ⟨u, eu⟩
        · rw [eu, Option.bind_some]
          rcases hl2 with ⟨a, rfl⟩ | ⟨a, rfl⟩
          · rw [if_neg (fun q => q rfl)]
            exact body 1 (by decide) ⟨fun _ => hsp.mpr ⟨same, ⟨fun _ => a, fun _ => u⟩⟩, fun _ => rfl⟩
          · rw [if_pos (show ¬ (1 : Int32) = 0 by decide)]
            exact body 0 (by decide) ⟨fun h => by omega, fun h => absurd ((hsp.mp h).2.mp u) a⟩
        · rw [eu, Option.bind_some]
          rcases hl2 with ⟨a, rfl⟩ | ⟨a, rfl⟩
          · rw [if_pos (show ¬ (0 : Int32) = 1 by decide)]
            exact body 0 (by decide) ⟨fun h => by omega, fun h => absurd ((hsp.mp h).2.mpr a) u⟩
          · rw [if_neg (fun q => q rfl)]
            exact body 1 (by decide) ⟨fun _ => hsp.mpr ⟨same, ⟨fun h => absurd h u, fun h => absurd h a⟩⟩, fun _ => rfl⟩
    rw [f_M_next_p177, rd51_4, Option.bind_some, h4, M_tapeAt ht T h3 (by omega), Option.bind_some, if_pos xt]
    rcases M_isLetter c1 (mk n1 n2 L xs g i A m B J wd o) with ⟨u, eu⟩ | ⟨u, eu⟩
    · rw [eu, Option.bind_some, if_pos (show ¬ (1 : Int32) = 0 by decide)]
      exact p205
    · rw [eu, Option.bind_some, if_neg (fun q => q rfl), rd51_4, Option.bind_some, h4, M_tapeAt ht T h3 (by omega), Option.bind_some, if_pos xt]
      rcases M_isDigit c1 (mk n1 n2 L xs g i A m B J wd o) with ⟨y, ey⟩ | ⟨y, ey⟩
      · rw [ey, Option.bind_some, if_neg (show ¬ (1 : Int32) = 0 by decide)]
        exact p205
      · rcases al with h | h
        · exact absurd h u
        · exact absurd h y
theorem mn_skip (ht : t ≤ 440) (T : tpp t b f' (B 52)) {q p : Nat} (q2 : q ≤ t) (q3 : ∀ j, p ≤ j → j < q → isB (b j)) (q4 : q < t → ¬ isB (b q)) : ∀ d n x m, x + d = q → p ≤ x → d < n → m 3 = nI t → m 4 = nI x → f_M_next_p0 n 51 (mk n1 n2 L xs g i A m B J wd o) = f_M_next_p52 51 (mk n1 n2 L xs g i A (up m 4 (nI q)) B J wd o) := by
  intro d
  induction d with
  | zero =>
    intro n x m hx hp hn h3 h4
    obtain ⟨n, rfl⟩ : ∃ m, n = m + 1 := ⟨n - 1, by omega⟩
    have ex : x = q := by omega
    subst ex
    rw [← h4, up_id, f_M_next_p0, rd51_4, Option.bind_some, h4, rd51_3, Option.bind_some, h3]
    rcases Nat.lt_or_ge x t with y | y
    · obtain ⟨c1, -, c2⟩ := T x y
      have nb := q4 y
      have e52 : am_ai (mk n1 n2 L xs g i A m B J wd o) 52 (nI x) = some (nI (b x)) := by rw [r_ai ar52 (by omega) (by decide), c2]
      rw [if_neg (nI_ge y (by omega)), rd51_1, Option.bind_some, Option.bind_some, e52, Option.bind_some, if_neg (show ¬ nI (b x) = (32 : Int32) from fun h => nb (Or.inl ((nI_is c1 (k := 32) (by decide)).mp h))), Option.bind_some, Option.bind_some, e52, Option.bind_some, if_pos (show ¬ nI (b x) = (10 : Int32) from fun h => nb (Or.inr ((nI_is c1 (k := 10) (by decide)).mp h)))]
    · rw [if_pos (nI_le y (by omega))]
  | succ d ih =>
    intro n x m hx hp hn h3 h4
    obtain ⟨n, rfl⟩ : ∃ m, n = m + 1 := ⟨n - 1, by omega⟩
    have y : x < t := by omega
    obtain ⟨c1, -, c2⟩ := T x y
    have bl := q3 x hp (by omega)
    have e52 : am_ai (mk n1 n2 L xs g i A m B J wd o) 52 (nI x) = some (nI (b x)) := by rw [r_ai ar52 (by omega) (by decide), c2]
    have go : f_M_next_p39 (f_M_next_p0 n) 51 (mk n1 n2 L xs g i A m B J wd o) = f_M_next_p52 51 (mk n1 n2 L xs g i A (up m 4 (nI q)) B J wd o) := by
      unfold f_M_next_p39
      rw [rd51_4, Option.bind_some, h4, wr51_4, Option.bind_some, nI_1, ih n (x + 1) (up m 4 (nI (x + 1))) (by omega) (by omega) (by omega) (by rw [up_n _ _ (by decide), h3]) (up_s _ _ _), up_up]
    rw [f_M_next_p0, rd51_4, Option.bind_some, h4, rd51_3, Option.bind_some, h3, if_neg (nI_ge y (by omega)), rd51_1, Option.bind_some, Option.bind_some, e52, Option.bind_some]
    by_cases z : b x = 32
    · rw [if_pos (show nI (b x) = (32 : Int32) by rw [z]; rfl)]
      exact go
    · have z10 : b x = 10 := by
        rcases bl with h | h
        · exact absurd h z
        · exact h
      rw [if_neg (show ¬ nI (b x) = (32 : Int32) from fun h => z ((nI_is c1 (k := 32) (by decide)).mp h)), Option.bind_some, Option.bind_some, e52, Option.bind_some, if_neg (show ¬ ¬ nI (b x) = (10 : Int32) by rw [z10]; exact fun q => q rfl)]
      exact go
/-- the model's token at hand -/
def mtk (b : Nat → Nat) (t : Nat) (m : Nat → Int32) (wd : Int64) (κ π ν val : Nat) : Prop := m 5 = nI π ∧ m 6 = nI (srt t κ) ∧ ((κ = 1 ∨ κ = 2 ∨ κ = 3) → m 4 = nI ν) ∧ (κ = 2 → m 7 = nI val) ∧ (κ = 1 → wd = lN (hsh b π (min 5 (ν - π))))
theorem M_next (ht : t ≤ 440) (T : tpp t b f' (B 52)) {p κ π ν val : Nat} (K : TK b t p κ π ν val) (hp : p ≤ t) (h3 : m 3 = nI t) (h4 : m 4 = nI p) : ∃ m' wd', f_M_next 51 (mk n1 n2 L xs g i A m B J wd o) = some (mk n1 n2 L xs g i A m' B J wd' o, ()) ∧ (∀ a, a ≠ 4 → a ≠ 5 → a ≠ 6 → a ≠ 7 → m' a = m a) ∧ mtk b t m' wd' κ π ν val := by
  obtain ⟨q, q1, q2, q3, q4, K⟩ := K
  unfold f_M_next e_M_next
  rw [sf51, mn_skip ht T q2 q3 q4 (q - p) am_N p m (by omega) (by omega) (by unfold am_N; omega) h3 h4]
  unfold f_M_next_p52
  rw [rd51_4, Option.bind_some, up_s, wr51_5, Option.bind_some, rd51_3, Option.bind_some, up_n _ _ (by decide), up_n _ _ (by decide), h3]
  have goEnd : t ≤ 400 ∨ q < 400 → ((if nI t ≤ (400 : Int32) then f_M_next_p93 51 (mk n1 n2 L xs g i A (up (up m 4 (nI q)) 5 (nI q)) B J wd o) else ((am_gi (mk n1 n2 L xs g i A (up (up m 4 (nI q)) 5 (nI q)) B J wd o) 51 7 5).bind fun v96 => (if v96 < 400 then (f_M_next_p93 51 (mk n1 n2 L xs g i A (up (up m 4 (nI q)) 5 (nI q)) B J wd o)) else ((am_pv (mk n1 n2 L xs g i A (up (up m 4 (nI q)) 5 (nI q)) B J wd o) 51 7 5 (.int 400)).bind fun w99 => ((am_pv w99 51 7 6 (.int 1)).bind fun w101 => (some (w101, ()))))))) = f_M_next_p93 51 (mk n1 n2 L xs g i A (up (up m 4 (nI q)) 5 (nI q)) B J wd o)) := by
    intro h
    by_cases z : t ≤ 400
    · have q' : nI t ≤ (400 : Int32) := nI_le (b := 400) z (by decide)
      rw [if_pos q']
    · have q' : ¬ nI t ≤ (400 : Int32) := nI_ge (a := 400) (by omega) (by omega)
      have q'' : nI q < (400 : Int32) := nI_lt (b := 400) (by omega) (by decide)
      rw [if_neg q', rd51_5, Option.bind_some, up_s, if_pos q'']
  rcases K with ⟨k1, k2, k3⟩ | ⟨k1, k2, k3, k4, k5⟩ | ⟨k1, k2, k3, e, e1, e2, e3, e4, K⟩
  · by_cases z : t ≤ 400
    · rw [goEnd (Or.inl z)]
      unfold f_M_next_p93
      have qt : q = t := by omega
      rw [rd51_4, Option.bind_some, rd51_3, Option.bind_some, up_n _ _ (by decide), up_s, up_n _ _ (by decide), up_n _ _ (by decide), h3, if_neg (nI_nlt (by omega) (by omega)), wr51_6, Option.bind_some]
      refine ⟨_, wd, rfl, fun a b c d e => by rw [up_n _ _ d, up_n _ _ c, up_n _ _ b], ?_, ?_, fun h => by omega, fun h => by omega, fun h => by omega⟩
      · rw [up_n _ _ (by decide), up_s, k3, qt, show min t 400 = t by omega]
      · rw [up_s, k2]
        unfold srt
        rw [if_pos rfl, if_pos z]
        rfl
    · have q' : ¬ nI t ≤ (400 : Int32) := nI_ge (a := 400) (by omega) (by omega)
      have q'' : ¬ nI q < (400 : Int32) := nI_nlt (b := 400) (by omega) (by omega)
      rw [if_neg q', rd51_5, Option.bind_some, up_s, if_neg q'', wr51_5, Option.bind_some, wr51_6, Option.bind_some]
      refine ⟨_, wd, rfl, fun a b c d e => by rw [up_n _ _ d, up_n _ _ c, up_n _ _ c, up_n _ _ b], ?_, ?_, fun h => by omega, fun h => by omega, fun h => by omega⟩
      · rw [up_n _ _ (by decide), up_s, k3, show min t 400 = 400 by omega]
        rfl
      · rw [up_s, k2]
        unfold srt
        rw [if_pos rfl, if_neg z]
        rfl
  · rw [goEnd (by omega)]
    unfold f_M_next_p93
    obtain ⟨c1, -, c2⟩ := T q (by omega)
    have e52 : am_ai (mk n1 n2 L xs g i A (up (up m 4 (nI q)) 5 (nI q)) B J wd o) 52 (nI q) = some (nI (b q)) := by rw [r_ai ar52 (by omega) (by decide), c2]
    rw [rd51_4, Option.bind_some, rd51_3, Option.bind_some, up_n _ _ (by decide), up_s, up_n _ _ (by decide), up_n _ _ (by decide), h3, if_pos (nI_lt (by omega) (by omega)), rd51_1, Option.bind_some, Option.bind_some, e52, Option.bind_some]
    rcases M_isLetter c1 (mk n1 n2 L xs g i A (up (up m 4 (nI q)) 5 (nI q)) B J wd o) with ⟨u, eu⟩ | ⟨u, eu⟩
    · unfold isL at u; omega
    rw [eu, Option.bind_some, if_neg (fun q => q rfl)]
    rcases M_isDigit c1 (mk n1 n2 L xs g i A (up (up m 4 (nI q)) 5 (nI q)) B J wd o) with ⟨u', eu'⟩ | ⟨u', eu'⟩
    · unfold isD at u'; omega
    rw [eu', Option.bind_some, if_neg (fun q => q rfl), if_neg (show ¬ ¬ nI (b q) = (59 : Int32) by rw [k3]; exact fun h => h rfl)]
    unfold f_M_next_p146
    rw [wr51_6, Option.bind_some, rd51_4, Option.bind_some, up_n _ _ (by decide), up_n _ _ (by decide), up_s, wr51_4, Option.bind_some, nI_1]
    refine ⟨_, wd, rfl, fun a b c d e => by rw [up_n _ _ b, up_n _ _ d, up_n _ _ c, up_n _ _ b], ?_, ?_, fun h => by rw [up_s, k5], fun h => by omega, fun h => by omega⟩
    · rw [up_n _ _ (by decide), up_n _ _ (by decide), up_s, k2]
    · rw [up_n _ _ (by decide), up_s, k4]
      rfl
  · rw [goEnd (by omega)]
    unfold f_M_next_p93
    obtain ⟨c1, -, c2⟩ := T q (by omega)
    have e52 : am_ai (mk n1 n2 L xs g i A (up (up m 4 (nI q)) 5 (nI q)) B J wd o) 52 (nI q) = some (nI (b q)) := by rw [r_ai ar52 (by omega) (by decide), c2]
    rw [rd51_4, Option.bind_some, rd51_3, Option.bind_some, up_n _ _ (by decide), up_s, up_n _ _ (by decide), up_n _ _ (by decide), h3, if_pos (nI_lt (by omega) (by omega)), rd51_1, Option.bind_some, Option.bind_some, e52, Option.bind_some]
    have run : ∀ l2 : Int32, ((isL (b q) ∧ l2 = 1) ∨ (¬ isL (b q) ∧ l2 = 0)) → q < e → ∃ m' wd', f_M_next_p177 am_N 51 l2 1 (mk n1 n2 L xs g i A (up (up (up m 4 (nI q)) 5 (nI q)) 7 0) B J 0 o) = some (mk n1 n2 L xs g i A m' B J wd' o, ()) ∧ (∀ a, a ≠ 4 → a ≠ 5 → a ≠ 6 → a ≠ 7 → m' a = m a) ∧ mtk b t m' wd' κ π ν val := by
      intro l2 hl2 hqe
      obtain ⟨m', wd', σ, r1, r2, r3, r4, r5, r6, r7⟩ := mr_loop (n1 := n1) (n2 := n2) (L := L) (xs := xs) (g := g) (i := i) (A := A) (J := J) (o := o) ht T l2 hl2 e2 e3 e4 (e - q) am_N q 1 (up (up (up m 4 (nI q)) 5 (nI q)) 7 0) 0 (by omega) (by omega) (by unfold am_N; omega) (by rw [up_n _ _ (by decide), up_n _ _ (by decide), up_n _ _ (by decide), h3]) (by rw [up_n _ _ (by decide), up_n _ _ (by decide), up_s]) (by rw [up_n _ _ (by decide), up_s]) (by omega) ⟨fun _ j h1 h2 => by omega, fun _ => rfl⟩ (fun _ => by rw [up_s, Nat.sub_self]; rfl) (fun _ => by rw [Nat.sub_self]; rfl)
      refine ⟨m', wd', r7, fun a b c d e => by rw [r1 a b d e, up_n _ _ e, up_n _ _ c, up_n _ _ b], by rw [r1 5 (by decide) (by decide) (by decide), up_n _ _ (by decide), up_s, k2], ?_, ?_, ?_, ?_⟩
      · rw [r3]
        congr 1
        rcases K with ⟨h1, h2, h3', h4'⟩ | ⟨h1, h2, h3', h4', h5', h6⟩ | ⟨h1, h2⟩
        · have lq := h4' q (by omega) hqe
          have same : ∀ j, q ≤ j → j < e → (isL (b j) ↔ isL (b q)) := fun j j1 j2 => ⟨fun _ => lq, fun _ => h4' j j1 j2⟩
          rw [h1]
          rcases r4 with ⟨a, -⟩ | ⟨-, ⟨-, a⟩ | ⟨a, -⟩ | ⟨a, -⟩⟩
          · exact absurd same a
          · rw [a]; rfl
          · exact absurd lq a
          · exact absurd lq a
        · have nlq : ¬ isL (b q) := dig_no_let (h5' q (by omega) hqe)
          have same : ∀ j, q ≤ j → j < e → (isL (b j) ↔ isL (b q)) := fun j j1 j2 => ⟨fun h => absurd h (dig_no_let (h5' j j1 j2)), fun h => absurd h nlq⟩
          rw [h1]
          rcases r4 with ⟨a, -⟩ | ⟨-, ⟨a, -⟩ | ⟨-, -, a⟩ | ⟨-, a, -⟩⟩
          · exact absurd same a
          · exact absurd a nlq
          · rw [a]; rfl
          · omega
        · rw [h1]
          have hs : srt t 4 = 1 := rfl
          rw [hs]
          rcases r4 with ⟨-, a⟩ | ⟨sm, ⟨lq, a⟩ | ⟨nlq, le, a⟩ | ⟨-, -, a⟩⟩
          · exact a
          · rcases h2 with h2 | ⟨h2, -⟩
            · omega
            · exact absurd (fun j j1 j2 => (sm j j1 j2).mpr lq) h2
          · rcases h2 with h2 | ⟨-, h2⟩
            · omega
            · refine absurd ⟨fun j j1 j2 => ?_, le⟩ h2
              rcases e3 j j1 j2 with y | y
              · exact absurd ((sm j j1 j2).mp y) nlq
              · exact y
          · exact a
      · intro hk
        rw [r2]
        congr 1
        rcases K with ⟨h1, h2, -⟩ | ⟨h1, h2, -⟩ | ⟨h1, -⟩
        · exact h2.symm
        · exact h2.symm
        · omega
      · intro hk
        rcases K with ⟨h1, -⟩ | ⟨h1, h2, h3', h4', h5', h6⟩ | ⟨h1, -⟩
        · omega
        · rw [r5 h5', h6, show min 2 (e - q) = e - q by omega]
        · omega
      · intro hk
        rcases K with ⟨h1, h2, h3', h4'⟩ | ⟨h1, -⟩ | ⟨h1, -⟩
        · rw [r6 h4', h2, k2]
        · omega
        · omega
    have start160 : ∀ l2 : Int32, ((isL (b q) ∧ l2 = 1) ∨ (¬ isL (b q) ∧ l2 = 0)) → f_M_isLetter (nI (b q)) (mk n1 n2 L xs g i A (up (up m 4 (nI q)) 5 (nI q)) B J wd o) = some (mk n1 n2 L xs g i A (up (up m 4 (nI q)) 5 (nI q)) B J wd o, l2) → f_M_next_p160 51 (nI (b q)) (mk n1 n2 L xs g i A (up (up m 4 (nI q)) 5 (nI q)) B J wd o) = f_M_next_p177 am_N 51 l2 1 (mk n1 n2 L xs g i A (up (up (up m 4 (nI q)) 5 (nI q)) 7 0) B J 0 o) := by
      intro l2 _ hl
      unfold f_M_next_p160
      rw [hl, Option.bind_some, wr51_10, Option.bind_some, wr51_7, Option.bind_some]
    have qe_of : (isL (b q) ∨ isD (b q)) → q < e := by
      intro h
      rcases Nat.lt_or_ge q e with y | y
      · exact y
      · have : e = q := by omega
        subst this
        exact absurd h (e4 (by omega))
    rcases M_isLetter c1 (mk n1 n2 L xs g i A (up (up m 4 (nI q)) 5 (nI q)) B J wd o) with ⟨u, eu⟩ | ⟨u, eu⟩
    · rw [eu, Option.bind_some, if_pos (show ¬ (1 : Int32) = 0 by decide), start160 1 (Or.inl ⟨u, rfl⟩) eu]
      exact run 1 (Or.inl ⟨u, rfl⟩) (qe_of (Or.inl u))
    · rw [eu, Option.bind_some, if_neg (fun q => q rfl)]
      rcases M_isDigit c1 (mk n1 n2 L xs g i A (up (up m 4 (nI q)) 5 (nI q)) B J wd o) with ⟨u', eu'⟩ | ⟨u', eu'⟩
      · rw [eu', Option.bind_some, if_pos (show ¬ (1 : Int32) = 0 by decide), start160 0 (Or.inr ⟨u, rfl⟩) eu]
        exact run 0 (Or.inr ⟨u, rfl⟩) (qe_of (Or.inr u'))
      · have eq : e = q := by
          rcases Nat.lt_or_ge q e with y | y
          · rcases e3 q (by omega) y with h | h
            · exact absurd h u
            · exact absurd h u'
          · omega
        have κ4 : κ = 4 := by
          rcases K with ⟨h1, h2, h3', -⟩ | ⟨h1, h2, h3', -⟩ | ⟨h1, -⟩
          · omega
          · omega
          · exact h1
        rw [eu', Option.bind_some, if_neg (fun q => q rfl), if_pos (show ¬ nI (b q) = (59 : Int32) from fun h => k3 ((nI_is c1 (k := 59) (by decide)).mp h))]
        unfold f_M_next_p146
        rw [wr51_6, Option.bind_some, rd51_4, Option.bind_some, wr51_4, Option.bind_some]
        refine ⟨_, wd, rfl, fun a b c d e => by rw [up_n _ _ b, up_n _ _ d, up_n _ _ c, up_n _ _ b], ?_, ?_, fun h => by omega, fun h => by omega, fun h => by omega⟩
        · rw [up_n _ _ (by decide), up_n _ _ (by decide), up_s, k2]
        · rw [up_n _ _ (by decide), up_s, κ4]
          rfl
end NXA
