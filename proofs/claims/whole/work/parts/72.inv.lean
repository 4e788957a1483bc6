/-! WHAT HOLDS BETWEEN TWO CALLS -/
def TI (i : Nat → Int32) (A : Nat → Nat → Int32) (m : Nat → Int32) (B : Nat → Nat → Int32) : Prop := ∃ (t : Nat) (b : Nat → Nat), t ≤ 440 ∧ i 73 = nI t ∧ m 2 = nI t ∧ ∀ j, j < t → b j < 256 ∧ A 10 j = nI (b j) ∧ B 52 j = nI (b j)
def II (g : Nat → GR) (A B : Nat → Nat → Int32) : Prop := ∀ k, k < 2 → (A 46 k = 0 ∧ B 60 k = 0) ∨ (A 46 k = 1 ∧ B 60 k = 1 ∧ ∃ h v s col, gokz h v s col ∧ cg g (47 + 2 * k) h v s col ∧ ∀ j, j < 67 → B 55 (67 * k + j) = enc h v s col j)
def KI (B : Nat → Nat → Int32) : Prop := ∀ a b, a < 8 → b < 6 → B 64 (7 * a + (b + 1)) = 0 ∨ B 64 (7 * a + (b + 1)) = am_oc (6 * a + b)
def INV (g : Nat → GR) (i : Nat → Int32) (A : Nat → Nat → Int32) (m : Nat → Int32) (B : Nat → Nat → Int32) : Prop := (∃ h v s col, gokz h v s col ∧ cg g 11 h v s col ∧ mN B 53 h v s col) ∧ i 71 = m 8 ∧ TI i A m B ∧ HI g i A m B ∧ II g A B ∧ SI g i ∧ KI B
/-- two calls that answer alike, and keep what holds -/
def pOk (F G : am_W → Option (am_W × Int32)) : Prop := ∀ (n1 n2 L : Nat) (xs : Nat → Int32) (g : Nat → GR) (i : Nat → Int32) (A : Nat → Nat → Int32) (m : Nat → Int32) (B : Nat → Nat → Int32) (J : Nat → Int64) (wd : Int64) (o : Nat → Int64), INV g i A m B →
  ∃ r g' i' A', F (mk n1 n2 L xs g i A m B J wd o) = some (mk n1 n2 L xs g' i' A' m B J wd o, r) ∧ ∃ m' B' J' wd', G (mk n1 n2 L xs g' i' A' m B J wd o) = some (mk n1 n2 L xs g' i' A' m' B' J' wd' o, r) ∧ INV g' i' A' m' B'
section IVA
variable {g g' : Nat → GR} {i i' : Nat → Int32} {A A' : Nat → Nat → Int32} {m m' : Nat → Int32} {B B' : Nat → Nat → Int32}
theorem TI_same (H : TI i A m B) (h1 : i' 73 = i 73) (h2 : A' 10 = A 10) (h3 : m' 2 = m 2) (h4 : B' 52 = B 52) : TI i' A' m' B' := by
  obtain ⟨t, b, ht, e1, e2, e3⟩ := H
  exact ⟨t, b, ht, by rw [h1, e1], by rw [h3, e2], fun j hj => by rw [h2, h4]; exact e3 j hj⟩
theorem II_same (H : II g A B) (h1 : A' 46 = A 46) (h2 : B' 60 = B 60) (h3 : B' 55 = B 55) (h4 : ∀ k, k < 2 → g' (47 + 2 * k) = g (47 + 2 * k)) : II g' A' B' := by
  intro k hk
  rcases H k hk with ⟨a, b⟩ | ⟨a, b, h, v, s, col, O, C, E⟩
  · exact Or.inl ⟨by rw [h1, a], by rw [h2, b]⟩
  · refine Or.inr ⟨by rw [h1, a], by rw [h2, b], h, v, s, col, O, ?_, fun j hj => by rw [h3]; exact E j hj⟩
    unfold cg
    rw [h4 k hk]
    exact C
theorem SI_same (H : SI g i) (h1 : g' 19 = g 19) (h2 : g' 21 = g 21) (h3 : i' 148 = i 148) (h4 : i' 149 = i 149) : SI g' i' := by
  obtain ⟨h, v, s, col, O, C, E⟩ := H
  refine ⟨h, v, s, col, O, ?_, fun h0 => ?_⟩
  · unfold cg
    rw [h1]
    exact C
  · obtain ⟨t1, t2, t3, t4⟩ := E h0
    refine ⟨by rw [h3, t1], by rw [h4, t2], t3, fun y => ⟨?_, (t4 y).2⟩⟩
    unfold cg
    rw [h2]
    exact (t4 y).1
theorem KI_same (H : KI B) (h : B' 64 = B 64) : KI B' := by
  intro a b ha hb
  rw [h]
  exact H a b ha hb
theorem keep_r (m : Nat → Int32) (B : Nat → Nat → Int32) : keep m B m B := ⟨rfl, rfl, rfl, rfl, rfl, rfl, rfl, rfl, rfl⟩
theorem keep0 (m : Nat → Int32) (B : Nat → Nat → Int32) (x : Int32) : keep m B (up m 0 x) B := ⟨rfl, rfl, rfl, rfl, rfl, rfl, rfl, rfl, rfl⟩
theorem keep_t {m m' m'' : Nat → Int32} {B B' B'' : Nat → Nat → Int32} (h : keep m B m' B') (k : keep m' B' m'' B'') : keep m B m'' B'' := by
  obtain ⟨a1, a2, a3, a4, a5, a6, a7, a8, a9⟩ := h
  obtain ⟨b1, b2, b3, b4, b5, b6, b7, b8, b9⟩ := k
  exact ⟨by rw [b1, a1], by rw [b2, a2], by rw [b3, a3], by rw [b4, a4], by rw [b5, a5], by rw [b6, a6], by rw [b7, a7], by rw [b8, a8], by rw [b9, a9]⟩
theorem keep_mN {h v s : Nat} {col : Nat → Nat} (K : keep m B m' B') (M : mN B 53 h v s col) : mN B' 53 h v s col := fun j hj => by rw [K.2.2.2.2.1]; exact M j hj
theorem INV_keep (H : INV g i A m B) (K : keep m B m' B') : INV g i A m' B' := by
  obtain ⟨⟨h, v, s, col, O, C, M⟩, e8, T, Hh, I, S, K'⟩ := H
  obtain ⟨k1, k2, k3, k4, k5, k6, k7, k8, k9⟩ := id K
  exact ⟨⟨h, v, s, col, O, C, keep_mN K M⟩, by rw [k2, e8], TI_same T rfl rfl k1 k4, HI_same Hh rfl rfl k3 rfl k7 (fun _ _ => rfl), II_same I rfl k8 k6 (fun _ _ => rfl), S, KI_same K' k9⟩
theorem INV_seek (H : INV g i A m B) (hg : ∀ a, a ≠ 19 → a ≠ 21 → g' a = g a) (hi : ∀ a, a ≠ 147 → a ≠ 148 → a ≠ 149 → i' a = i a) (hA : ∀ a, a ≠ 23 → A' a = A a) (S : SI g' i') : INV g' i' A' m B := by
  obtain ⟨⟨h, v, s, col, O, C, M⟩, e8, T, Hh, I, -, K'⟩ := H
  refine ⟨⟨h, v, s, col, O, ?_, M⟩, by rw [hi 71 (by decide) (by decide) (by decide), e8], TI_same T (hi 73 (by decide) (by decide) (by decide)) (hA 10 (by decide)) rfl rfl, HI_same Hh (hi 193 (by decide) (by decide) (by decide)) (hi 194 (by decide) (by decide) (by decide)) rfl (hA 27 (by decide)) rfl (fun l _ => hg _ (by omega) (by omega)), II_same I (hA 46 (by decide)) rfl rfl (fun k _ => hg _ (by omega) (by omega)), S, K'⟩
  unfold cg
  rw [hg 11 (by decide) (by decide)]
  exact C
theorem INV_act (H : INV g i A m B) {m9 : Int32} {f9 : Nat → Int32} (a1 : ∀ a, a < 28 ∨ 44 ≤ a → g' a = g a) (a2 : ∀ a, a ≠ 193 → a ≠ 194 → i' a = i a) (a3 : ∀ a, a ≠ 27 → A' a = A a) (a4 : ∀ g'' i'' A'' m'' B'', (∀ l, l < 8 → g'' (28 + 2 * l) = g' (28 + 2 * l)) → i'' 193 = i' 193 → i'' 194 = i' 194 → A'' 27 = A' 27 → m'' 19 = m9 → B'' 56 = f9 → HI g'' i'' A'' m'' B'') {g'' : Nat → GR} {m'' : Nat → Int32} {B'' : Nat → Nat → Int32} (hg : ∀ a, a ≠ 11 → a ≠ 13 → g'' a = g' a) (m2 : m'' 2 = m 2) (m8 : m'' 8 = m 8) (m19 : m'' 19 = m9) (b52 : B'' 52 = B 52) (b55 : B'' 55 = B 55) (b56 : B'' 56 = f9) (b60 : B'' 60 = B 60) (b64 : B'' 64 = B 64) {h v s : Nat} {col : Nat → Nat} (O : gokz h v s col) (C : cg g'' 11 h v s col) (M : mN B'' 53 h v s col) : INV g'' i' A' m'' B'' := by
  obtain ⟨-, e8, T, Hh, I, S, K'⟩ := H
  exact ⟨⟨h, v, s, col, O, C, M⟩, by rw [a2 71 (by decide) (by decide), m8, e8], TI_same T (a2 73 (by decide) (by decide)) (a3 10 (by decide)) m2 b52, a4 g'' i' A' m'' B'' (fun l _ => hg _ (by omega) (by omega)) rfl rfl rfl m19 b56, II_same I (a3 46 (by decide)) b60 b55 (fun k _ => by rw [hg _ (by omega) (by omega), a1 _ (by omega)]), SI_same S (by rw [hg 19 (by decide) (by decide), a1 19 (by decide)]) (by rw [hg 21 (by decide) (by decide), a1 21 (by decide)]) (a2 148 (by decide) (by decide)) (a2 149 (by decide) (by decide)), KI_same K' b64⟩
theorem q2p {F G : am_W → Option (am_W × Int32)} (q : ∀ (n1 n2 L : Nat) (xs : Nat → Int32) (g : Nat → GR) (i : Nat → Int32) (A : Nat → Nat → Int32) (m : Nat → Int32) (B : Nat → Nat → Int32) (J : Nat → Int64) (wd : Int64) (o : Nat → Int64), INV g i A m B →
  ∃ r, F (mk n1 n2 L xs g i A m B J wd o) = some (mk n1 n2 L xs g i A m B J wd o, r) ∧ ∃ m' B' J', G (mk n1 n2 L xs g i A m B J wd o) = some (mk n1 n2 L xs g i A m' B' J' wd o, r) ∧ keep m B m' B') : pOk F G := by
  intro n1 n2 L xs g i A m B J wd o H
  obtain ⟨r, e1, m', B', J', e2, K⟩ := q n1 n2 L xs g i A m B J wd o H
  exact ⟨r, g, i, A, e1, m', B', J', wd, e2, INV_keep H K⟩
end IVA
theorem p_at (x : Int32) : pOk (f_C_at 8 x) (f_M_at 51 x) := q2p (fun n1 n2 L xs g i A m B J wd o H => by
  obtain ⟨⟨h, v, s, col, O, C, M⟩, -⟩ := H
  obtain ⟨r, e1, e2⟩ := q_at (n1 := n1) (n2 := n2) (L := L) (xs := xs) (i := i) (A := A) (m := m) (J := J) (wd := wd) (o := o) C M O.1 x
  exact ⟨r, e1, _, _, _, e2, keep0 m B 0⟩)
theorem p_through (x : Int32) : pOk (f_C_through 8 x) (f_M_through 51 x) := q2p (fun n1 n2 L xs g i A m B J wd o H => by
  obtain ⟨⟨h, v, s, col, O, C, M⟩, -⟩ := H
  obtain ⟨r, e1, e2⟩ := q_through (n1 := n1) (n2 := n2) (L := L) (xs := xs) (i := i) (A := A) (m := m) (J := J) (wd := wd) (o := o) C M O.1 x
  exact ⟨r, e1, _, _, _, e2, keep0 m B 0⟩)
theorem p_rectangles (x : Int32) : pOk (f_C_rectangles 8 x) (f_M_rectangles 51 x) := q2p (fun n1 n2 L xs g i A m B J wd o H => by
  obtain ⟨⟨h, v, s, col, O, C, M⟩, -⟩ := H
  exact q_rectangles C M O.1 x)
theorem p_rectangle (x y : Int32) : pOk (f_C_rectangle 8 x y) (f_M_rectangle 51 x y) := q2p (fun n1 n2 L xs g i A m B J wd o H => by
  obtain ⟨⟨h, v, s, col, O, C, M⟩, -⟩ := H
  exact q_rectangle C M O.1 x y)
theorem p_worst : pOk (f_C_worst 8) (f_M_worst 51) := q2p (fun n1 n2 L xs g i A m B J wd o H => by
  obtain ⟨⟨h, v, s, col, O, C, M⟩, -⟩ := H
  exact q_worst C M O.1)
theorem p_now (x : Int32) : pOk (f_C_now 8 x) (f_M_now 51 x) := q2p (fun n1 n2 L xs g i A m B J wd o H => by
  obtain ⟨⟨h, v, s, col, O, C, M⟩, -, ⟨t, b, -, t1, t2, -⟩, ⟨n, lat, -, -, -, n1, n2, -⟩, -⟩ := H
  exact q_now C M O.1 (by rw [n1, n2]) (by rw [t1, t2]) x)
theorem p_fault : pOk (f_C_fault 8) (f_M_fault 51) := q2p (fun n1 n2 L xs g i A m B J wd o H => by
  obtain ⟨-, e8, -⟩ := H
  refine ⟨m 8, ?_, up m 0 0, B, J, ?_, keep0 m B 0⟩
  · unfold f_C_fault e_C_fault
    rw [sf8, rd8_7, Option.bind_some, e8]
  · unfold f_M_fault e_M_fault
    rw [sf51, wr51_0, Option.bind_some, rd51_8, Option.bind_some]
    rfl)
/-! which colours a cell may have -/
def mayS (F : Nat → Nat) : Nat → Nat → Int32 → Int32
  | 0, _, x => x
  | d + 1, c, x => mayS F d (c + 1) (if F c = 0 then x ||| (1 <<< ((nI c - 1) &&& 31)) else x)
section MYA
variable {n1 n2 L : Nat} {xs : Nat → Int32} {g : Nat → GR} {i : Nat → Int32} {A : Nat → Nat → Int32} {m : Nat → Int32} {B : Nat → Nat → Int32} {J : Nat → Int64} {wd : Int64} {o : Nat → Int64} {h v s : Nat} {col : Nat → Nat}
theorem cmay_loop (C : cg g 11 h v s col) (O : gok h v s col) {k : Nat} (hk : k < h * v) : ∀ d n c x, c + d = s + 1 → 1 ≤ c → d < n → f_C_may_p17 n 8 (nI k) x (nI c) (mk n1 n2 L xs g i A m B J wd o) = some (mk n1 n2 L xs g i A m B J wd o, mayS (cth h v col k) d c x) := by
  have h4 := O.2.2.1
  intro d
  induction d with
  | zero =>
    intro n c x hc h1 hn
    obtain ⟨n, rfl⟩ : ∃ m, n = m + 1 := ⟨n - 1, by omega⟩
    rw [f_C_may_p17, rd8_1, Option.bind_some, G_shades C.g11, Option.bind_some, if_pos (nI_lt (by omega) (by omega)), mayS]
  | succ d ih =>
    intro n c x hc h1 hn
    obtain ⟨n, rfl⟩ : ∃ m, n = m + 1 := ⟨n - 1, by omega⟩
    have hct := cth_le h v col k c O.1 O.2.1
    rw [f_C_may_p17, rd8_1, Option.bind_some, G_shades C.g11, Option.bind_some, if_neg (nI_nlt (by omega) (by omega)), rd8_1, Option.bind_some, G_countThrough C.g11 C.2.2.2 O hk (by omega), Option.bind_some, mayS]
    unfold f_C_may_p48
    rw [nI_1]
    by_cases z : cth h v col k c = 0
    · rw [if_pos z, z, if_neg (show ¬ ¬ nI 0 = (0 : Int32) from fun y => y rfl)]
      exact ih n (c + 1) _ (by omega) (by omega) (by omega)
    · rw [if_neg z, if_pos (nI_ne0 (by omega) (by omega))]
      exact ih n (c + 1) _ (by omega) (by omega) (by omega)
theorem mmay_loop (M : mN B 53 h v s col) (O : gok h v s col) {k : Nat} (hk : k < h * v) : ∀ d n c x c0 f, c + d = s + 1 → 1 ≤ c → d < n → (∀ j, j < 67 → f j = enc h v s (updN col k c0) j) → ∃ f', f_M_may_p32 n 51 (nI k) x (nI c) (mk n1 n2 L xs g i A m (up B 59 f) J wd o) = some (mk n1 n2 L xs g i A m (up B 59 f') J wd o, mayS (cth h v col k) d c x) := by
  have h4 := O.2.2.1
  have h64 := O.hv
  intro d
  induction d with
  | zero =>
    intro n c x c0 f hc h1 hn hf
    obtain ⟨n, rfl⟩ : ∃ m, n = m + 1 := ⟨n - 1, by omega⟩
    have e2 : am_ai (mk n1 n2 L xs g i A m (up B 59 f) J wd o) 53 2 = some (nI s) := ((M.up (by decide) f).gr (n1 := n1) (n2 := n2) (L := L) (xs := xs) (g := g) (i := i) (A := A) (m := m) (J := J) (wd := wd) (o := o)).sh
    exact ⟨f, by rw [f_M_may_p32, rd51_11, Option.bind_some, e2, Option.bind_some, if_pos (nI_lt (by omega) (by omega)), mayS]⟩
  | succ d ih =>
    intro n c x c0 f hc h1 hn hf
    obtain ⟨n, rfl⟩ : ∃ m, n = m + 1 := ⟨n - 1, by omega⟩
    have hct := cth_le h v col k c O.1 O.2.1
    have e2 : am_ai (mk n1 n2 L xs g i A m (up B 59 f) J wd o) 53 2 = some (nI s) := ((M.up (by decide) f).gr (n1 := n1) (n2 := n2) (L := L) (xs := xs) (g := g) (i := i) (A := A) (m := m) (J := J) (wd := wd) (o := o)).sh
    have hf2 : ∀ j, j < 67 → upd f (k + 3) (nI c) j = enc h v s (updN col k c) j := by
      have := enc_upd h v s _ k c hf
      rw [updN_updN] at this
      exact this
    have H : mN (up B 59 (upd f (k + 3) (nI c))) 59 h v s (updN col k c) := fun j hj => by rw [up_s]; exact hf2 j hj
    have O2 : gok h v s (updN col k c) := updN_ok O k (by omega)
    rw [f_M_may_p32, rd51_11, Option.bind_some, e2, Option.bind_some, if_neg (nI_nlt (by omega) (by omega)), rd51_17, Option.bind_some, three, w_si ar59 (by omega) (by decide) (by decide), Option.bind_some, st59, up_s, up_up, rd51_17, Option.bind_some, M_through1 H.gt O2 hk, Option.bind_some, updN_s, cth_upd hk, mayS]
    unfold f_M_may_p70
    rw [nI_1]
    by_cases z : cth h v col k c = 0
    · rw [if_pos z, z, if_neg (show ¬ ¬ nI 0 = (0 : Int32) from fun y => y rfl)]
      exact ih n (c + 1) _ c _ (by omega) (by omega) (by omega) hf2
    · rw [if_neg z, if_pos (nI_ne0 (by omega) (by omega))]
      exact ih n (c + 1) _ c _ (by omega) (by omega) (by omega) hf2
theorem q_may (C : cg g 11 h v s col) (M : mN B 53 h v s col) (O : gok h v s col) (x : Int32) : ∃ r, f_C_may 8 x (mk n1 n2 L xs g i A m B J wd o) = some (mk n1 n2 L xs g i A m B J wd o, r) ∧ ∃ m' B' J', f_M_may 51 x (mk n1 n2 L xs g i A m B J wd o) = some (mk n1 n2 L xs g i A m' B' J' wd o, r) ∧ keep m B m' B' := by
  have h64 := O.hv
  have h4 := O.2.2.1
  unfold f_C_may e_C_may f_M_may e_M_may
  rw [sf8, rd8_1, Option.bind_some, sf51, wr51_0, Option.bind_some]
  have hcase : (x < 0 ∨ nI (h * v) ≤ x) ∨ ∃ k, k < h * v ∧ x = nI k := by
    rcases pk_ix x (n := h * v) (by omega) with q | q | ⟨k, hk, rfl⟩
    · exact Or.inl (Or.inl q)
    · exact Or.inl (Or.inr q)
    · exact Or.inr ⟨k, hk, rfl⟩
  rcases hcase with q | ⟨k, hk, rfl⟩
  · refine ⟨-1, by rw [G_hasCell_f C.g11 q]; rfl, up m 0 0, B, J, ?_, keep0 m B 0⟩
    rw [M_isCell_f M O q]
    rfl
  · have ez : (fun k => B 53 (0 + k)) = B 53 := funext (fun k => by rw [Nat.zero_add])
    have hf : ∀ j, j < 67 → fb_put (B 59) (B 53) 0 67 j = enc h v s (updN col k (col k)) j := fun j hj => by rw [fb_put_in (by omega) (by omega), updN_id]; exact M j hj
    obtain ⟨f', e'⟩ := mmay_loop (n1 := n1) (n2 := n2) (L := L) (xs := xs) (g := g) (i := i) (A := A) (m := up m 0 0) (J := J) (wd := wd) (o := o) M O hk s am_N 1 0 (col k) (fb_put (B 59) (B 53) 0 67) (by omega) (by omega) (by unfold am_N; omega) hf
    refine ⟨mayS (cth h v col k) s 1 0, ?_, up m 0 0, up B 59 f', J, ?_, ⟨rfl, rfl, rfl, rfl, rfl, rfl, rfl, rfl, rfl⟩⟩
    · rw [G_hasCell_t C.g11 O hk, Option.bind_some, if_pos (show ¬ (1 : Int32) = 0 by decide)]
      exact cmay_loop C O hk s am_N 1 0 (by omega) (by omega) (by unfold am_N; omega)
    · have ecp : f_M_copy 53 0 59 0 (mk n1 n2 L xs g i A (up m 0 0) B J wd o) = some (mk n1 n2 L xs g i A (up m 0 0) (up B 59 (fb_put (B 59) (B 53) 0 67)) J wd o, ()) := by
        have := M_copy (w := mk n1 n2 L xs g i A (up m 0 0) B J wd o) (o1 := 0) (o2 := 0) ar53 ar59 (by decide) (by decide) (by decide) (by decide) (by decide) (by decide)
        rw [st59, ez] at this
        exact this
      rw [M_isCell_t M O hk, Option.bind_some, if_pos (show ¬ (1 : Int32) = 0 by decide), rd51_11, Option.bind_some, rd51_17, Option.bind_some, ecp, Option.bind_some]
      exact e'
end MYA
theorem p_may (x : Int32) : pOk (f_C_may 8 x) (f_M_may 51 x) := q2p (fun n1 n2 L xs g i A m B J wd o H => by
  obtain ⟨⟨h, v, s, col, O, C, M⟩, -⟩ := H
  exact q_may C M O.1 x)
