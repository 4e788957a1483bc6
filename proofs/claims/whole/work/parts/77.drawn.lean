/-! DRAWN DEEDS -/
def u3N (x : Int32) : Nat := x.toBitVec.toNat
theorem u3_lt (x : Int32) : u3N x < 2 ^ 32 := x.toBitVec.isLt
theorem u3_eq (x : Int32) : nI (u3N x) = x := by
  apply Int32.toBitVec_inj.mp
  apply BitVec.eq_of_toNat_eq
  show (BitVec.ofNat 32 x.toBitVec.toNat).toNat = x.toBitVec.toNat
  rw [BitVec.toNat_ofNat, Nat.mod_eq_of_lt x.toBitVec.isLt]
def nst (x : Int32) : Int32 := x * 1103515245 + 12345
def dr (x : Int32) (n : Nat) : Nat := u3N x / 256 % n
theorem dr_lt (x : Int32) {n : Nat} (h : 0 < n) : dr x n < n := Nat.mod_lt _ h
theorem dr_eq (x : Int32) {n : Nat} (h : 0 < n) (hn : n < 2 ^ 31) : am_iu x 8 - am_iu x 8 / nI n * nI n = nI (dr x n) := by
  have hx := u3_lt x
  have e : am_iu x 8 = nI (u3N x / 256) := by
    have := am_iu_eq (n := u3N x) (k := 8) hx (by decide)
    rw [u3_eq] at this
    exact this
  rw [e, pk_rem (by omega) h hn]
  rfl
def drun (h v s : Nat) : Nat → Int32 → Nat → (Nat → Nat) → Nat × (Nat → Nat)
  | 0, _, c, col => (c, col)
  | d + 1, x, c, col => if col (dr (nst x) (h * v)) = dr (nst (nst x)) (s + 1) ∨ cth h v col (dr (nst x) (h * v)) (dr (nst (nst x)) (s + 1)) ≠ 0 then drun h v s d (nst (nst x)) c col else drun h v s d (nst (nst x)) (c + 1) (updN col (dr (nst x) (h * v)) (dr (nst (nst x)) (s + 1)))
theorem drun_le (h v s : Nat) : ∀ d x c col, c ≤ (drun h v s d x c col).1 ∧ (drun h v s d x c col).1 ≤ c + d := by
  intro d
  induction d with
  | zero => intro x c col; exact ⟨Nat.le_refl _, Nat.le_refl _⟩
  | succ d ih =>
    intro x c col
    rw [drun]
    split
    · have := ih (nst (nst x)) c col; omega
    · have := ih (nst (nst x)) (c + 1) (updN col (dr (nst x) (h * v)) (dr (nst (nst x)) (s + 1))); omega
theorem drun_z (h v s : Nat) (hp : 0 < h * v) : ∀ d x c col, gokz h v s col → gokz h v s (drun h v s d x c col).2 := by
  intro d
  induction d with
  | zero => intro x c col O; exact O
  | succ d ih =>
    intro x c col O
    rw [drun]
    split
    · exact ih _ _ _ O
    · have := dr_lt (nst (nst x)) (show 0 < s + 1 by omega)
      exact ih _ _ _ (gokz_upd O (dr_lt _ hp) (by omega))
section DWA
variable {n1 n2 L : Nat} {xs : Nat → Int32} {g : Nat → GR} {i : Nat → Int32} {A : Nat → Nat → Int32} {m : Nat → Int32} {B : Nat → Nat → Int32} {J : Nat → Int64} {wd : Int64} {o : Nat → Int64} {h v s : Nat} {col : Nat → Nat}
theorem cg13 {f' : Nat → Int64} (F : fs f' h v col) : cg (up g 13 (h, v, s, f')) 13 h v s col := by unfold cg; rw [up_s]; exact ⟨rfl, rfl, rfl, F⟩
theorem C_drawOf (x : Int32) {n : Nat} (h : 0 < n) (hn : n < 2 ^ 31) (w : am_W) : f_C_drawOf x (nI n) w = some (w, nI (dr x n)) := by
  unfold f_C_drawOf e_C_drawOf f_C_drawOf_p14
  have q8 : ¬ nI n ≤ (0 : Int32) := by
    rw [fa_le, nI_toInt hn]
    have : (0 : Int32).toInt = 0 := rfl
    omega
  rw [if_neg q8, if_neg (nI_ne0 h hn), dr_eq x h hn]
theorem cdr_loop (hp : 0 < h * v) {N : Nat} (hN : N ≤ 60) : ∀ d n j x c g col, j + d = N → d < n → gok h v s col → cg g 13 h v s col → ∃ f', fs f' h v (drun h v s d x c col).2 ∧ f_C_drawOn_p17 n 13 (nI N) (nI c) x (nI j) (mk n1 n2 L xs g i A m B J wd o) = some (mk n1 n2 L xs (up g 13 (h, v, s, f')) i A m B J wd o, nI (drun h v s d x c col).1) := by
  intro d
  induction d with
  | zero =>
    intro n j x c g col hj hn O C
    obtain ⟨n, rfl⟩ : ∃ m, n = m + 1 := ⟨n - 1, by omega⟩
    refine ⟨(g 13).2.2.2, C.2.2.2, ?_⟩
    rw [f_C_drawOn_p17, if_pos (nI_le (by omega) (by omega))]
    obtain ⟨rfl, rfl, rfl, -⟩ := C
    rw [up_id]
    rfl
  | succ d ih =>
    intro n j x c g col hj hn O C
    obtain ⟨n, rfl⟩ : ∃ m, n = m + 1 := ⟨n - 1, by omega⟩
    have h64 := O.hv
    have h4 := O.2.2.1
    have hk := dr_lt (nst x) hp
    have hy := dr_lt (nst (nst x)) (show 0 < s + 1 by omega)
    have ho := O.2.2.2.2.2 _ hk
    have hct := cth_le h v col (dr (nst x) (h * v)) (dr (nst (nst x)) (s + 1)) O.1 O.2.1
    have en : ∀ (y : Int32) (w : am_W), f_C_nextState y w = some (w, nst y) := fun y w => rfl
    rw [f_C_drawOn_p17, if_neg (nI_ge (by omega) (by omega)), en, Option.bind_some, G_size C.g13, Option.bind_some, C_drawOf _ hp (by omega), Option.bind_some, en, Option.bind_some, G_shades C.g13, Option.bind_some, nI_1, C_drawOf _ (show 0 < s + 1 by omega) (by omega), Option.bind_some, G_colourOf C.g13 C.2.2.2 O hk, Option.bind_some, drun]
    unfold f_C_drawOn_p94
    rw [nI_1]
    simp only []
    by_cases z : col (dr (nst x) (h * v)) = dr (nst (nst x)) (s + 1)
    · rw [if_pos (Or.inl z), if_pos (by rw [z])]
      exact ih n (j + 1) _ _ g col (by omega) (by omega) O C
    · rw [if_neg (show ¬ nI (col (dr (nst x) (h * v))) = nI (dr (nst (nst x)) (s + 1)) by rw [nI_eq (by omega) (by omega)]; exact z), G_countThrough C.g13 C.2.2.2 O hk (by omega), Option.bind_some]
      by_cases y : cth h v col (dr (nst x) (h * v)) (dr (nst (nst x)) (s + 1)) = 0
      · rw [if_neg (show ¬ (col (dr (nst x) (h * v)) = dr (nst (nst x)) (s + 1) ∨ cth h v col (dr (nst x) (h * v)) (dr (nst (nst x)) (s + 1)) ≠ 0) by rintro (q | q); exact z q; exact q y), if_neg (by rw [y]; exact fun q => q rfl)]
        obtain ⟨f', e, F⟩ := G_put (C.g13 (n1 := n1) (n2 := n2) (L := L) (xs := xs) (i := i) (A := A) (m := m) (B := B) (J := J) (wd := wd) (o := o)) C.2.2.2 O hk (show dr (nst (nst x)) (s + 1) ≤ s by omega)
        rw [e, Option.bind_some, gp13, nI_1]
        obtain ⟨f2, F2, e2⟩ := ih n (j + 1) (nst (nst x)) (c + 1) (up g 13 (h, v, s, f')) _ (by omega) (by omega) (updN_ok O _ (by omega)) (cg13 F)
        rw [up_up] at e2
        exact ⟨f2, F2, e2⟩
      · rw [if_pos (Or.inr y), if_pos (nI_ne0 (by omega) (by omega))]
        exact ih n (j + 1) _ _ g col (by omega) (by omega) O C
theorem M_draw (x : Int32) (hx : m 33 = x) {n : Nat} (h : 0 < n) (hn : n < 2 ^ 31) : f_M_draw 51 (nI n) (mk n1 n2 L xs g i A m B J wd o) = some (mk n1 n2 L xs g i A (up m 33 (nst x)) B J wd o, nI (dr (nst x) n)) := by
  unfold f_M_draw e_M_draw
  rw [sf51, rd51_33, Option.bind_some, hx, wr51_33, Option.bind_some, rd51_33, Option.bind_some, up_s, if_neg (nI_ne0 h hn)]
  show some (_, am_iu (nst x) 8 - am_iu (nst x) 8 / nI n * nI n) = _
  rw [dr_eq _ h hn]
  rfl
theorem M_does (x : Int32) (hx : m 33 = x) {f : Nat → Int32} (hf : ∀ j, j < 67 → f j = enc h v s col j) (O : gok h v s col) (hp : 0 < h * v) : ∃ f', (∀ j, 67 ≤ j → f' j = f j) ∧
    (∀ j, j < 67 → f' j = enc h v s (if col (dr (nst x) (h * v)) = dr (nst (nst x)) (s + 1) ∨ cth h v col (dr (nst x) (h * v)) (dr (nst (nst x)) (s + 1)) ≠ 0 then col else updN col (dr (nst x) (h * v)) (dr (nst (nst x)) (s + 1))) j) ∧
    f_M_does 51 (mk n1 n2 L xs g i A m (up B 53 f) J wd o) = some (mk n1 n2 L xs g i A (up m 33 (nst (nst x))) (up B 53 f') J wd o, if col (dr (nst x) (h * v)) = dr (nst (nst x)) (s + 1) ∨ cth h v col (dr (nst x) (h * v)) (dr (nst (nst x)) (s + 1)) ≠ 0 then 0 else 1) := by
  have h64 := O.hv
  have h4 := O.2.2.1
  have hk := dr_lt (nst x) hp
  have hy := dr_lt (nst (nst x)) (show 0 < s + 1 by omega)
  have ho := O.2.2.2.2.2 _ hk
  have hct := cth_le h v col (dr (nst x) (h * v)) (dr (nst (nst x)) (s + 1)) O.1 O.2.1
  have M : mN (up B 53 f) 53 h v s col := fun x hx => by rw [up_s]; exact hf x hx
  unfold f_M_does e_M_does f_M_does_p62
  rw [sf51, M_cellMany M, Option.bind_some, M_draw x hx hp (by omega), Option.bind_some, rd51_11, Option.bind_some, (mN.gr M).sh, Option.bind_some, nI_1, M_draw (nst x) (up_s _ _ _) (show 0 < s + 1 by omega) (by omega), Option.bind_some, up_up, rd51_11, Option.bind_some, (mN.gr M).cl (by omega), Option.bind_some]
  simp only []
  generalize dr (nst x) (h * v) = k at *
  generalize dr (nst (nst x)) (s + 1) = y at *
  by_cases z : col k = y
  · rw [if_pos (Or.inl z), if_pos (Or.inl z), if_neg (by rw [z]; exact fun q => q rfl)]
    exact ⟨f, fun _ _ => rfl, hf, rfl⟩
  · rw [if_pos (show ¬ nI (col k) = nI y by rw [nI_eq (by omega) (by omega)]; exact z), Option.bind_some, three, w_si ar53 (by omega) (by decide) (by decide), Option.bind_some, st53, up_s, up_up]
    have hf2 := enc_upd h v s col k y hf
    by_cases y0 : y = 0
    · have c0 : cth h v col k y = 0 := by unfold cth; rw [if_pos y0]
      have nz : ¬ (col k = y ∨ cth h v col k y ≠ 0) := by rintro (q | q); exact z q; exact q c0
      rw [if_neg nz, if_neg nz, if_pos (show nI y = (0 : Int32) by rw [y0]; rfl)]
      exact ⟨_, fun j hj => pk_un (by omega), hf2, rfl⟩
    · have M2 : mN (up B 53 (upd f (k + 3) (nI y))) 53 h v s (updN col k y) := fun x hx => by rw [up_s]; exact hf2 x hx
      have O2 : gok h v s (updN col k y) := updN_ok O k (by omega)
      rw [if_neg (nI_ne0 (by omega) (by omega)), rd51_11, Option.bind_some, M_through1 M2.gr O2 hk, Option.bind_some, updN_s, cth_upd hk]
      by_cases c0 : cth h v col k y = 0
      · have nz : ¬ (col k = y ∨ cth h v col k y ≠ 0) := by rintro (q | q); exact z q; exact q c0
        rw [if_neg nz, if_neg nz, if_neg (show ¬ ¬ nI (cth h v col k y) = (0 : Int32) by rw [c0]; exact fun q => q rfl)]
        exact ⟨_, fun j hj => pk_un (by omega), hf2, rfl⟩
      · have hf3 := enc_upd h v s _ k (col k) hf2
        rw [updN_updN, updN_id] at hf3
        rw [if_pos (Or.inr c0), if_pos (Or.inr c0), if_pos (nI_ne0 (by omega) (by omega)), rd51_11, Option.bind_some, w_si ar53 (by omega) (by decide) (by decide), Option.bind_some, st53, up_s, up_up]
        exact ⟨_, fun j hj => by rw [pk_un (by omega), pk_un (by omega)], hf3, rfl⟩
theorem mdr_loop (hp : 0 < h * v) {N : Nat} (hN : N ≤ 60) : ∀ d n j x c f m col, j + d = N → d < n → gok h v s col → m 33 = x → (∀ j, j < 67 → f j = enc h v s col j) → ∃ f' x', (∀ j, 67 ≤ j → f' j = f j) ∧ (∀ j, j < 67 → f' j = enc h v s (drun h v s d x c col).2 j) ∧ f_M_drawn_p40 n 51 (nI N) (nI c) (nI j) (mk n1 n2 L xs g i A m (up B 53 f) J wd o) = f_M_drawn_p69 51 (nI (drun h v s d x c col).1) (mk n1 n2 L xs g i A (up m 33 x') (up B 53 f') J wd o) := by
  intro d
  induction d with
  | zero =>
    intro n j x c f m col hj hn O hx hf
    obtain ⟨n, rfl⟩ : ∃ m, n = m + 1 := ⟨n - 1, by omega⟩
    refine ⟨f, x, fun _ _ => rfl, hf, ?_⟩
    rw [f_M_drawn_p40, if_pos (nI_le (by omega) (by omega)), ← hx, up_id]
    rfl
  | succ d ih =>
    intro n j x c f m col hj hn O hx hf
    obtain ⟨n, rfl⟩ : ∃ m, n = m + 1 := ⟨n - 1, by omega⟩
    have h8 := O.1
    have h0 : 0 < h := Nat.pos_of_ne_zero (fun z => by subst z; omega)
    have M : mN (up B 53 f) 53 h v s col := fun x hx => by rw [up_s]; exact hf x hx
    have q8 : ¬ nI h ≤ (0 : Int32) := by
      rw [fa_le, nI_toInt (by omega)]
      have : (0 : Int32).toInt = 0 := rfl
      omega
    obtain ⟨f1, b1, b2, e⟩ := M_does (n1 := n1) (n2 := n2) (L := L) (xs := xs) (g := g) (i := i) (A := A) (B := B) (J := J) (wd := wd) (o := o) x hx hf O hp
    have hy := dr_lt (nst (nst x)) (show 0 < s + 1 by omega)
    rw [f_M_drawn_p40, if_neg (nI_ge (by omega) (by omega)), M_high M, Option.bind_some, if_neg q8, e, Option.bind_some, drun]
    unfold f_M_drawn_p63
    rw [nI_1]
    by_cases z : col (dr (nst x) (h * v)) = dr (nst (nst x)) (s + 1) ∨ cth h v col (dr (nst x) (h * v)) (dr (nst (nst x)) (s + 1)) ≠ 0
    · rw [if_pos z] at b2
      rw [if_pos z, if_pos z, if_pos rfl]
      obtain ⟨f2, x2, c1, c2, c3⟩ := ih n (j + 1) (nst (nst x)) c f1 (up m 33 (nst (nst x))) col (by omega) (by omega) O (up_s _ _ _) b2
      rw [up_up] at c3
      exact ⟨f2, x2, fun k hk => by rw [c1 k hk, b1 k hk], c2, c3⟩
    · rw [if_neg z] at b2
      rw [if_neg z, if_neg z, if_neg (show ¬ (1 : Int32) = 0 by decide), nI_1]
      obtain ⟨f2, x2, c1, c2, c3⟩ := ih n (j + 1) (nst (nst x)) (c + 1) f1 (up m 33 (nst (nst x))) _ (by omega) (by omega) (updN_ok O _ (by omega)) (up_s _ _ _) b2
      rw [up_up] at c3
      exact ⟨f2, x2, fun k hk => by rw [c1 k hk, b1 k hk], c2, c3⟩
theorem cp1113 : f_G_copy 11 13 (mk n1 n2 L xs g i A m B J wd o) = some (mk n1 n2 L xs (up g 11 (cpG (g 13) (g 11))) i A m B J wd o, ()) := by
  rw [G_copy g11 g13 (by decide) (by decide), gp11]
  rfl
theorem cpM5357 : f_M_copy 53 0 57 0 (mk n1 n2 L xs g i A m B J wd o) = some (mk n1 n2 L xs g i A m (up B 57 (fb_put (B 57) (B 53) 0 67)) J wd o, ()) := by
  have := M_copy (w := mk n1 n2 L xs g i A m B J wd o) (o1 := 0) (o2 := 0) ar53 ar57 (by decide) (by decide) (by decide) (by decide) (by decide) (by decide)
  rw [st57, zadd] at this
  exact this
theorem cpM5358 : f_M_copy 53 0 58 0 (mk n1 n2 L xs g i A m B J wd o) = some (mk n1 n2 L xs g i A m (up B 58 (fb_put (B 58) (B 53) 0 67)) J wd o, ()) := by
  have := M_copy (w := mk n1 n2 L xs g i A m B J wd o) (o1 := 0) (o2 := 0) ar53 ar58 (by decide) (by decide) (by decide) (by decide) (by decide) (by decide)
  rw [st58, zadd] at this
  exact this
theorem cpM5753 : f_M_copy 57 0 53 0 (mk n1 n2 L xs g i A m B J wd o) = some (mk n1 n2 L xs g i A m (up B 53 (fb_put (B 53) (B 57) 0 67)) J wd o, ()) := by
  have := M_copy (w := mk n1 n2 L xs g i A m B J wd o) (o1 := 0) (o2 := 0) ar57 ar53 (by decide) (by decide) (by decide) (by decide) (by decide) (by decide)
  rw [st53, zadd] at this
  exact this
theorem cpM5853 : f_M_copy 58 0 53 0 (mk n1 n2 L xs g i A m B J wd o) = some (mk n1 n2 L xs g i A m (up B 53 (fb_put (B 53) (B 58) 0 67)) J wd o, ()) := by
  have := M_copy (w := mk n1 n2 L xs g i A m B J wd o) (o1 := 0) (o2 := 0) ar58 ar53 (by decide) (by decide) (by decide) (by decide) (by decide) (by decide)
  rw [st53, zadd] at this
  exact this
end DWA
theorem INV_g {g g' : Nat → GR} {i : Nat → Int32} {A : Nat → Nat → Int32} {m : Nat → Int32} {B : Nat → Nat → Int32} (H : INV g i A m B) (hg : ∀ a, a ≠ 13 → a ≠ 16 → g' a = g a) : INV g' i A m B := by
  obtain ⟨⟨h, v, s, col, O, C, M⟩, e8, T, Hh, I, S, K'⟩ := H
  exact ⟨⟨h, v, s, col, O, cg_of C (hg 11 (by decide) (by decide)), M⟩, e8, T, HI_same Hh rfl rfl rfl rfl rfl (fun l hl => hg _ (by omega) (by omega)), II_same I rfl rfl rfl (fun k hk => hg _ (by omega) (by omega)), SI_same S (hg 19 (by decide) (by decide)) (hg 21 (by decide) (by decide)) rfl rfl, K'⟩
theorem p_drawn (x y : Int32) : pOk (f_C_drawn 8 x y) (f_M_drawn 51 x y) := by
  intro n1 n2 L xs g i A m B J wd o H
  obtain ⟨⟨h, v, s, col, O, C, M⟩, -, -, Hh, -⟩ := id H
  have h8 := O.1.1
  have h64 := O.1.hv
  unfold f_C_drawn e_C_drawn f_C_drawn_p11 f_C_drawn_p60 f_M_drawn e_M_drawn
  have hcase : (x < 1 ∨ (60 : Int32) < x) ∨ ∃ N, 1 ≤ N ∧ N ≤ 60 ∧ x = nI N := by
    have h0 : (0 : Int32).toInt = 0 := rfl
    have h1 : (1 : Int32).toInt = 1 := rfl
    have h6 : (60 : Int32).toInt = 60 := rfl
    rcases pk_ix x (n := 61) (by decide) with q | q | ⟨k, hk, rfl⟩
    · refine Or.inl (Or.inl ?_)
      rw [fa_lt] at q ⊢
      omega
    · refine Or.inl (Or.inr ?_)
      rw [fa_le, nI_toInt (by omega)] at q
      rw [fa_lt]
      omega
    · rcases Nat.eq_zero_or_pos k with z | z
      · exact Or.inl (Or.inl (by rw [z]; decide))
      · exact Or.inr ⟨k, z, by omega, rfl⟩
  rcases hcase with q | ⟨N, N1, N6, rfl⟩
  · refine ⟨-1, g, i, A, ?_, up m 0 0, B, J, wd, ?_, INV_keep H (keep0 m B 0)⟩
    · rw [sf8]
      by_cases z : x < 1
      · exact if_pos z
      · rw [if_neg z]
        refine if_neg (fun y => ?_)
        rcases q with q | q
        · exact z q
        · exact (fa_of_lt q).2.1 y
    · rw [sf51, wr51_0, Option.bind_some, M_isIn_f q]
      rfl
  have n1' : ¬ nI N < (1 : Int32) := nI_nlt (b := 1) (by omega) (by omega)
  have n60 : nI N ≤ (60 : Int32) := nI_le (b := 60) (by omega) (by omega)
  have n60' : ¬ (60 : Int32) < nI N := nI_nlt (a := 60) (by omega) (by omega)
  have C0 : cg (up g 13 (cpG (g 11) (g 13))) 13 h v s col := cg_cp C _ _
  rcases Nat.eq_zero_or_pos h with z | h0
  · have H1 : INV (up g 13 (cpG (g 11) (g 13))) i A m B := INV_g H (fun a h1 _ => up_n _ _ h1)
    refine ⟨0, up g 13 (cpG (g 11) (g 13)), i, A, ?_, up (up m 0 0) 33 y, up B 57 (fb_put (B 57) (B 53) 0 67), J, wd, ?_, INV_keep H1 ⟨rfl, rfl, rfl, rfl, rfl, rfl, rfl, rfl, rfl⟩⟩
    · unfold f_C_drawOn e_C_drawOn
      rw [sf8, if_neg n1', if_pos n60, rd8_2, Option.bind_some, rd8_1, Option.bind_some, cp1311, Option.bind_some, rd8_2, Option.bind_some, G_exists C0.g13 h8, Option.bind_some]
      subst z
      rfl
    · have M' : mN (up B 57 (fb_put (B 57) (B 53) 0 67)) 53 h v s col := M
      rw [sf51, wr51_0, Option.bind_some, M_isIn_t n1' n60', Option.bind_some, if_pos (show ¬ (1 : Int32) = 0 by decide), rd51_11, Option.bind_some, rd51_15, Option.bind_some, cpM5357, Option.bind_some, wr51_33, Option.bind_some]
      unfold am_N
      rw [f_M_drawn_p40, if_neg (show ¬ nI N ≤ (0 : Int32) from nI_ge (a := 0) (by omega) (by omega)), M_high M', Option.bind_some]
      subst z
      rfl
  · have v0 : 0 < v := Nat.pos_of_ne_zero (fun e => by have := O.1.2.2.2.1.mpr e; omega)
    have hp : 0 < h * v := Nat.mul_pos h0 v0
    obtain ⟨f1, F1, e1⟩ := cdr_loop (n1 := n1) (n2 := n2) (L := L) (xs := xs) (i := i) (A := A) (m := m) (B := B) (J := J) (wd := wd) (o := o) hp N6 N am_N 0 y 0 _ col (by omega) (by unfold am_N; omega) O.1 C0
    rw [up_up] at e1
    have dl := drun_le h v s N y 0 col
    have O1 := drun_z h v s hp N y 0 col O
    have H1 : INV (up g 13 (h, v, s, f1)) i A m B := INV_g H (fun a h1 _ => up_n _ _ h1)
    have ecls : ∀ k : am_W × Int32 → Option (am_W × Int32), ((am_gr (mk n1 n2 L xs g i A m B J wd o) 8 0 2).bind fun v3 => ((am_gr (mk n1 n2 L xs g i A m B J wd o) 8 0 1).bind fun v5 => ((f_G_copy (v3) (v5) (mk n1 n2 L xs g i A m B J wd o)).bind fun r7 => ((am_gr r7.1 8 0 2).bind fun v9 => ((f_C_drawOn (v9) (nI N) y r7.1).bind k))))) = k (mk n1 n2 L xs (up g 13 (h, v, s, f1)) i A m B J wd o, nI (drun h v s N y 0 col).1) := by
      intro k
      unfold f_C_drawOn e_C_drawOn
      rw [rd8_2, Option.bind_some, rd8_1, Option.bind_some, cp1311, Option.bind_some, rd8_2, Option.bind_some, G_exists C0.g13 h8, Option.bind_some, if_pos h0, if_pos (show ¬ (1 : Int32) = 0 by decide)]
      have e1' : f_C_drawOn_p17 am_N 13 (nI N) 0 y 0 (mk n1 n2 L xs (up g 13 (cpG (g 11) (g 13))) i A m B J wd o) = _ := e1
      rw [e1', Option.bind_some]
    rcases Nat.eq_zero_or_pos (drun h v s N y 0 col).1 with dz | dp
    · obtain ⟨f2, x2, c1, c2, c3⟩ := mdr_loop (n1 := n1) (n2 := n2) (L := L) (xs := xs) (g := up g 13 (h, v, s, f1)) (i := i) (A := A) (B := up B 57 (fb_put (B 57) (B 53) 0 67)) (J := J) (wd := wd) (o := o) hp N6 N am_N 0 y 0 (B 53) (up (up m 0 0) 33 y) col (by omega) (by unfold am_N; omega) O.1 (up_s _ _ _) M
      have eu : up (up B 57 (fb_put (B 57) (B 53) 0 67)) 53 (B 53) = up B 57 (fb_put (B 57) (B 53) 0 67) := up_id (up B 57 (fb_put (B 57) (B 53) 0 67)) 53
      rw [eu, up_up] at c3
      have dcol : (drun h v s N y 0 col).2 = col := by
        have gen : ∀ d x c col, (drun h v s d x c col).1 = c → (drun h v s d x c col).2 = col := by
          intro d
          induction d with
          | zero => intro x c col _; rfl
          | succ d ih =>
            intro x c col
            rw [drun]
            split
            · exact ih _ _ _
            · intro q
              have := drun_le h v s d (nst (nst x)) (c + 1) (updN col (dr (nst x) (h * v)) (dr (nst (nst x)) (s + 1)))
              omega
        exact gen N y 0 col dz
      have ef : f2 = B 53 := by
        funext j
        rcases Nat.lt_or_ge j 67 with q | q
        · rw [c2 j q, dcol, M j q]
        · exact c1 j q
      refine ⟨0, up g 13 (h, v, s, f1), i, A, ?_, up (up m 0 0) 33 x2, up B 57 (fb_put (B 57) (B 53) 0 67), J, wd, ?_, INV_keep H1 ⟨rfl, rfl, rfl, rfl, rfl, rfl, rfl, rfl, rfl⟩⟩
      · rw [sf8, if_neg n1', if_pos n60, ecls, dz]
        rfl
      · rw [sf51, wr51_0, Option.bind_some, M_isIn_t n1' n60', Option.bind_some, if_pos (show ¬ (1 : Int32) = 0 by decide), rd51_11, Option.bind_some, rd51_15, Option.bind_some, cpM5357, Option.bind_some, wr51_33, Option.bind_some]
        have c3' : f_M_drawn_p40 am_N 51 (nI N) 0 0 (mk n1 n2 L xs (up g 13 (h, v, s, f1)) i A (up (up m 0 0) 33 y) (up B 57 (fb_put (B 57) (B 53) 0 67)) J wd o) = _ := c3
        rw [c3', dz, ef, eu]
        rfl
    · obtain ⟨-, -, -, Hh1, -⟩ := id H1
      have C1 : cg (up g 13 (h, v, s, f1)) 11 h v s col := cg_ne C _ (by decide)
      obtain ⟨gk, ik, Ak, eK, a1, a2, a3, m9, f9, eS, a4⟩ := keep_C Hh1 C1 O M
      have C2 : cg gk 13 h v s (drun h v s N y 0 col).2 := cg_of (cg13 (g := g) (s := s) F1) (a1 13 (by decide))
      obtain ⟨f2, x2, c1, c2, c3⟩ := mdr_loop (n1 := n1) (n2 := n2) (L := L) (xs := xs) (g := up gk 11 (cpG (gk 13) (gk 11))) (i := ik) (A := Ak) (B := up B 57 (fb_put (B 57) (B 53) 0 67)) (J := J) (wd := wd) (o := o) hp N6 N am_N 0 y 0 (B 53) (up (up m 0 0) 33 y) col (by omega) (by unfold am_N; omega) O.1 (up_s _ _ _) M
      have eu : up (up B 57 (fb_put (B 57) (B 53) 0 67)) 53 (B 53) = up B 57 (fb_put (B 57) (B 53) 0 67) := up_id (up B 57 (fb_put (B 57) (B 53) 0 67)) 53
      rw [eu, up_up] at c3
      have q8 : ¬ nI (drun h v s N y 0 col).1 ≤ (0 : Int32) := by
        rw [fa_le, nI_toInt (by omega)]
        have : (0 : Int32).toInt = 0 := rfl
        omega
      refine ⟨nI (drun h v s N y 0 col).1, up gk 11 (cpG (gk 13) (gk 11)), ik, Ak, ?_, up (up (up m 0 0) 33 x2) 19 m9, _, J, wd, ?_, INV_act H1 a1 a2 a3 a4 (B'' := up (up (up (up (up (up B 57 (fb_put (B 57) (B 53) 0 67)) 53 f2) 58 (fb_put (B 58) f2 0 67)) 53 (B 53)) 56 f9) 53 (fb_put (B 53) (fb_put (B 58) f2 0 67) 0 67)) (fun a h1 _ => up_n _ _ h1) rfl rfl rfl rfl rfl rfl rfl rfl O1 (cg_cp C2 _ _) (fun j hj => by rw [up_s, fb_put_in (by omega) (by omega), Nat.sub_zero, fb_put_in (by omega) (by omega), Nat.sub_zero]; exact c2 j hj)⟩
      · rw [sf8, if_neg n1', if_pos n60, ecls, if_neg q8, rd8_5, Option.bind_some, rd8_1, Option.bind_some, eK, Option.bind_some, rd8_1, Option.bind_some, rd8_2, Option.bind_some, cp1113, Option.bind_some]
      · rw [sf51, wr51_0, Option.bind_some, M_isIn_t n1' n60', Option.bind_some, if_pos (show ¬ (1 : Int32) = 0 by decide), rd51_11, Option.bind_some, rd51_15, Option.bind_some, cpM5357, Option.bind_some, wr51_33, Option.bind_some]
        have c3' : f_M_drawn_p40 am_N 51 (nI N) 0 0 (mk n1 n2 L xs (up gk 11 (cpG (gk 13) (gk 11))) ik Ak (up (up m 0 0) 33 y) (up B 57 (fb_put (B 57) (B 53) 0 67)) J wd o) = _ := c3
        rw [c3']
        have e53 : fb_put f2 (fb_put (B 57) (B 53) 0 67) 0 67 = B 53 := by
          funext j
          rcases Nat.lt_or_ge j 67 with q | q
          · rw [fb_put_in (by omega) (by omega), Nat.sub_zero, fb_put_in (by omega) (by omega), Nat.sub_zero]
          · rw [fb_put_out (by omega)]
            exact c1 j q
        unfold f_M_drawn_p69 f_M_drawn_p77 f_M_stay e_M_stay
        rw [if_neg q8, sf51, rd51_11, Option.bind_some, rd51_16, Option.bind_some, cpM5358, Option.bind_some, rd51_15, Option.bind_some, rd51_11, Option.bind_some, cpM5753, Option.bind_some]
        rw [show up (up B 57 (fb_put (B 57) (B 53) 0 67)) 53 f2 58 = B 58 from rfl, show up (up B 57 (fb_put (B 57) (B 53) 0 67)) 53 f2 53 = f2 from rfl]
        rw [show up (up (up B 57 (fb_put (B 57) (B 53) 0 67)) 53 f2) 58 (fb_put (B 58) f2 0 67) 53 = f2 from rfl, show up (up (up B 57 (fb_put (B 57) (B 53) 0 67)) 53 f2) 58 (fb_put (B 58) f2 0 67) 57 = fb_put (B 57) (B 53) 0 67 from rfl, e53]
        rw [eS _ _ _ _ _ _ _ (up (up m 0 0) 33 x2) (up (up (up (up B 57 (fb_put (B 57) (B 53) 0 67)) 53 f2) 58 (fb_put (B 58) f2 0 67)) 53 (B 53)) _ _ _ rfl rfl rfl, Option.bind_some, rd51_16, Option.bind_some, rd51_11, Option.bind_some, cpM5853, Option.bind_some]
        rfl
