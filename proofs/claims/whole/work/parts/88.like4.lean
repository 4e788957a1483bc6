/-! LIKES: the model's orders -/
theorem dfs_dg : ∀ n : Fin 5, ∀ c ∈ dfs n.val n.val 0 0 0, ∀ i : Fin 4, i.val < n.val → dg c i.val < n.val := by decide +kernel
section LKD
variable {n1 n2 L : Nat} {xs : Nat → Int32} {g : Nat → GR} {i : Nat → Int32} {A : Nat → Nat → Int32} {m : Nat → Int32} {B : Nat → Nat → Int32} {J : Nat → Int64} {wd : Int64} {o : Nat → Int64} {h v s : Nat} {col : Nat → Nat}
theorem up3 (B : Nat → Nat → Int32) {a b : Nat} (f f2 f3 : Nat → Int32) (h : a ≠ b) : up (up (up B a f) b f2) a f3 = up (up B a f3) b f2 := by
  funext j
  unfold up
  by_cases z : j = a
  · subst z
    rw [if_pos rfl, if_neg h, if_pos rfl]
  · rw [if_neg z]
    by_cases y : j = b
    · rw [if_pos y, if_pos y]
    · rw [if_neg y, if_neg y, if_neg z, if_neg z]
/-- the loop over one place of an order: what each choice comes to, added up (columns) -/
theorem oo_col (rc : Nat → Int32 → Int32 → Int32 → am_W → Option (am_W × Int32)) {n k been : Nat} (n4 : n ≤ 4) (hk : k < 4) (hb : been < 2 ^ 4) (V : Nat → List Nat) (F : Nat → Nat) (f0 : Nat → Int32) (hV : ∀ x, been.testBit x = true → V x = []) (hrc : ∀ x, x < n → been.testBit x = false → ∀ f f', (∀ j, j < k → f j = f0 j) → f k = nI x → ∃ f2 f2', (∀ j, j < k + 1 → f2 j = f j) ∧ rc 51 (nI (k + 1)) 0 (nI (been ||| 2 ^ x)) (mk n1 n2 L xs g i A m (up (up B 68 f) 69 f') J wd o) = some (mk n1 n2 L xs g i A m (up (up B 68 f2) 69 f2') J wd o, nI (lsm F (V x)))) :
    ∀ d N x T f f', x + d = n → d < N → (∀ j, j < k → f j = f0 j) → ∃ f2 f2', (∀ j, j < k → f2 j = f0 j) ∧ f_M_ordersOn_p56 rc N 51 (nI k) 0 (nI been) (nI n) (nI T) (nI x) (mk n1 n2 L xs g i A m (up (up B 68 f) 69 f') J wd o) = some (mk n1 n2 L xs g i A m (up (up B 68 f2) 69 f2') J wd o, nI (T + lsm F (enum V x d))) := by
  intro d
  induction d with
  | zero =>
    intro N x T f f' hx hN hf
    obtain ⟨N, rfl⟩ : ∃ m, N = m + 1 := ⟨N - 1, by omega⟩
    refine ⟨f, f', hf, ?_⟩
    rw [f_M_ordersOn_p56, if_pos (nI_le (by omega) (by omega))]
    rfl
  | succ d ih =>
    intro N x T f f' hx hN hf
    obtain ⟨N, rfl⟩ : ∃ m, N = m + 1 := ⟨N - 1, by omega⟩
    have ee : enum V x (d + 1) = V x ++ enum V (x + 1) d := rfl
    rw [f_M_ordersOn_p56, if_neg (nI_ge (by omega) (by omega)), ee, lsm_app]
    unfold f_M_ordersOn_p99 f_M_ordersOn_p118
    rw [nI_1, nI_1]
    by_cases z : been.testBit x = true
    · rw [if_neg (by rw [nI_bit1 (by omega) (by omega)]; exact fun q => q z), hV x z, show T + (lsm F [] + lsm F (enum V (x + 1) d)) = T + lsm F (enum V (x + 1) d) by show T + (0 + _) = _; rw [Nat.zero_add]]
      exact ih N (x + 1) T f f' (by omega) (by omega) hf
    · have zf : been.testBit x = false := Bool.eq_false_iff.mpr z
      obtain ⟨f2, f2', a1, a2⟩ := hrc x (by omega) zf (upd f k (nI x)) f' (fun j hj => by rw [pk_un (by omega)]; exact hf j hj) pk_us
      have e31 : am_si (mk n1 n2 L xs g i A m (up (up B 68 f) 69 f') J wd o) 68 (nI k) (nI x) = some (mk n1 n2 L xs g i A m (up (up B 68 (upd f k (nI x))) 69 f') J wd o) := by
        rw [w_si ar68 hk (by decide) (by decide), st68, up3 _ _ _ _ (by decide), up_n _ _ (by decide), up_s]
      rw [if_pos (by rw [nI_bit1 (by omega) (by omega)]; exact z), if_pos rfl, rd51_31, Option.bind_some, e31, Option.bind_some, nI_shl1 (by omega), fa_or, a2, Option.bind_some, nI_add, ← Nat.add_assoc]
      exact ih N (x + 1) _ f2 f2' (by omega) (by omega) (fun j hj => by rw [a1 j (by omega), pk_un (by omega)]; exact hf j hj)
theorem oo_cols (M : mN B 53 h v s col) (O : gok h v s col) {p : Nat} (hp : ∀ r, r < h → dg p r < h) (P : ∀ r, r < h → B 67 r = nI (dg p r)) (h4 : h ≤ 4) (v4 : v ≤ 4) : ∀ d N k been code (f f' : Nat → Int32), k + d = v → d < N → code < 2 ^ (2 * k) → (∀ j, j < k → f j = nI (dg code j)) → been < 2 ^ 4 → (∀ c, c ∈ dfs v d k been code → ∀ j, j < v → dg c j < v) → ∃ f2 f2', (∀ j, j < k → f2 j = f j) ∧ f_M_ordersOn N 51 (nI k) 0 (nI been) (mk n1 n2 L xs g i A m (up (up B 68 f) 69 f') J wd o) = some (mk n1 n2 L xs g i A m (up (up B 68 f2) 69 f2') J wd o, nI (lsm (fun q => lkN (h * v) (pim v p q) col) (dfs v d k been code))) := by
  intro d
  induction d with
  | zero =>
    intro N k been code f f' hk hN hc hf hb hd
    obtain ⟨N, rfl⟩ : ∃ m, N = m + 1 := ⟨N - 1, by omega⟩
    have ek : k = v := by omega
    subst ek
    have Mf : mN (up B 68 f) 53 h k s col := M.up (by decide) f
    have Mff : mN (up (up B 68 f) 69 f') 53 h k s col := Mf.up (by decide) f'
    obtain ⟨f2', e⟩ := M_isLike (n1 := n1) (n2 := n2) (L := L) (xs := xs) (g := g) (i := i) (A := A) (m := m) (J := J) (wd := wd) (o := o) Mf O hp (hd code List.mem_cons_self) P (fun c hc => by rw [up_s]; exact hf c hc) h4 v4 f'
    refine ⟨f, f2', fun _ _ => rfl, ?_⟩
    rw [f_M_ordersOn, sf51]
    unfold e_M_ordersOn f_M_ordersOn_p15 f_M_ordersOn_p49
    rw [if_pos rfl, M_broad Mff, Option.bind_some, if_neg (fun q => q rfl), if_pos rfl, e, Option.bind_some]
    have el : lsm (fun q => lkN (h * k) (pim k p q) col) (dfs k 0 k been code) = lkN (h * k) (pim k p code) col := by
      show lkN (h * k) (pim k p code) col + 0 = _
      rw [Nat.add_zero]
    rw [el]
    rcases Classical.em (LKp (h * k) (pim k p code) col) with a | a
    · rw [lkN_t a]; rfl
    · rw [lkN_f a]; rfl
  | succ d ih =>
    intro N k been code f f' hk hN hc hf hb hd
    obtain ⟨N, rfl⟩ : ∃ m, N = m + 1 := ⟨N - 1, by omega⟩
    have Mff : mN (up (up B 68 f) 69 f') 53 h v s col := (M.up (by decide) f).up (by decide) f'
    have c64 : code < 64 := Nat.lt_of_lt_of_le hc (Nat.pow_le_pow_right (by decide) (show 2 * k ≤ 6 by omega))
    obtain ⟨f2, f2', a1, a2⟩ := oo_col (n1 := n1) (n2 := n2) (L := L) (xs := xs) (g := g) (i := i) (A := A) (m := m) (B := B) (J := J) (wd := wd) (o := o) (f_M_ordersOn N) (n := v) (k := k) (been := been) v4 (by omega) hb (fun x => if been.testBit x then [] else dfs v d (k + 1) (been ||| 2 ^ x) (code + x * 2 ^ (2 * k))) (fun q => lkN (h * v) (pim v p q) col) f (fun x hx => if_pos hx) (fun x hx hbx f3 f3' h3 h3' => by
      obtain ⟨g1, g2, g3⟩ := dg_add ⟨k, by omega⟩ ⟨code, c64⟩ ⟨x, by omega⟩ hc
      have g1' : ∀ j, j < k → dg (code + x * 2 ^ (2 * k)) j = dg code j := fun j hj => g1 ⟨j, by omega⟩ hj
      have g2' : dg (code + x * 2 ^ (2 * k)) k = x := g2
      have g3' : code + x * 2 ^ (2 * k) < 2 ^ (2 * (k + 1)) := g3
      have hV : (if been.testBit x then [] else dfs v d (k + 1) (been ||| 2 ^ x) (code + x * 2 ^ (2 * k))) = dfs v d (k + 1) (been ||| 2 ^ x) (code + x * 2 ^ (2 * k)) := if_neg (by rw [hbx]; decide)
      simp only [hV]
      refine ih N (k + 1) (been ||| 2 ^ x) (code + x * 2 ^ (2 * k)) f3 f3' (by omega) (by omega) g3' (fun j hj => ?_) (Nat.or_lt_two_pow hb (Nat.pow_lt_pow_right (by decide) (by omega))) (fun c hc' j hj => hd c ?_ j hj)
      · by_cases y : j = k
        · subst y; rw [h3', g2']
        · rw [h3 j (by omega), hf j (by omega), g1' j (by omega)]
      · rw [dfs]
        exact enum_mem.mpr ⟨x, Nat.zero_le _, by omega, by rw [hV]; exact hc'⟩) v am_N 0 0 f f' (by omega) (by unfold am_N; omega) (fun _ _ => rfl)
    refine ⟨f2, f2', a1, ?_⟩
    rw [f_M_ordersOn, sf51]
    unfold e_M_ordersOn f_M_ordersOn_p15
    rw [if_pos rfl, M_broad Mff, Option.bind_some, if_pos (show ¬ nI k = nI v by rw [nI_eq (by omega) (by omega)]; omega)]
    rw [Nat.zero_add] at a2
    exact a2
/-- the same for rows -/
theorem oo_row (rc : Nat → Int32 → Int32 → Int32 → am_W → Option (am_W × Int32)) {n k been : Nat} (n4 : n ≤ 4) (hk : k < 4) (hb : been < 2 ^ 4) (V : Nat → List Nat) (F : Nat → Nat) (f0 : Nat → Int32) (hV : ∀ x, been.testBit x = true → V x = []) (hrc : ∀ x, x < n → been.testBit x = false → ∀ f f' f'', (∀ j, j < k → f j = f0 j) → f k = nI x → ∃ f2 f2' f2'', (∀ j, j < k + 1 → f2 j = f j) ∧ rc 51 (nI (k + 1)) 1 (nI (been ||| 2 ^ x)) (mk n1 n2 L xs g i A m (up (up (up B 67 f) 68 f') 69 f'') J wd o) = some (mk n1 n2 L xs g i A m (up (up (up B 67 f2) 68 f2') 69 f2'') J wd o, nI (lsm F (V x)))) :
    ∀ d N x T f f' f'', x + d = n → d < N → (∀ j, j < k → f j = f0 j) → ∃ f2 f2' f2'', (∀ j, j < k → f2 j = f0 j) ∧ f_M_ordersOn_p56 rc N 51 (nI k) 1 (nI been) (nI n) (nI T) (nI x) (mk n1 n2 L xs g i A m (up (up (up B 67 f) 68 f') 69 f'') J wd o) = some (mk n1 n2 L xs g i A m (up (up (up B 67 f2) 68 f2') 69 f2'') J wd o, nI (T + lsm F (enum V x d))) := by
  intro d
  induction d with
  | zero =>
    intro N x T f f' f'' hx hN hf
    obtain ⟨N, rfl⟩ : ∃ m, N = m + 1 := ⟨N - 1, by omega⟩
    refine ⟨f, f', f'', hf, ?_⟩
    rw [f_M_ordersOn_p56, if_pos (nI_le (by omega) (by omega))]
    rfl
  | succ d ih =>
    intro N x T f f' f'' hx hN hf
    obtain ⟨N, rfl⟩ : ∃ m, N = m + 1 := ⟨N - 1, by omega⟩
    have ee : enum V x (d + 1) = V x ++ enum V (x + 1) d := rfl
    rw [f_M_ordersOn_p56, if_neg (nI_ge (by omega) (by omega)), ee, lsm_app]
    unfold f_M_ordersOn_p99 f_M_ordersOn_p118
    rw [nI_1, nI_1]
    by_cases z : been.testBit x = true
    · rw [if_neg (by rw [nI_bit1 (by omega) (by omega)]; exact fun q => q z), hV x z, show T + (lsm F [] + lsm F (enum V (x + 1) d)) = T + lsm F (enum V (x + 1) d) by show T + (0 + _) = _; rw [Nat.zero_add]]
      exact ih N (x + 1) T f f' f'' (by omega) (by omega) hf
    · have zf : been.testBit x = false := Bool.eq_false_iff.mpr z
      obtain ⟨f2, f2', f2'', a1, a2⟩ := hrc x (by omega) zf (upd f k (nI x)) f' f'' (fun j hj => by rw [pk_un (by omega)]; exact hf j hj) pk_us
      have e30 : am_si (mk n1 n2 L xs g i A m (up (up (up B 67 f) 68 f') 69 f'') J wd o) 67 (nI k) (nI x) = some (mk n1 n2 L xs g i A m (up (up (up B 67 (upd f k (nI x))) 68 f') 69 f'') J wd o) := by
        rw [w_si ar67 hk (by decide) (by decide), st67, up_n _ _ (by decide), up_n _ _ (by decide), up_s, up_comm _ _ _ (show (69 : Nat) ≠ 67 by decide), up3 _ _ _ _ (by decide)]
      rw [if_pos (by rw [nI_bit1 (by omega) (by omega)]; exact z), if_neg (show ¬ (1 : Int32) = 0 by decide), rd51_30, Option.bind_some, e30, Option.bind_some, nI_shl1 (by omega), fa_or, a2, Option.bind_some, nI_add, ← Nat.add_assoc]
      exact ih N (x + 1) _ f2 f2' f2'' (by omega) (by omega) (fun j hj => by rw [a1 j (by omega), pk_un (by omega)]; exact hf j hj)
theorem oo_rows (M : mN B 53 h v s col) (O : gok h v s col) (h4 : h ≤ 4) (v4 : v ≤ 4) : ∀ d N k been code (f f' f'' : Nat → Int32), k + d = h → d + 6 < N → code < 2 ^ (2 * k) → (∀ j, j < k → f j = nI (dg code j)) → been < 2 ^ 4 → (∀ c, c ∈ dfs h d k been code → ∀ j, j < h → dg c j < h) → ∃ f2 f2' f2'', (∀ j, j < k → f2 j = f j) ∧ f_M_ordersOn N 51 (nI k) 1 (nI been) (mk n1 n2 L xs g i A m (up (up (up B 67 f) 68 f') 69 f'') J wd o) = some (mk n1 n2 L xs g i A m (up (up (up B 67 f2) 68 f2') 69 f2'') J wd o, nI (lsm (fun p => lsm (fun q => lkN (h * v) (pim v p q) col) (dfs v v 0 0 0)) (dfs h d k been code))) := by
  intro d
  induction d with
  | zero =>
    intro N k been code f f' f'' hk hN hc hf hb hd
    obtain ⟨N, rfl⟩ : ∃ m, N = m + 1 := ⟨N - 1, by omega⟩
    have ek : k = h := by omega
    subst ek
    have Mf : mN (up B 67 f) 53 k v s col := M.up (by decide) f
    have Mff : mN (up (up (up B 67 f) 68 f') 69 f'') 53 k v s col := (Mf.up (by decide) f').up (by decide) f''
    obtain ⟨f2', f2'', -, e⟩ := oo_cols (n1 := n1) (n2 := n2) (L := L) (xs := xs) (g := g) (i := i) (A := A) (m := m) (J := J) (wd := wd) (o := o) Mf O (p := code) (hd code List.mem_cons_self) (fun r hr => by rw [up_s]; exact hf r hr) h4 v4 v N 0 0 0 f' f'' (by omega) (by omega) (by decide) (fun j hj => by omega) (by decide) (fun c hc j hj => dfs_dg ⟨v, by omega⟩ c hc ⟨j, by omega⟩ hj)
    refine ⟨f, f2', f2'', fun _ _ => rfl, ?_⟩
    have e' : f_M_ordersOn N 51 0 0 0 (mk n1 n2 L xs g i A m (up (up (up B 67 f) 68 f') 69 f'') J wd o) = _ := e
    rw [f_M_ordersOn, sf51]
    unfold e_M_ordersOn f_M_ordersOn_p15 f_M_ordersOn_p49
    rw [if_neg (show ¬ (1 : Int32) = 0 by decide), M_high Mff, Option.bind_some, if_neg (fun q => q rfl), if_neg (show ¬ (1 : Int32) = 0 by decide), e', Option.bind_some]
    have el : ∀ F : Nat → Nat, lsm F (dfs k 0 k been code) = F code := fun F => by
      show F code + 0 = _
      rw [Nat.add_zero]
    rw [el]
  | succ d ih =>
    intro N k been code f f' f'' hk hN hc hf hb hd
    obtain ⟨N, rfl⟩ : ∃ m, N = m + 1 := ⟨N - 1, by omega⟩
    have Mff : mN (up (up (up B 67 f) 68 f') 69 f'') 53 h v s col := ((M.up (by decide) f).up (by decide) f').up (by decide) f''
    have c64 : code < 64 := Nat.lt_of_lt_of_le hc (Nat.pow_le_pow_right (by decide) (show 2 * k ≤ 6 by omega))
    obtain ⟨f2, f2', f2'', a1, a2⟩ := oo_row (n1 := n1) (n2 := n2) (L := L) (xs := xs) (g := g) (i := i) (A := A) (m := m) (B := B) (J := J) (wd := wd) (o := o) (f_M_ordersOn N) (n := h) (k := k) (been := been) h4 (by omega) hb (fun x => if been.testBit x then [] else dfs h d (k + 1) (been ||| 2 ^ x) (code + x * 2 ^ (2 * k))) (fun p => lsm (fun q => lkN (h * v) (pim v p q) col) (dfs v v 0 0 0)) f (fun x hx => if_pos hx) (fun x hx hbx f3 f3' f3'' h3 h3' => by
      obtain ⟨g1, g2, g3⟩ := dg_add ⟨k, by omega⟩ ⟨code, c64⟩ ⟨x, by omega⟩ hc
      have g1' : ∀ j, j < k → dg (code + x * 2 ^ (2 * k)) j = dg code j := fun j hj => g1 ⟨j, by omega⟩ hj
      have g2' : dg (code + x * 2 ^ (2 * k)) k = x := g2
      have g3' : code + x * 2 ^ (2 * k) < 2 ^ (2 * (k + 1)) := g3
      have hV : (if been.testBit x then [] else dfs h d (k + 1) (been ||| 2 ^ x) (code + x * 2 ^ (2 * k))) = dfs h d (k + 1) (been ||| 2 ^ x) (code + x * 2 ^ (2 * k)) := if_neg (by rw [hbx]; decide)
      simp only [hV]
      refine ih N (k + 1) (been ||| 2 ^ x) (code + x * 2 ^ (2 * k)) f3 f3' f3'' (by omega) (by omega) g3' (fun j hj => ?_) (Nat.or_lt_two_pow hb (Nat.pow_lt_pow_right (by decide) (by omega))) (fun c hc' j hj => hd c ?_ j hj)
      · by_cases y : j = k
        · subst y; rw [h3', g2']
        · rw [h3 j (by omega), hf j (by omega), g1' j (by omega)]
      · rw [dfs]
        exact enum_mem.mpr ⟨x, Nat.zero_le _, by omega, by rw [hV]; exact hc'⟩) h am_N 0 0 f f' f'' (by omega) (by unfold am_N; omega) (fun _ _ => rfl)
    refine ⟨f2, f2', f2'', a1, ?_⟩
    rw [f_M_ordersOn, sf51]
    unfold e_M_ordersOn f_M_ordersOn_p15
    rw [if_neg (show ¬ (1 : Int32) = 0 by decide), M_high Mff, Option.bind_some, if_pos (show ¬ nI k = nI h by rw [nI_eq (by omega) (by omega)]; omega)]
    rw [Nat.zero_add] at a2
    exact a2
theorem like_sum (h4 : h ≤ 4) (v4 : v ≤ 4) : fb_sm (lkR h v col) (2 ^ (2 * h)) = lsm (fun p => lsm (fun q => lkN (h * v) (pim v p q) col) (dfs v v 0 0 0)) (dfs h h 0 0 0) := by
  have e := sm_dfs h4 (fun p => fb_sm (lkC h v p col) (2 ^ (2 * v)))
  have e1 : fb_sm (lkR h v col) (2 ^ (2 * h)) = lsm (fun p => fb_sm (lkC h v p col) (2 ^ (2 * v))) (dfs h h 0 0 0) := e
  rw [e1]
  refine lsm_cong (fun p _ => ?_)
  exact sm_dfs v4 (fun q => lkN (h * v) (pim v p q) col)
end LKD
theorem p_likes : pOk (f_C_likes 8) (f_M_likes 51) := q2p (fun n1 n2 L xs g i A m B J wd o H => by
  obtain ⟨⟨h, v, s, col, O, C, M⟩, -⟩ := H
  have h8 := O.1.1
  have v8 := O.1.2.1
  unfold f_C_likes e_C_likes f_C_likes_p32 f_M_likes e_M_likes f_M_likes_p28 f_M_likes_p39
  rcases Nat.eq_zero_or_pos h with z | h0
  · refine ⟨-1, ?_, up m 0 0, B, J, ?_, keep0 m B 0⟩
    · rw [sf8, rd8_1, Option.bind_some, G_exists C.g11 h8, Option.bind_some, if_neg (show ¬ 0 < h by omega), if_pos rfl]
    · rw [sf51, wr51_0, Option.bind_some, M_high M, Option.bind_some, if_pos (by rw [z]; rfl)]
  by_cases h4 : h ≤ 4
  · have q4 : ¬ (4 : Int32) < nI h := nI_nlt (a := 4) (by omega) (by omega)
    by_cases v4 : v ≤ 4
    · have r4 : nI v ≤ (4 : Int32) := nI_le (b := 4) (by omega) (by omega)
      have hh := p256 h4
      obtain ⟨f2, f2', f2'', -, e⟩ := oo_rows (n1 := n1) (n2 := n2) (L := L) (xs := xs) (g := g) (i := i) (A := A) (m := up m 0 0) (J := J) (wd := wd) (o := o) M O.1 h4 v4 h 12 0 0 0 (B 67) (B 68) (B 69) (by omega) (by omega) (by decide) (fun j hj => by omega) (by decide) (fun c hc j hj => dfs_dg ⟨h, by omega⟩ c hc ⟨j, by omega⟩ hj)
      have eu : up (up (up B 67 (B 67)) 68 (B 68)) 69 (B 69) = B := by rw [up_id, up_id, up_id]
      rw [eu] at e
      have e' : f_M_ordersOn 12 51 0 1 0 (mk n1 n2 L xs g i A (up m 0 0) B J wd o) = _ := e
      refine ⟨nI (fb_sm (lkR h v col) (2 ^ (2 * h))), ?_, up m 0 0, up (up (up B 67 f2) 68 f2') 69 f2'', J, ?_, ⟨rfl, rfl, rfl, rfl, rfl, rfl, rfl, rfl, rfl⟩⟩
      · rw [sf8, rd8_1, Option.bind_some, G_exists C.g11 h8, Option.bind_some, if_pos h0, if_neg (show ¬ (1 : Int32) = 0 by decide), rd8_1, Option.bind_some, G_high C.g11, Option.bind_some, if_neg q4, rd8_1, Option.bind_some, G_wide C.g11, Option.bind_some, if_pos r4, rd8_1, Option.bind_some, G_high C.g11, Option.bind_some, two_shl h4]
        exact lks_loop C O.1 h4 v4 (2 ^ (2 * h)) am_N 0 (by omega) (by unfold am_N; omega)
      · rw [sf51, wr51_0, Option.bind_some, M_high M, Option.bind_some, if_neg (nI_ne0 h0 (by omega)), M_high M, Option.bind_some, if_neg q4, M_broad M, Option.bind_some, if_pos r4, e', Option.bind_some, like_sum h4 v4]
    · have r4 : ¬ nI v ≤ (4 : Int32) := nI_ge (a := 4) (by omega) (by omega)
      refine ⟨-1, ?_, up m 0 0, B, J, ?_, keep0 m B 0⟩
      · rw [sf8, rd8_1, Option.bind_some, G_exists C.g11 h8, Option.bind_some, if_pos h0, if_neg (show ¬ (1 : Int32) = 0 by decide), rd8_1, Option.bind_some, G_high C.g11, Option.bind_some, if_neg q4, rd8_1, Option.bind_some, G_wide C.g11, Option.bind_some, if_neg r4]
      · rw [sf51, wr51_0, Option.bind_some, M_high M, Option.bind_some, if_neg (nI_ne0 h0 (by omega)), M_high M, Option.bind_some, if_neg q4, M_broad M, Option.bind_some, if_neg r4]
  · have q4 : (4 : Int32) < nI h := nI_lt (a := 4) (by omega) (by omega)
    refine ⟨-1, ?_, up m 0 0, B, J, ?_, keep0 m B 0⟩
    · rw [sf8, rd8_1, Option.bind_some, G_exists C.g11 h8, Option.bind_some, if_pos h0, if_neg (show ¬ (1 : Int32) = 0 by decide), rd8_1, Option.bind_some, G_high C.g11, Option.bind_some, if_pos q4]
    · rw [sf51, wr51_0, Option.bind_some, M_high M, Option.bind_some, if_neg (nI_ne0 h0 (by omega)), M_high M, Option.bind_some, if_pos q4])
