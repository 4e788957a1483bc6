/-! LIKES: both counts -/
noncomputable def lkN (n : Nat) (f col : Nat → Nat) : Nat := @ite Nat (LKp n f col) (Classical.propDecidable _) 1 0
theorem lkN_t {n : Nat} {f col : Nat → Nat} (h : LKp n f col) : lkN n f col = 1 := if_pos h
theorem lkN_f {n : Nat} {f col : Nat → Nat} (h : ¬ LKp n f col) : lkN n f col = 0 := if_neg h
theorem two_shl {v : Nat} (v4 : v ≤ 4) : (1 : Int32) <<< ((2 * nI v) &&& 31) = nI (2 ^ (2 * v)) := by
  rw [show (2 : Int32) = nI 2 from rfl, pk_mul, nI_shl1 (by omega)]
theorem p256 {v : Nat} (v4 : v ≤ 4) : 2 ^ (2 * v) ≤ 256 := Nat.pow_le_pow_right (by decide) (show 2 * v ≤ 8 by omega)
noncomputable def lkC (h v p : Nat) (col : Nat → Nat) (c : Nat) : Nat := if isOd v c then lkN (h * v) (pim v p c) col else 0
noncomputable def lkR (h v : Nat) (col : Nat → Nat) (p : Nat) : Nat := if isOd h p then fb_sm (lkC h v p col) (2 ^ (2 * v)) else 0
section LKB
variable {n1 n2 L : Nat} {xs : Nat → Int32} {g : Nat → GR} {i : Nat → Int32} {A : Nat → Nat → Int32} {m : Nat → Int32} {B : Nat → Nat → Int32} {J : Nat → Int64} {wd : Int64} {o : Nat → Int64} {h v s : Nat} {col : Nat → Nat}
theorem lbr_loop (C : cg g 11 h v s col) (O : gok h v s col) (h4 : h ≤ 4) (v4 : v ≤ 4) {p : Nat} (hp : p < 2 ^ (2 * h)) (op : isOd h p = true) : ∀ d N c, c + d = 2 ^ (2 * v) → d < N → f_C_likesByRows_p17 N 8 (nI p) (nI (fb_sm (lkC h v p col) c)) (nI (2 ^ (2 * v))) (nI c) (mk n1 n2 L xs g i A m B J wd o) = some (mk n1 n2 L xs g i A m B J wd o, nI (fb_sm (lkC h v p col) (2 ^ (2 * v)))) := by
  have hv := p256 v4
  have hh := p256 h4
  intro d
  induction d with
  | zero =>
    intro N c hc hN
    obtain ⟨N, rfl⟩ : ∃ m, N = m + 1 := ⟨N - 1, by omega⟩
    rw [f_C_likesByRows_p17, if_pos (nI_le (by omega) (by omega)), show c = 2 ^ (2 * v) by omega]
  | succ d ih =>
    intro N c hc hN
    obtain ⟨N, rfl⟩ : ∃ m, N = m + 1 := ⟨N - 1, by omega⟩
    have hs : fb_sm (lkC h v p col) (c + 1) = fb_sm (lkC h v p col) c + lkC h v p col c := rfl
    have hi := ih N (c + 1) (by omega) (by omega)
    rw [f_C_likesByRows_p17, if_neg (nI_ge (by omega) (by omega)), rd8_1, Option.bind_some, G_wide C.g11, Option.bind_some, C_isOrder (by omega) v4, Option.bind_some]
    unfold f_C_likesByRows_p54
    rw [nI_1, nI_1]
    by_cases z : isOd v c = true
    · rw [if_pos z, if_neg (show ¬ (1 : Int32) = 0 by decide), rd8_1, Option.bind_some]
      have bj := pim_bij h4 v4 hp (show c < 2 ^ (2 * v) by omega) op z
      have e : lkC h v p col c = lkN (h * v) (pim v p c) col := by unfold lkC; rw [if_pos z]
      rw [e] at hs
      rcases G_isLike (C.g11 (n1 := n1) (n2 := n2) (L := L) (xs := xs) (i := i) (A := A) (m := m) (B := B) (J := J) (wd := wd) (o := o)) C.2.2.2 O (show p < 256 by omega) (show c < 256 by omega) h4 v4 bj with ⟨a, e2⟩ | ⟨a, e2⟩
      · rw [lkN_t a] at hs
        rw [e2, Option.bind_some, if_neg (show ¬ (1 : Int32) = 0 by decide), ← hs]
        exact hi
      · rw [lkN_f a] at hs
        have hs : fb_sm (lkC h v p col) (c + 1) = fb_sm (lkC h v p col) c := hs
        rw [e2, Option.bind_some, if_pos rfl, ← hs]
        exact hi
    · have e : lkC h v p col c = 0 := by unfold lkC; rw [if_neg z]
      rw [e] at hs
      have hs : fb_sm (lkC h v p col) (c + 1) = fb_sm (lkC h v p col) c := hs
      rw [if_neg z, if_pos rfl, ← hs]
      exact hi
theorem C_likesByRows (C : cg g 11 h v s col) (O : gok h v s col) (h4 : h ≤ 4) (v4 : v ≤ 4) {p : Nat} (hp : p < 2 ^ (2 * h)) (op : isOd h p = true) : f_C_likesByRows 8 (nI p) (mk n1 n2 L xs g i A m B J wd o) = some (mk n1 n2 L xs g i A m B J wd o, nI (fb_sm (lkC h v p col) (2 ^ (2 * v)))) := by
  have hv := p256 v4
  unfold f_C_likesByRows e_C_likesByRows
  rw [sf8, rd8_1, Option.bind_some, G_wide C.g11, Option.bind_some, two_shl v4]
  exact lbr_loop C O h4 v4 hp op (2 ^ (2 * v)) am_N 0 (by omega) (by unfold am_N; omega)
theorem lks_loop (C : cg g 11 h v s col) (O : gok h v s col) (h4 : h ≤ 4) (v4 : v ≤ 4) : ∀ d N c, c + d = 2 ^ (2 * h) → d < N → f_C_likes_p50 N 8 (nI (fb_sm (lkR h v col) c)) (nI (2 ^ (2 * h))) (nI c) (mk n1 n2 L xs g i A m B J wd o) = some (mk n1 n2 L xs g i A m B J wd o, nI (fb_sm (lkR h v col) (2 ^ (2 * h)))) := by
  have hh := p256 h4
  intro d
  induction d with
  | zero =>
    intro N c hc hN
    obtain ⟨N, rfl⟩ : ∃ m, N = m + 1 := ⟨N - 1, by omega⟩
    rw [f_C_likes_p50, if_pos (nI_le (by omega) (by omega)), show c = 2 ^ (2 * h) by omega]
  | succ d ih =>
    intro N c hc hN
    obtain ⟨N, rfl⟩ : ∃ m, N = m + 1 := ⟨N - 1, by omega⟩
    have hs : fb_sm (lkR h v col) (c + 1) = fb_sm (lkR h v col) c + lkR h v col c := rfl
    have hi := ih N (c + 1) (by omega) (by omega)
    rw [f_C_likes_p50, if_neg (nI_ge (by omega) (by omega)), rd8_1, Option.bind_some, G_high C.g11, Option.bind_some, C_isOrder (by omega) h4, Option.bind_some]
    unfold f_C_likes_p77
    rw [nI_1]
    by_cases z : isOd h c = true
    · have e : lkR h v col c = fb_sm (lkC h v c col) (2 ^ (2 * v)) := by unfold lkR; rw [if_pos z]
      rw [e] at hs
      rw [if_pos z, if_neg (show ¬ (1 : Int32) = 0 by decide), C_likesByRows C O h4 v4 (by omega) z, Option.bind_some, nI_add, ← hs]
      exact hi
    · have e : lkR h v col c = 0 := by unfold lkR; rw [if_neg z]
      rw [e] at hs
      have hs : fb_sm (lkR h v col) (c + 1) = fb_sm (lkR h v col) c := hs
      rw [if_neg z, if_pos rfl, ← hs]
      exact hi
end LKB
/-! the model's orders, one behind the other -/
def dfs (n : Nat) : Nat → Nat → Nat → Nat → List Nat
  | 0, _, _, code => [code]
  | d + 1, k, been, code => enum (fun x => if been.testBit x then [] else dfs n d (k + 1) (been ||| 2 ^ x) (code + x * 2 ^ (2 * k))) 0 n
theorem dfs_perm : ∀ n : Fin 5, (dfs n.val n.val 0 0 0).Perm ((List.range (2 ^ (2 * n.val))).filter (isOd n.val)) := by decide +kernel
theorem dfs_mem : ∀ n : Fin 5, ∀ c ∈ dfs n.val n.val 0 0 0, isOd n.val c = true ∧ c < 2 ^ (2 * n.val) := by decide +kernel
def lsm (F : Nat → Nat) (l : List Nat) : Nat := (l.map F).sum
theorem lsm_app (F : Nat → Nat) (l l' : List Nat) : lsm F (l ++ l') = lsm F l + lsm F l' := by unfold lsm; rw [List.map_append, List.sum_append_nat]
theorem lsm_cong {F G : Nat → Nat} : ∀ {l : List Nat}, (∀ c ∈ l, F c = G c) → lsm F l = lsm G l := by
  intro l h
  unfold lsm
  rw [List.map_congr_left h]
theorem sm_filter (F : Nat → Nat) (p : Nat → Bool) : ∀ N, fb_sm (fun c => if p c then F c else 0) N = lsm F ((List.range N).filter p) := by
  intro N
  induction N with
  | zero => rfl
  | succ N ih =>
    have hs : fb_sm (fun c => if p c then F c else 0) (N + 1) = fb_sm (fun c => if p c then F c else 0) N + (if p N then F N else 0) := rfl
    rw [hs, List.range_succ, List.filter_append, lsm_app, ih]
    congr 1
    by_cases z : p N = true
    · rw [if_pos z, List.filter_cons_of_pos z]; rfl
    · rw [if_neg z, List.filter_cons_of_neg z]; rfl
theorem sm_dfs {n : Nat} (n4 : n ≤ 4) (F : Nat → Nat) : fb_sm (fun c => if isOd n c then F c else 0) (2 ^ (2 * n)) = lsm F (dfs n n 0 0 0) := by
  rw [sm_filter]
  have hp := dfs_perm ⟨n, by omega⟩
  exact (List.Perm.sum_nat (hp.map F)).symm
theorem dg_add : ∀ (k : Fin 4) (code : Fin 64) (x : Fin 4), code.val < 2 ^ (2 * k.val) → (∀ i : Fin 4, i.val < k.val → dg (code.val + x.val * 2 ^ (2 * k.val)) i.val = dg code.val i.val) ∧ dg (code.val + x.val * 2 ^ (2 * k.val)) k.val = x.val ∧ code.val + x.val * 2 ^ (2 * k.val) < 2 ^ (2 * (k.val + 1)) := by decide +kernel
