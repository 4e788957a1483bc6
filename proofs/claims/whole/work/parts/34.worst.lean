/-! RECTANGLES THROUGH A CELL, COUNTED BOTH WAYS -/
theorem enum_cnt {α : Type} (p : α → Bool) (F : Nat → List α) : ∀ (m i : Nat), (enum F i m).countP p = fb_sm (fun j => (F (i + j)).countP p) m
  | 0, _ => rfl
  | m + 1, i => by
    rw [enum, List.countP_append, enum_cnt p F m (i + 1), Nat.add_comm m 1, fb_sm_split]
    congr 1
    · show _ = 0 + (F (i + 0)).countP p
      rw [Nat.add_zero, Nat.zero_add]
    · refine fb_sm_cong (fun k _ => ?_)
      rw [Nat.add_assoc]
def lp {α : Type} (p : α → Bool) (L : List α) (i : Nat) : Bool := match L[i]? with
  | some t => p t
  | none => false
theorem ct_list {α : Type} (p : α → Bool) : ∀ (L : List α), fb_ct (lp p L) L.length = L.countP p
  | [] => rfl
  | t :: L => by
    rw [List.length_cons, Nat.add_comm, fb_ct_split, List.countP_cons, ← ct_list p L, Nat.add_comm]
    congr 1
    · refine fb_ct_cong (fun k _ => ?_)
      unfold lp
      rw [Nat.add_comm 1 k, List.getElem?_cons_succ]
    · show 0 + (if p t then 1 else 0) = _
      rw [Nat.zero_add]
theorem lp_at {α : Type} (p : α → Bool) {L : List α} {i : Nat} (h : i < L.length) : lp p L i = p L[i] := by
  unfold lp
  rw [List.getElem?_eq_getElem h]
theorem sm_pick (u : Nat → Nat) (a b : Nat) : ∀ n, fb_sm (fun j => if a = b + j then u j else 0) n = if b ≤ a ∧ a < b + n then u (a - b) else 0
  | 0 => by rw [if_neg (by omega)]; rfl
  | n + 1 => by
    rw [fb_sm_succ, sm_pick u a b n]
    by_cases q : a = b + n
    · rw [if_neg (by omega), if_pos q, if_pos (by omega), Nat.zero_add, show a - b = n by omega]
    · rw [if_neg q, Nat.add_zero]
      by_cases z : b ≤ a ∧ a < b + n
      · rw [if_pos z, if_pos (by omega)]
      · rw [if_neg z, if_neg (by omega)]
theorem tri_sum (U : Nat → Nat) {r0 h : Nat} (hr : r0 < h) : fb_sm (fun r => fb_sm (fun j => if r0 = r then U (r + 1 + j) else if r0 = r + 1 + j then U r else 0) (h - (r + 1))) h = fb_sm (fun q => if q ≠ r0 then U q else 0) h := by
  have e1 : ∀ r, r < h → fb_sm (fun j => if r0 = r then U (r + 1 + j) else if r0 = r + 1 + j then U r else 0) (h - (r + 1)) = if r < r0 then U r else if r = r0 then fb_sm (fun j => U (r0 + 1 + j)) (h - (r0 + 1)) else 0 := by
    intro r hrh
    rcases Nat.lt_trichotomy r r0 with q | q | q
    · rw [if_pos q]
      have e2 : fb_sm (fun j => if r0 = r then U (r + 1 + j) else if r0 = r + 1 + j then U r else 0) (h - (r + 1)) = fb_sm (fun j => if r0 = r + 1 + j then (fun _ => U r) j else 0) (h - (r + 1)) :=
        fb_sm_cong (fun j _ => by rw [if_neg (by omega)])
      rw [e2, sm_pick, if_pos (by omega)]
    · subst q
      rw [if_neg (by omega), if_pos rfl]
      exact fb_sm_cong (fun j _ => by rw [if_pos rfl])
    · rw [if_neg (by omega), if_neg (by omega)]
      have e2 : fb_sm (fun j => if r0 = r then U (r + 1 + j) else if r0 = r + 1 + j then U r else 0) (h - (r + 1)) = fb_sm (fun _ => 0) (h - (r + 1)) :=
        fb_sm_cong (fun j _ => by rw [if_neg (by omega), if_neg (by omega)])
      rw [e2, fb_sm_z]
  rw [fb_sm_cong e1]
  have hs : h = r0 + (1 + (h - (r0 + 1))) := by omega
  have split : ∀ F : Nat → Nat, fb_sm F h = fb_sm F r0 + (F r0 + fb_sm (fun k => F (r0 + (1 + k))) (h - (r0 + 1))) := by
    intro F
    conv => lhs; rw [hs]
    rw [fb_sm_split, fb_sm_split]
    congr 1
    show 0 + F (r0 + 0) + _ = _
    rw [Nat.zero_add, Nat.add_zero]
  rw [split, split]
  congr 1
  · exact fb_sm_cong (fun q hq => by rw [if_pos hq, if_pos (by omega)])
  · rw [if_neg (by omega), if_pos rfl, if_neg (by omega), Nat.zero_add]
    have z : fb_sm (fun k => if r0 + (1 + k) < r0 then U (r0 + (1 + k)) else if r0 + (1 + k) = r0 then fb_sm (fun j => U (r0 + 1 + j)) (h - (r0 + 1)) else 0) (h - (r0 + 1)) = fb_sm (fun _ => 0) (h - (r0 + 1)) :=
      fb_sm_cong (fun k _ => by rw [if_neg (by omega), if_neg (by omega)])
    rw [z, fb_sm_z, Nat.add_zero]
    exact fb_sm_cong (fun k _ => by rw [if_pos (by omega), Nat.add_assoc])
theorem fr_symr (v : Nat) (col : Nat → Nat) (r q c d : Nat) : fr v col r q c d ≠ 0 ↔ fr v col q r c d ≠ 0 := by
  constructor
  · intro hh
    have h1 := (fr_iff v col r q c d hh).mp rfl
    rw [(fr_iff v col q r c d hh).mpr ⟨h1.2.2.1, h1.2.2.2, h1.1, h1.2.1⟩]; exact hh
  · intro hh
    have h1 := (fr_iff v col q r c d hh).mp rfl
    rw [(fr_iff v col r q c d hh).mpr ⟨h1.2.2.1, h1.2.2.2, h1.1, h1.2.1⟩]; exact hh
theorem fr_symc (v : Nat) (col : Nat → Nat) (r q c d : Nat) : fr v col r q c d ≠ 0 ↔ fr v col r q d c ≠ 0 := by
  constructor
  · intro hh
    have h1 := (fr_iff v col r q c d hh).mp rfl
    rw [(fr_iff v col r q d c hh).mpr ⟨h1.2.1, h1.1, h1.2.2.2, h1.2.2.1⟩]; exact hh
  · intro hh
    have h1 := (fr_iff v col r q d c hh).mp rfl
    rw [(fr_iff v col r q c d hh).mpr ⟨h1.2.1, h1.1, h1.2.2.2, h1.2.2.1⟩]; exact hh
theorem cell_eq {v k r c : Nat} (hc : c < v) : k = r * v + c ↔ k / v = r ∧ k % v = c := by
  constructor
  · intro e
    subst e
    exact ⟨by rw [Nat.add_comm, Nat.add_mul_div_right _ _ (by omega), Nat.div_eq_of_lt hc, Nat.zero_add], by rw [Nat.add_comm, Nat.add_mul_mod_self_right, Nat.mod_eq_of_lt hc]⟩
  · rintro ⟨h1, h2⟩
    have := Nat.div_add_mod k v
    rw [h1, h2, Nat.mul_comm] at this
    omega
theorem cr4_bit (v : Nat) (t : Nat × Nat × Nat × Nat) (k : Nat) : (cr4 v t).testBit k = (decide (k = t.1 * v + t.2.2.1) || decide (k = t.1 * v + t.2.2.2) || decide (k = t.2.1 * v + t.2.2.1) || decide (k = t.2.1 * v + t.2.2.2)) := by
  unfold cr4
  rw [Nat.testBit_or, Nat.testBit_or, Nat.testBit_or, bit_pow, bit_pow, bit_pow, bit_pow]
  have e : ∀ a b : Nat, decide (a = b) = decide (b = a) := fun a b => decide_eq_decide.mpr ⟨fun h => h.symm, fun h => h.symm⟩
  rw [e (t.1 * v + t.2.2.1), e (t.1 * v + t.2.2.2), e (t.2.1 * v + t.2.2.1), e (t.2.1 * v + t.2.2.2)]
theorem blk_hit {v : Nat} (col : Nat → Nat) {k : Nat} (hv : 0 < v) {r q : Nat} : (blk v col 0 r q).countP (fun t => (cr4 v t).testBit k) = if k / v = r ∨ k / v = q then fb_sm (fun d => if d ≠ k % v then (if fr v col r q (k % v) d ≠ 0 then 1 else 0) else 0) v else 0 := by
  have hm : k % v < v := Nat.mod_lt _ hv
  unfold blk
  rw [enum_cnt]
  have e1 : ∀ c, c < v → (blC v col 0 r q (0 + c)).countP (fun t => (cr4 v t).testBit k) = fb_sm (fun j => if (k / v = r ∨ k / v = q) ∧ (k % v = c ∨ k % v = c + 1 + j) ∧ fr v col r q c (c + 1 + j) ≠ 0 then 1 else 0) (v - (c + 1)) := by
    intro c hc
    unfold blC
    rw [enum_cnt, Nat.zero_add]
    refine fb_sm_cong (fun j hj => ?_)
    by_cases z : fr v col r q c (c + 1 + j) ≠ 0
    · rw [if_pos ((okc_0 _).mpr z), List.countP_singleton, cr4_bit]
      simp only [Bool.or_eq_true, decide_eq_true_eq, cell_eq hc, cell_eq (show c + 1 + j < v by omega)]
      by_cases y : (k / v = r ∨ k / v = q) ∧ (k % v = c ∨ k % v = c + 1 + j)
      · rw [if_pos (by rcases y with ⟨y1 | y1, y2 | y2⟩ <;> simp [y1, y2]), if_pos ⟨y.1, y.2, z⟩]
      · rw [if_neg (by
          rintro (((⟨a, b⟩ | ⟨a, b⟩) | ⟨a, b⟩) | ⟨a, b⟩)
          · exact y ⟨Or.inl a, Or.inl b⟩
          · exact y ⟨Or.inl a, Or.inr b⟩
          · exact y ⟨Or.inr a, Or.inl b⟩
          · exact y ⟨Or.inr a, Or.inr b⟩), if_neg (fun hh => y ⟨hh.1, hh.2.1⟩)]
    · rw [if_neg (fun hh => z ((okc_0 _).mp hh)), if_neg (fun hh => z hh.2.2)]
      rfl
  rw [fb_sm_cong e1]
  by_cases y : k / v = r ∨ k / v = q
  · rw [if_pos y, ← tri_sum (fun d => if fr v col r q (k % v) d ≠ 0 then 1 else 0) hm]
    refine fb_sm_cong (fun c hc => fb_sm_cong (fun j hj => ?_))
    by_cases z1 : k % v = c
    · rw [if_pos z1]
      subst z1
      by_cases z3 : fr v col r q (k % v) (k % v + 1 + j) ≠ 0
      · rw [if_pos ⟨y, Or.inl rfl, z3⟩, if_pos z3]
      · rw [if_neg (fun hh => z3 hh.2.2), if_neg z3]
    · rw [if_neg z1]
      by_cases z2 : k % v = c + 1 + j
      · rw [if_pos z2]
        have hsym := fr_symc v col r q c (c + 1 + j)
        rw [← z2] at hsym ⊢
        by_cases z3 : fr v col r q (k % v) c ≠ 0
        · rw [if_pos ⟨y, Or.inr rfl, hsym.mpr z3⟩, if_pos z3]
        · rw [if_neg (fun hh => z3 (hsym.mp hh.2.2)), if_neg z3]
      · rw [if_neg z2, if_neg (fun hh => hh.2.1.elim z1 z2)]
  · rw [if_neg y]
    have e3 : (fun c => fb_sm (fun j => if (k / v = r ∨ k / v = q) ∧ (k % v = c ∨ k % v = c + 1 + j) ∧ fr v col r q c (c + 1 + j) ≠ 0 then 1 else 0) (v - (c + 1))) = fun _ => 0 := by
      funext c
      have : (fun j => if (k / v = r ∨ k / v = q) ∧ (k % v = c ∨ k % v = c + 1 + j) ∧ fr v col r q c (c + 1 + j) ≠ 0 then 1 else 0) = fun _ => 0 := by
        funext j
        rw [if_neg (fun hh => y hh.1)]
      rw [this, fb_sm_z]
    rw [e3, fb_sm_z]
theorem hit_cnt {h v : Nat} {col : Nat → Nat} {k : Nat} (hk : k < h * v) : (rcs h v col 0).countP (fun t => (cr4 v t).testBit k) = cth h v col k (col k) := by
  have hv0 : 0 < v := by
    rcases Nat.eq_zero_or_pos v with z | z
    · rw [z, Nat.mul_zero] at hk; omega
    · exact z
  have hr : k / v < h := Nat.div_lt_of_lt_mul (by rw [Nat.mul_comm]; exact hk)
  unfold rcs
  rw [enum_cnt, ← th_cth hk]
  have e1 : ∀ r, r < h → (rcR h v col 0 (0 + r)).countP (fun t => (cr4 v t).testBit k) = fb_sm (fun j => if k / v = r then (fun q => fb_sm (fun d => if d ≠ k % v then (if fr v col (k / v) q (k % v) d ≠ 0 then 1 else 0) else 0) v) (r + 1 + j) else if k / v = r + 1 + j then (fun q => fb_sm (fun d => if d ≠ k % v then (if fr v col (k / v) q (k % v) d ≠ 0 then 1 else 0) else 0) v) r else 0) (h - (r + 1)) := by
    intro r hrh
    unfold rcR
    rw [enum_cnt, Nat.zero_add]
    refine fb_sm_cong (fun j hj => ?_)
    rw [blk_hit col hv0]
    by_cases z1 : k / v = r
    · rw [if_pos (Or.inl z1), if_pos z1]
      subst z1
      rfl
    · rw [if_neg z1]
      by_cases z2 : k / v = r + 1 + j
      · rw [if_pos (Or.inr z2), if_pos z2]
        refine fb_sm_cong (fun d _ => ?_)
        have hsym := fr_symr v col r (r + 1 + j) (k % v) d
        rw [← z2] at hsym ⊢
        by_cases z3 : fr v col (k / v) r (k % v) d ≠ 0
        · rw [if_pos z3, if_pos (hsym.mpr z3)]
        · rw [if_neg z3, if_neg (fun hh => z3 (hsym.mp hh))]
      · rw [if_neg z2, if_neg (fun hh => hh.elim z1 z2)]
  rw [fb_sm_cong e1]
  refine (tri_sum (fun q => fb_sm (fun d => if d ≠ k % v then (if fr v col (k / v) q (k % v) d ≠ 0 then 1 else 0) else 0) v) hr).trans ?_
  refine fb_sm_cong (fun q _ => ?_)
  rw [ct_sm]
  by_cases z : q ≠ k / v
  · rw [if_pos z]
    refine fb_sm_cong (fun d _ => ?_)
    unfold thP
    by_cases z1 : d ≠ k % v <;> by_cases z2 : fr v col (k / v) q (k % v) d ≠ 0 <;> simp [z, z1, z2]
  · rw [if_neg z]
    have : (fun d => if thP v col k q d = true then 1 else 0) = fun _ => 0 := by
      funext d
      unfold thP
      simp only [ne_eq, Decidable.not_not] at z
      simp [z]
    rw [this, fb_sm_z]
theorem cth_upd {h v : Nat} {col : Nat → Nat} {k : Nat} (hk : k < h * v) (c c' : Nat) : cth h v (updN col k c') k c = cth h v col k c := by
  have hv0 : 0 < v := by
    rcases Nat.eq_zero_or_pos v with z | z
    · rw [z, Nat.mul_zero] at hk; omega
    · exact z
  have hm : k % v < v := Nat.mod_lt _ hv0
  unfold cth
  split
  · rfl
  · refine fb_sm_cong (fun q _ => ?_)
    unfold cthR
    by_cases z : q ≠ k / v
    · have e1 : ∀ d, d < v → updN col k c' (q * v + d) = col (q * v + d) := by
        intro d hd
        refine updN_n col (fun hh => ?_)
        have := (cell_eq hd).mp hh.symm
        exact z this.1.symm
      rw [e1 _ hm]
      split
      · refine fb_ct_cong (fun d hd => ?_)
        rw [e1 d hd]
        by_cases z1 : d ≠ k % v
        · have : updN col k c' (k / v * v + d) = col (k / v * v + d) := by
            refine updN_n col (fun hh => ?_)
            have := (cell_eq hd).mp hh.symm
            exact z1 this.2.symm
          rw [this]
        · simp [z1]
      · rfl
    · rw [if_neg (fun hh => z hh.1), if_neg (fun hh => z hh.1)]
