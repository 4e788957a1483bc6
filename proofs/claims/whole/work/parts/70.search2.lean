/-! THE MODEL'S SEARCH -/
section SRB
variable {n1 n2 L : Nat} {xs : Nat → Int32} {g : Nat → GR} {i : Nat → Int32} {A : Nat → Nat → Int32} {m : Nat → Int32} {B : Nat → Nat → Int32} {J : Nat → Int64} {wd : Int64} {o : Nat → Int64} {h v s : Nat} {col : Nat → Nat}
theorem mse_in (col0 : Nat → Nat) (M : mN B 53 h v s col0) (O : gok h v s col) (k75 : Nat → Int32 → Int32 → am_W → Option (am_W × Unit)) (x1 x2 : Int32) {k : Nat} (hk : k < h * v) :
    ∀ d n c t f m, c + d = s → t < 20000 → d + 1 < n → (∀ j, j < 67 → f j = enc h v s (updN col k c) j) → m 28 = nI t →
      ((tryC h v s col k d (c + 1) t).2 = 20000 → ∃ f', f_M_searches_p94 k75 n 51 x1 x2 (nI k) 0 (mk n1 n2 L xs g i A m (up B 59 f) J wd o) = some (mk n1 n2 L xs g i A (up (up m 28 (nI 20000)) 29 (nI 2)) (up B 59 f') J wd o, ())) ∧
      ((tryC h v s col k d (c + 1) t).2 ≠ 20000 → ∃ f', (∀ j, j < 67 → f' j = enc h v s (updN col k (tryC h v s col k d (c + 1) t).1) j) ∧ f_M_searches_p94 k75 n 51 x1 x2 (nI k) 0 (mk n1 n2 L xs g i A m (up B 59 f) J wd o) = k75 51 x1 (if (tryC h v s col k d (c + 1) t).1 = 0 then x2 + (-1) else x2 + 1) (mk n1 n2 L xs g i A (up m 28 (nI (tryC h v s col k d (c + 1) t).2)) (up B 59 f') J wd o)) := by
  have h4 := O.2.2.1
  have h64 := O.hv
  intro d
  induction d with
  | zero =>
    intro n c t f m hc ht hn hf hm
    obtain ⟨n, rfl⟩ : ∃ m, n = m + 1 := ⟨n - 1, by omega⟩
    have e3 : am_ai (mk n1 n2 L xs g i A m (up B 59 f) J wd o) 59 (3 + nI k) = some (nI c) := by
      rw [three, r_ai ar59 (by omega) (by decide), up_s, hf _ (by omega)]
      show some (nI (updN col k c k)) = _
      rw [updN_s]
    have e2 : am_ai (mk n1 n2 L xs g i A m (up B 59 f) J wd o) 53 2 = some (nI s) := ((M.up (by decide) f).gr (n1 := n1) (n2 := n2) (L := L) (xs := xs) (g := g) (i := i) (A := A) (m := m) (J := J) (wd := wd) (o := o)).sh
    rw [tryC]
    refine ⟨fun z => by have : t = 20000 := z; omega, fun _ => ⟨upd f (k + 3) (nI 0), ?_, ?_⟩⟩
    · have := enc_upd h v s _ k 0 hf
      rw [updN_updN] at this
      exact this
    · rw [f_M_searches_p94, if_neg (show ¬ ¬ (0 : Int32) = 0 by decide), rd51_17, Option.bind_some, e3, Option.bind_some, rd51_11, Option.bind_some, e2, Option.bind_some, if_pos (nI_le (by omega) (by omega))]
      unfold f_M_searches_p172 f_M_searches_p195
      rw [if_pos rfl, rd51_17, Option.bind_some, three, w_si ar59 (by omega) (by decide) (by decide), Option.bind_some, st59, up_s, up_up]
      show k75 51 x1 (x2 + -1) _ = k75 51 x1 (x2 + -1) (mk n1 n2 L xs g i A (up m 28 (nI t)) _ J wd o)
      rw [← hm, up_id]
      rfl
  | succ d ih =>
    intro n c t f m hc ht hn hf hm
    obtain ⟨n, rfl⟩ : ∃ m, n = m + 1 := ⟨n - 1, by omega⟩
    have e3 : am_ai (mk n1 n2 L xs g i A m (up B 59 f) J wd o) 59 (3 + nI k) = some (nI c) := by
      rw [three, r_ai ar59 (by omega) (by decide), up_s, hf _ (by omega)]
      show some (nI (updN col k c k)) = _
      rw [updN_s]
    have e2 : am_ai (mk n1 n2 L xs g i A m (up B 59 f) J wd o) 53 2 = some (nI s) := ((M.up (by decide) f).gr (n1 := n1) (n2 := n2) (L := L) (xs := xs) (g := g) (i := i) (A := A) (m := m) (J := J) (wd := wd) (o := o)).sh
    have hf2 : ∀ j, j < 67 → upd f (k + 3) (nI (c + 1)) j = enc h v s (updN col k (c + 1)) j := by
      have := enc_upd h v s _ k (c + 1) hf
      rw [updN_updN] at this
      exact this
    have O2 : gok h v s (updN col k (c + 1)) := updN_ok O k (by omega)
    have eth : f_M_through_1 59 (nI k) (mk n1 n2 L xs g i A (up m 28 (nI (t + 1))) (up B 59 (upd f (k + 3) (nI (c + 1)))) J wd o) = some (mk n1 n2 L xs g i A (up m 28 (nI (t + 1))) (up B 59 (upd f (k + 3) (nI (c + 1)))) J wd o, nI (cth h v col k (c + 1))) := by
      have H : mN (up B 59 (upd f (k + 3) (nI (c + 1)))) 59 h v s (updN col k (c + 1)) := fun j hj => by rw [up_s]; exact hf2 j hj
      rw [M_through1 H.gt O2 hk, updN_s, cth_upd hk]
    have step : f_M_searches_p94 k75 (n + 1) 51 x1 x2 (nI k) 0 (mk n1 n2 L xs g i A m (up B 59 f) J wd o) = f_M_searches_p154 k75 (f_M_searches_p94 k75 n) 51 x1 x2 (nI k) (if cth h v col k (c + 1) = 0 then 1 else 0) (mk n1 n2 L xs g i A (up m 28 (nI (t + 1))) (up B 59 (upd f (k + 3) (nI (c + 1)))) J wd o) := by
      have hct := cth_le h v col k (c + 1) O.1 O.2.1
      rw [f_M_searches_p94, if_neg (show ¬ ¬ (0 : Int32) = 0 by decide), rd51_17, Option.bind_some, e3, Option.bind_some, rd51_11, Option.bind_some, e2, Option.bind_some, if_neg (nI_ge (by omega) (by omega)), Option.bind_some, e3, Option.bind_some, three, w_si ar59 (by omega) (by decide) (by decide), Option.bind_some, st59, up_s, up_up, nI_1, rd51_28, Option.bind_some, hm, wr51_28, Option.bind_some, nI_1, rd51_17, Option.bind_some, eth, Option.bind_some]
      by_cases z : cth h v col k (c + 1) = 0
      · rw [if_pos z, z, if_neg (show ¬ ¬ nI 0 = (0 : Int32) from fun y => y rfl)]
      · rw [if_neg z, if_pos (nI_ne0 (by omega) (by omega))]
    rw [step, tryC]
    unfold f_M_searches_p154
    rw [rd51_28, Option.bind_some, up_s]
    by_cases q : t + 1 = 20000
    · rw [if_pos q, q]
      refine ⟨fun _ => ⟨upd f (k + 3) (nI (c + 1)), ?_⟩, fun z => absurd rfl z⟩
      rw [if_neg (show ¬ ¬ nI 20000 = (20000 : Int32) from fun z => z rfl), wr51_29, Option.bind_some]
      rfl
    · have q' : ¬ nI (t + 1) = (20000 : Int32) := by rw [show (20000 : Int32) = nI 20000 from rfl, nI_eq (by omega) (by decide)]; exact q
      rw [if_neg q, if_pos q']
      by_cases z : cth h v col k (c + 1) = 0
      · rw [if_pos z, if_pos z]
        refine ⟨fun y => absurd y q, fun _ => ⟨_, hf2, ?_⟩⟩
        obtain ⟨n, rfl⟩ : ∃ m, n = m + 1 := ⟨n - 1, by omega⟩
        rw [f_M_searches_p94, if_pos (show ¬ (1 : Int32) = 0 by decide)]
        unfold f_M_searches_p172 f_M_searches_p195
        rw [if_neg (show ¬ (1 : Int32) = 0 by decide)]
        show _ = k75 51 x1 (if c + 1 = 0 then _ else _) _
        rw [if_neg (by omega)]
      · rw [if_neg z, if_neg z]
        have hih := ih n (c + 1) (t + 1) (upd f (k + 3) (nI (c + 1))) (up m 28 (nI (t + 1))) (by omega) (by omega) (by omega) hf2 (up_s _ _ _)
        rw [up_up] at hih
        refine ⟨fun y => ?_, fun y => ?_⟩
        · obtain ⟨f', e⟩ := hih.1 y
          exact ⟨f', e⟩
        · obtain ⟨f', a, e⟩ := hih.2 y
          rw [up_up] at e
          exact ⟨f', a, e⟩
theorem mse_198 (x : Int32) (b : Nat) (hb : (0 ≤ x ∧ b = 1) ∨ (¬ 0 ≤ x ∧ b = 0)) : f_M_searches_p198 51 x (mk n1 n2 L xs g i A m B J wd o) = some (mk n1 n2 L xs g i A (up m 29 (nI b)) B J wd o, ()) := by
  unfold f_M_searches_p198 f_M_searches_p208
  rcases hb with ⟨a, rfl⟩ | ⟨a, rfl⟩
  · rw [if_pos a, wr51_29, Option.bind_some]; rfl
  · rw [if_neg a, wr51_29, Option.bind_some]; rfl
theorem mse_out (col0 : Nat → Nat) (M : mN B 53 h v s col0) (bl : List Nat) (hb : bl.length ≤ 64) (hA : lstd bl (B 66)) (hbl : ∀ k ∈ bl, k < h * v) :
    ∀ N n p f m t col, (∀ j, j < 67 → f j = enc h v s col j) → gok h v s col → m 28 = nI t → t < 20000 → p ≤ bl.length + 1 → 2 * (20000 - t) + p < N → N < n →
      ∃ f', ((srun h v s bl N p col t).1 = 1 → ∀ j, j < 67 → f' j = enc h v s (srun h v s bl N p col t).2.2 j) ∧
        f_M_searches_p75 n 51 (nI bl.length) (nI p - 1) (mk n1 n2 L xs g i A m (up B 59 f) J wd o) = some (mk n1 n2 L xs g i A (up (up m 28 (nI (srun h v s bl N p col t).2.1)) 29 (nI (srun h v s bl N p col t).1)) (up B 59 f') J wd o, ()) := by
  intro N
  induction N with
  | zero => intro n p f m t col _ _ _ _ _ hN; omega
  | succ N ih =>
    intro n p f m t col hf O ht h20 hp hN hn
    obtain ⟨n, rfl⟩ : ∃ m, n = m + 1 := ⟨n - 1, by omega⟩
    rw [f_M_searches_p75, srun]
    by_cases q0 : p = 0
    · rw [if_pos q0]
      subst q0
      have hneg : nI 0 - 1 < 0 := by decide
      refine ⟨f, fun z => absurd (show (0 : Nat) = 1 from z) (by decide), ?_⟩
      rw [if_pos hneg, mse_198 _ 0 (Or.inr ⟨by decide, rfl⟩)]
      show _ = some (mk n1 n2 L xs g i A (up (up m 28 (nI t)) 29 (nI 0)) _ J wd o, ())
      rw [← ht, up_id]
    · rw [if_neg q0]
      have hp1 : nI p - 1 = nI (p - 1) := pk_sub (b := 1) (by omega)
      rw [hp1, if_neg (nI_pos (by omega))]
      rcases Nat.lt_or_ge (p - 1) bl.length with q1 | q1
      · have hg := List.getElem?_eq_getElem q1
        have hkm := hbl _ (List.getElem_mem q1)
        have hk64 : bl[p - 1] < 64 := Nat.lt_of_lt_of_le hkm O.hv
        have hcol := O.2.2.2.2.2 _ hkm
        have h4 := O.2.2.1
        have hA' : (up B 59 f) 66 (p - 1) = nI bl[p - 1] := by rw [up_n B f (by decide)]; exact hA _ _ hg
        rw [hg, if_neg (nI_ge q1 (by omega)), rd51_27, Option.bind_some, r_ai ar66 (by omega) (by decide), Option.bind_some, hA']
        simp only []
        obtain ⟨b1, b2, b3, b4⟩ := tryC_b h v s col bl[p - 1] (s - col bl[p - 1]) (col bl[p - 1] + 1) t (by omega) (by omega) h20
        have hf0 : ∀ j, j < 67 → f j = enc h v s (updN col bl[p - 1] (col bl[p - 1])) j := by rw [updN_id]; exact hf
        have hcb := mse_in (n1 := n1) (n2 := n2) (L := L) (xs := xs) (g := g) (i := i) (A := A) (J := J) (wd := wd) (o := o) col0 M O (f_M_searches_p75 n) (nI bl.length) (nI (p - 1)) hkm (s - col bl[p - 1]) am_N (col bl[p - 1]) t f m (by omega) h20 (by unfold am_N; omega) hf0 ht
        by_cases q2 : (tryC h v s col bl[p - 1] (s - col bl[p - 1]) (col bl[p - 1] + 1) t).2 = 20000
        · obtain ⟨f', e⟩ := hcb.1 q2
          rw [if_pos q2, e]
          exact ⟨f', fun z => absurd (show (2 : Nat) = 1 from z) (by decide), rfl⟩
        · obtain ⟨f', F', e⟩ := hcb.2 q2
          rw [if_neg q2, e]
          have O' := updN_ok O bl[p - 1] b4
          by_cases q3 : (tryC h v s col bl[p - 1] (s - col bl[p - 1]) (col bl[p - 1] + 1) t).1 = 0
          · rw [if_pos q3, if_pos q3]
            rw [q3] at F' O'
            obtain ⟨f2, a1, a2⟩ := ih n (p - 1) f' (up m 28 (nI (tryC h v s col bl[p - 1] (s - col bl[p - 1]) (col bl[p - 1] + 1) t).2)) _ _ F' O' (up_s _ _ _) (by omega) (by omega) (by omega) (by omega)
            refine ⟨f2, a1, ?_⟩
            rw [up_up] at a2
            have hm1 : nI (p - 1) + -1 = nI (p - 1) - 1 := (Int32.sub_eq_add_neg _ _).symm
            rw [hm1]
            exact a2
          · rw [if_neg q3, if_neg q3]
            have := b3 q3
            obtain ⟨f2, a1, a2⟩ := ih n (p + 1) f' (up m 28 (nI (tryC h v s col bl[p - 1] (s - col bl[p - 1]) (col bl[p - 1] + 1) t).2)) _ _ F' O' (up_s _ _ _) (by omega) (by omega) (by omega) (by omega)
            refine ⟨f2, a1, ?_⟩
            rw [up_up] at a2
            have hp2 : nI (p + 1) - 1 = nI (p - 1) + 1 := by
              rw [show nI (p + 1) - 1 = nI (p + 1 - 1) from pk_sub (b := 1) (by omega), nI_1]
              congr 1
              omega
            rw [hp2] at a2
            exact a2
      · rw [List.getElem?_eq_none q1, if_pos (nI_le q1 (by omega))]
        refine ⟨f, fun _ => hf, ?_⟩
        rw [mse_198 _ 1 (Or.inl ⟨fa_of_nlt (nI_pos (by omega)), rfl⟩)]
        show _ = some (mk n1 n2 L xs g i A (up (up m 28 (nI t)) 29 (nI 1)) _ J wd o, ())
        rw [← ht, up_id]
theorem mse_list (M : mN B 53 h v s col) (O : gok h v s col) :
    ∀ d n k f, k + d = h * v → d < n → lstd (blL col k) f → ∃ f', lstd (blL col (h * v)) f' ∧ f_M_searches_p35 n 51 (nI (blL col k).length) (nI k) (mk n1 n2 L xs g i A m (up B 66 f) J wd o) = f_M_searches_p75 am_N 51 (nI (blL col (h * v)).length) 0 (mk n1 n2 L xs g i A m (up B 66 f') J wd o) := by
  have h64 := O.hv
  have h4 := O.2.2.1
  intro d
  induction d with
  | zero =>
    intro n k f hk hn hf
    obtain ⟨n, rfl⟩ : ∃ m, n = m + 1 := ⟨n - 1, by omega⟩
    have ek : k = h * v := by omega
    refine ⟨f, by rw [← ek]; exact hf, ?_⟩
    rw [f_M_searches_p35, M_cellMany (M.up (by decide) f), Option.bind_some, if_pos (nI_le (by omega) (by omega)), ek]
  | succ d ih =>
    intro n k f hk hn hf
    obtain ⟨n, rfl⟩ : ∃ m, n = m + 1 := ⟨n - 1, by omega⟩
    have hkl : k < h * v := by omega
    have ho := O.2.2.2.2.2 k hkl
    have hlen := blL_len col k
    have ecl : am_ai (mk n1 n2 L xs g i A m (up B 66 f) J wd o) 53 (3 + nI k) = some (nI (col k)) := ((M.up (by decide) f).gr (n1 := n1) (n2 := n2) (L := L) (xs := xs) (g := g) (i := i) (A := A) (m := m) (J := J) (wd := wd) (o := o)).cl (by omega)
    rw [f_M_searches_p35, M_cellMany (M.up (by decide) f), Option.bind_some, if_neg (nI_ge hkl (by omega)), rd51_11, Option.bind_some, ecl, Option.bind_some]
    unfold f_M_searches_p67
    by_cases z : col k = 0
    · have e' : blL col (k + 1) = blL col k ++ [k] := by rw [blL_succ, if_pos z]
      have el : (blL col (k + 1)).length = (blL col k).length + 1 := by rw [e', List.length_append]; rfl
      rw [z, if_pos (show nI 0 = (0 : Int32) from rfl), rd51_27, Option.bind_some, w_si ar66 (by omega) (by decide) (by decide), Option.bind_some, st66, up_s, up_up, nI_1, nI_1, ← el]
      exact ih n (k + 1) _ (by omega) (by omega) (by rw [e']; exact lstd_push hf k)
    · have e' : blL col (k + 1) = blL col k := by rw [blL_succ, if_neg z, List.append_nil]
      rw [if_neg (nI_ne0 (by omega) (by omega)), nI_1, ← e']
      exact ih n (k + 1) _ (by omega) (by omega) (by rw [e']; exact hf)
end SRB
/-- what a search comes to: how it ended, its tries, its colours -/
def sres (h v s : Nat) (col : Nat → Nat) : Nat × Nat × (Nat → Nat) := if (rcs h v col 0).length = 0 then srun h v s (blL col (h * v)) 50000 1 col 0 else (0, 0, col)
section SRC
variable {n1 n2 L : Nat} {xs : Nat → Int32} {g : Nat → GR} {i : Nat → Int32} {A : Nat → Nat → Int32} {m : Nat → Int32} {B : Nat → Nat → Int32} {J : Nat → Int64} {wd : Int64} {o : Nat → Int64} {h v s : Nat} {col : Nat → Nat}
theorem M_searches (M : mN B 53 h v s col) (O : gok h v s col) : ∃ m' B' J', f_M_searches 51 (mk n1 n2 L xs g i A m B J wd o) = some (mk n1 n2 L xs g i A m' B' J' wd o, ()) ∧ keep m B m' B' ∧ m' 28 = nI (sres h v s col).2.1 ∧ m' 29 = nI (sres h v s col).1 ∧ ((sres h v s col).1 = 1 → mN B' 59 h v s (sres h v s col).2.2) := by
  unfold f_M_searches e_M_searches sres
  have h64 := O.hv
  have hlen := blL_len col (h * v)
  have ez : (fun k => B 53 (0 + k)) = B 53 := funext (fun k => by rw [Nat.zero_add])
  rw [sf51, rd51_11, Option.bind_some, rd51_17, Option.bind_some, show (0 : Int32) = nI 0 from rfl, M_copy (o1 := 0) (o2 := 0) ar53 ar59 (by decide) (by decide) (by decide) (by decide) (by decide) (by decide), Option.bind_some, st59, ez]
  simp only []
  rw [wr51_28, Option.bind_some, wr51_29, Option.bind_some]
  have hf : ∀ j, j < 67 → fb_put (B 59) (B 53) 0 67 j = enc h v s col j := fun j hj => by rw [fb_put_in (by omega) (by omega)]; exact M j hj
  have M1 : mN (up B 59 (fb_put (B 59) (B 53) 0 67)) 53 h v s col := M.up (by decide) _
  obtain ⟨S', J', e⟩ := M_isGood (n1 := n1) (n2 := n2) (L := L) (xs := xs) (g := g) (i := i) (A := A) (m := up (up m 28 (nI 0)) 29 (nI 0)) (J := J) (wd := wd) (o := o) M1 O
  rw [e, Option.bind_some]
  by_cases z : (rcs h v col 0).length = 0
  · simp only [if_pos z]
    rw [if_pos (show ¬ (1 : Int32) = nI 0 by decide)]
    have M2 : mN (up (up B 59 (fb_put (B 59) (B 53) 0 67)) 61 S') 53 h v s col := M1.up (by decide) _
    obtain ⟨f1, l1, e1⟩ := mse_list (n1 := n1) (n2 := n2) (L := L) (xs := xs) (g := g) (i := i) (A := A) (m := up (up (up m 28 (nI 0)) 29 (nI 0)) 23 (nI (rcs h v col 0).length)) (J := J') (wd := wd) (o := o) M2 O (h * v) am_N 0 ((up (up B 59 (fb_put (B 59) (B 53) 0 67)) 61 S') 66) (by omega) (by unfold am_N; omega) (fun j k hj => by cases j <;> cases hj)
    rw [up_id] at e1
    have e1' : f_M_searches_p35 am_N 51 (nI 0) (nI 0) (mk n1 n2 L xs g i A (up (up (up m 28 (nI 0)) 29 (nI 0)) 23 (nI (rcs h v col 0).length)) (up (up B 59 (fb_put (B 59) (B 53) 0 67)) 61 S') J' wd o) = _ := e1
    rw [e1']
    have M3 : mN (up (up (up B 59 (fb_put (B 59) (B 53) 0 67)) 61 S') 66 f1) 53 h v s col := M2.up (by decide) _
    obtain ⟨f2, a1, a2⟩ := mse_out (n1 := n1) (n2 := n2) (L := L) (xs := xs) (g := g) (i := i) (A := A) (J := J') (wd := wd) (o := o) col M3 (blL col (h * v)) (by omega) (by rw [up_s]; exact l1) (fun k hk => (blL_mem.mp hk).1) 50000 am_N 1 (fb_put (B 59) (B 53) 0 67) (up (up (up m 28 (nI 0)) 29 (nI 0)) 23 (nI (rcs h v col 0).length)) 0 col hf O rfl (by decide) (by omega) (by omega) (by unfold am_N; omega)
    have eu : up (up (up (up B 59 (fb_put (B 59) (B 53) 0 67)) 61 S') 66 f1) 59 (fb_put (B 59) (B 53) 0 67) = up (up (up B 59 (fb_put (B 59) (B 53) 0 67)) 61 S') 66 f1 := by
      have := up_id (up (up (up B 59 (fb_put (B 59) (B 53) 0 67)) 61 S') 66 f1) 59
      exact this
    rw [eu] at a2
    refine ⟨_, _, _, a2, ⟨rfl, rfl, rfl, rfl, rfl, rfl, rfl, rfl, rfl⟩, rfl, rfl, fun y => ?_⟩
    intro j hj
    rw [up_s]
    exact a1 y j hj
  · simp only [if_neg z]
    rw [if_neg (show ¬ ¬ (0 : Int32) = nI 0 from fun y => y rfl)]
    exact ⟨_, _, _, rfl, ⟨rfl, rfl, rfl, rfl, rfl, rfl, rfl, rfl, rfl⟩, rfl, rfl, fun y => absurd (show (0 : Nat) = 1 from y) (by decide)⟩
end SRC
