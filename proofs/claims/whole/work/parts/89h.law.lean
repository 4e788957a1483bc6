/-! THE LAW -/
theorem sw31_all {α : Type} (P : α → Prop) (x : Int32) (t0 t1 t2 t3 t4 t5 t6 t7 t8 t9 t10 t11 t12 t13 t14 t15 t16 t17 t18 t19 t20 t21 t22 t23 t24 t25 t26 t27 t28 t29 t30 td : α) (h0 : P t0) (h1 : P t1) (h2 : P t2) (h3 : P t3) (h4 : P t4) (h5 : P t5) (h6 : P t6) (h7 : P t7) (h8 : P t8) (h9 : P t9) (h10 : P t10) (h11 : P t11) (h12 : P t12) (h13 : P t13) (h14 : P t14) (h15 : P t15) (h16 : P t16) (h17 : P t17) (h18 : P t18) (h19 : P t19) (h20 : P t20) (h21 : P t21) (h22 : P t22) (h23 : P t23) (h24 : P t24) (h25 : P t25) (h26 : P t26) (h27 : P t27) (h28 : P t28) (h29 : P t29) (h30 : P t30) (hd : P td) : P (am_sw31 x t0 t1 t2 t3 t4 t5 t6 t7 t8 t9 t10 t11 t12 t13 t14 t15 t16 t17 t18 t19 t20 t21 t22 t23 t24 t25 t26 t27 t28 t29 t30 td) := by
  unfold am_sw31
  by_cases q0 : x = 0
  · rw [if_pos q0]
    exact h0
  rw [if_neg q0]
  by_cases q1 : x = 1
  · rw [if_pos q1]
    exact h1
  rw [if_neg q1]
  by_cases q2 : x = 2
  · rw [if_pos q2]
    exact h2
  rw [if_neg q2]
  by_cases q3 : x = 3
  · rw [if_pos q3]
    exact h3
  rw [if_neg q3]
  by_cases q4 : x = 4
  · rw [if_pos q4]
    exact h4
  rw [if_neg q4]
  by_cases q5 : x = 5
  · rw [if_pos q5]
    exact h5
  rw [if_neg q5]
  by_cases q6 : x = 6
  · rw [if_pos q6]
    exact h6
  rw [if_neg q6]
  by_cases q7 : x = 7
  · rw [if_pos q7]
    exact h7
  rw [if_neg q7]
  by_cases q8 : x = 8
  · rw [if_pos q8]
    exact h8
  rw [if_neg q8]
  by_cases q9 : x = 9
  · rw [if_pos q9]
    exact h9
  rw [if_neg q9]
  by_cases q10 : x = 10
  · rw [if_pos q10]
    exact h10
  rw [if_neg q10]
  by_cases q11 : x = 11
  · rw [if_pos q11]
    exact h11
  rw [if_neg q11]
  by_cases q12 : x = 12
  · rw [if_pos q12]
    exact h12
  rw [if_neg q12]
  by_cases q13 : x = 13
  · rw [if_pos q13]
    exact h13
  rw [if_neg q13]
  by_cases q14 : x = 14
  · rw [if_pos q14]
    exact h14
  rw [if_neg q14]
  by_cases q15 : x = 15
  · rw [if_pos q15]
    exact h15
  rw [if_neg q15]
  by_cases q16 : x = 16
  · rw [if_pos q16]
    exact h16
  rw [if_neg q16]
  by_cases q17 : x = 17
  · rw [if_pos q17]
    exact h17
  rw [if_neg q17]
  by_cases q18 : x = 18
  · rw [if_pos q18]
    exact h18
  rw [if_neg q18]
  by_cases q19 : x = 19
  · rw [if_pos q19]
    exact h19
  rw [if_neg q19]
  by_cases q20 : x = 20
  · rw [if_pos q20]
    exact h20
  rw [if_neg q20]
  by_cases q21 : x = 21
  · rw [if_pos q21]
    exact h21
  rw [if_neg q21]
  by_cases q22 : x = 22
  · rw [if_pos q22]
    exact h22
  rw [if_neg q22]
  by_cases q23 : x = 23
  · rw [if_pos q23]
    exact h23
  rw [if_neg q23]
  by_cases q24 : x = 24
  · rw [if_pos q24]
    exact h24
  rw [if_neg q24]
  by_cases q25 : x = 25
  · rw [if_pos q25]
    exact h25
  rw [if_neg q25]
  by_cases q26 : x = 26
  · rw [if_pos q26]
    exact h26
  rw [if_neg q26]
  by_cases q27 : x = 27
  · rw [if_pos q27]
    exact h27
  rw [if_neg q27]
  by_cases q28 : x = 28
  · rw [if_pos q28]
    exact h28
  rw [if_neg q28]
  by_cases q29 : x = 29
  · rw [if_pos q29]
    exact h29
  rw [if_neg q29]
  by_cases q30 : x = 30
  · rw [if_pos q30]
    exact h30
  rw [if_neg q30]
  exact hd
/-- a branch of the law that goes on, both objects alike -/
def GoodE (K : am_W → Option (am_W × Int32)) (n1 n2 L : Nat) (xs : Nat → Int32) (E : Option (am_W × Int32)) : Prop := ∃ (n1' n2' : Nat) (g : Nat → GR) (i : Nat → Int32) (A : Nat → Nat → Int32) (m : Nat → Int32) (B : Nat → Nat → Int32) (J : Nat → Int64) (wd : Int64) (o : Nat → Int64), E = K (mk n1' n2' L xs g i A m B J wd o) ∧ INV g i A m B ∧ n1' ≤ n1 + 1 ∧ n2' ≤ n2 + 6
section LWA
variable {n1 n2 L : Nat} {xs : Nat → Int32} {g : Nat → GR} {i : Nat → Int32} {A : Nat → Nat → Int32} {m : Nat → Int32} {B : Nat → Nat → Int32} {J : Nat → Int64} {wd : Int64} {o : Nat → Int64} {k : Nat} {K : am_W → Option (am_W × Int32)}
theorem sc1 (hk : k + 5 < L) (hL : L ≤ 3072) : am_ai (mk n1 n2 L xs g i A m B J wd o) 0 (nI k + 1) = some (xs (k + 1)) := by
  rw [nI_1]; exact r_ai ar0 (by omega) (by omega)
theorem sc2 (hk : k + 5 < L) (hL : L ≤ 3072) : am_ai (mk n1 n2 L xs g i A m B J wd o) 0 (nI k + 2) = some (xs (k + 2)) := by
  rw [show (2 : Int32) = nI 2 from rfl, nI_add]; exact r_ai ar0 (by omega) (by omega)
theorem sc3 (hk : k + 5 < L) (hL : L ≤ 3072) : am_ai (mk n1 n2 L xs g i A m B J wd o) 0 (nI k + 3) = some (xs (k + 3)) := by
  rw [show (3 : Int32) = nI 3 from rfl, nI_add]; exact r_ai ar0 (by omega) (by omega)
theorem sc4 (hk : k + 5 < L) (hL : L ≤ 3072) : am_ai (mk n1 n2 L xs g i A m B J wd o) 0 (nI k + 4) = some (xs (k + 4)) := by
  rw [show (4 : Int32) = nI 4 from rfl, nI_add]; exact r_ai ar0 (by omega) (by omega)
theorem sc5 (hk : k + 5 < L) (hL : L ≤ 3072) : am_ai (mk n1 n2 L xs g i A m B J wd o) 0 (nI k + 5) = some (xs (k + 5)) := by
  rw [show (5 : Int32) = nI 5 from rfl, nI_add]; exact r_ai ar0 (by omega) (by omega)
theorem br0 {F G : am_W → Option (am_W × Int32)} (hp : pOk F G) (H : INV g i A m B) : GoodE K n1 n2 L xs ((F (mk n1 n2 L xs g i A m B J wd o)).bind fun r => ((G r.1).bind fun r2 => (if r.2 = r2.2 then (K r2.1) else (some (r2.1, 0))))) := by
  obtain ⟨r, g', i', A', e1, m', B', J', wd', e2, H'⟩ := hp n1 n2 L xs g i A m B J wd o H
  refine ⟨n1, n2, g', i', A', m', B', J', wd', o, ?_, H', by omega, by omega⟩
  rw [e1, Option.bind_some, e2, Option.bind_some, if_pos rfl]
theorem br1 {F G : Int32 → am_W → Option (am_W × Int32)} (hp : ∀ x, pOk (F x) (G x)) (hk : k + 5 < L) (hL : L ≤ 3072) (H : INV g i A m B) : GoodE K n1 n2 L xs ((am_ai (mk n1 n2 L xs g i A m B J wd o) 0 (nI k + 1)).bind fun a => ((F a (mk n1 n2 L xs g i A m B J wd o)).bind fun r => ((am_ai r.1 0 (nI k + 1)).bind fun c => ((G c r.1).bind fun r2 => (if r.2 = r2.2 then (K r2.1) else (some (r2.1, 0))))))) := by
  obtain ⟨r, g', i', A', e1, m', B', J', wd', e2, H'⟩ := hp (xs (k + 1)) n1 n2 L xs g i A m B J wd o H
  refine ⟨n1, n2, g', i', A', m', B', J', wd', o, ?_, H', by omega, by omega⟩
  rw [sc1 hk hL, Option.bind_some, e1, Option.bind_some, sc1 hk hL, Option.bind_some, e2, Option.bind_some, if_pos rfl]
theorem br2 {F G : Int32 → Int32 → am_W → Option (am_W × Int32)} (hp : ∀ x y, pOk (F x y) (G x y)) (hk : k + 5 < L) (hL : L ≤ 3072) (H : INV g i A m B) : GoodE K n1 n2 L xs ((am_ai (mk n1 n2 L xs g i A m B J wd o) 0 (nI k + 1)).bind fun a => ((am_ai (mk n1 n2 L xs g i A m B J wd o) 0 (nI k + 2)).bind fun b => ((F a b (mk n1 n2 L xs g i A m B J wd o)).bind fun r => ((am_ai r.1 0 (nI k + 1)).bind fun c => ((am_ai r.1 0 (nI k + 2)).bind fun d => ((G c d r.1).bind fun r2 => (if r.2 = r2.2 then (K r2.1) else (some (r2.1, 0))))))))) := by
  obtain ⟨r, g', i', A', e1, m', B', J', wd', e2, H'⟩ := hp (xs (k + 1)) (xs (k + 2)) n1 n2 L xs g i A m B J wd o H
  refine ⟨n1, n2, g', i', A', m', B', J', wd', o, ?_, H', by omega, by omega⟩
  rw [sc1 hk hL, Option.bind_some, sc2 hk hL, Option.bind_some, e1, Option.bind_some, sc1 hk hL, Option.bind_some, sc2 hk hL, Option.bind_some, e2, Option.bind_some, if_pos rfl]
theorem br3 {F G : Int32 → Int32 → Int32 → am_W → Option (am_W × Int32)} (hp : ∀ x y z, pOk (F x y z) (G x y z)) (hk : k + 5 < L) (hL : L ≤ 3072) (H : INV g i A m B) : GoodE K n1 n2 L xs ((am_ai (mk n1 n2 L xs g i A m B J wd o) 0 (nI k + 1)).bind fun a => ((am_ai (mk n1 n2 L xs g i A m B J wd o) 0 (nI k + 2)).bind fun b => ((am_ai (mk n1 n2 L xs g i A m B J wd o) 0 (nI k + 3)).bind fun c => ((F a b c (mk n1 n2 L xs g i A m B J wd o)).bind fun r => ((am_ai r.1 0 (nI k + 1)).bind fun a' => ((am_ai r.1 0 (nI k + 2)).bind fun b' => ((am_ai r.1 0 (nI k + 3)).bind fun c' => ((G a' b' c' r.1).bind fun r2 => (if r.2 = r2.2 then (K r2.1) else (some (r2.1, 0))))))))))) := by
  obtain ⟨r, g', i', A', e1, m', B', J', wd', e2, H'⟩ := hp (xs (k + 1)) (xs (k + 2)) (xs (k + 3)) n1 n2 L xs g i A m B J wd o H
  refine ⟨n1, n2, g', i', A', m', B', J', wd', o, ?_, H', by omega, by omega⟩
  rw [sc1 hk hL, Option.bind_some, sc2 hk hL, Option.bind_some, sc3 hk hL, Option.bind_some, e1, Option.bind_some, sc1 hk hL, Option.bind_some, sc2 hk hL, Option.bind_some, sc3 hk hL, Option.bind_some, e2, Option.bind_some, if_pos rfl]
theorem br5 {F G : Int32 → Int32 → Int32 → Int32 → Int32 → am_W → Option (am_W × Int32)} (hp : ∀ x y z u v, pOk (F x y z u v) (G x y z u v)) (hk : k + 5 < L) (hL : L ≤ 3072) (H : INV g i A m B) : GoodE K n1 n2 L xs ((am_ai (mk n1 n2 L xs g i A m B J wd o) 0 (nI k + 1)).bind fun a => ((am_ai (mk n1 n2 L xs g i A m B J wd o) 0 (nI k + 2)).bind fun b => ((am_ai (mk n1 n2 L xs g i A m B J wd o) 0 (nI k + 3)).bind fun c => ((am_ai (mk n1 n2 L xs g i A m B J wd o) 0 (nI k + 4)).bind fun d => ((am_ai (mk n1 n2 L xs g i A m B J wd o) 0 (nI k + 5)).bind fun e => ((F a b c d e (mk n1 n2 L xs g i A m B J wd o)).bind fun r => ((am_ai r.1 0 (nI k + 1)).bind fun a' => ((am_ai r.1 0 (nI k + 2)).bind fun b' => ((am_ai r.1 0 (nI k + 3)).bind fun c' => ((am_ai r.1 0 (nI k + 4)).bind fun d' => ((am_ai r.1 0 (nI k + 5)).bind fun e' => ((G a' b' c' d' e' r.1).bind fun r2 => (if r.2 = r2.2 then (K r2.1) else (some (r2.1, 0))))))))))))))) := by
  obtain ⟨r, g', i', A', e1, m', B', J', wd', e2, H'⟩ := hp (xs (k + 1)) (xs (k + 2)) (xs (k + 3)) (xs (k + 4)) (xs (k + 5)) n1 n2 L xs g i A m B J wd o H
  refine ⟨n1, n2, g', i', A', m', B', J', wd', o, ?_, H', by omega, by omega⟩
  rw [sc1 hk hL, Option.bind_some, sc2 hk hL, Option.bind_some, sc3 hk hL, Option.bind_some, sc4 hk hL, Option.bind_some, sc5 hk hL, Option.bind_some, e1, Option.bind_some, sc1 hk hL, Option.bind_some, sc2 hk hL, Option.bind_some, sc3 hk hL, Option.bind_some, sc4 hk hL, Option.bind_some, sc5 hk hL, Option.bind_some, e2, Option.bind_some, if_pos rfl]
theorem M_thrown : f_M_thrown 51 (mk n1 n2 L xs g i A m B J wd o) = some (mk n1 n2 L xs g i A m B J wd o, m 0) := by
  unfold f_M_thrown e_M_thrown
  rw [sf51, rd51_0, Option.bind_some]
theorem xo_some (r : Int64) : am_xo 70 (mk n1 n2 L xs g i A m B J wd o, some r) = some (mk n1 n2 L xs g i A m B J wd (vp_updL o 0 r), 0) := by
  unfold am_xo
  have e : am_sj (mk n1 n2 L xs g i A m B J wd o) 70 0 r = some (mk n1 n2 L xs g i A m B J wd (vp_updL o 0 r)) := by
    have := w_sj (w := mk n1 n2 L xs g i A m B J wd o) (j := 0) ar70 (by decide) (by decide) (by decide) r
    rw [st70] at this
    exact this
  rw [if_neg (by decide)]
  simp only []
  rw [e, Option.bind_some]
theorem xo_none : am_xo 70 (mk n1 n2 L xs g i A m B J wd o, none) = some (mk n1 n2 L xs g i A m B J wd o, 1) := by
  unfold am_xo
  rw [if_neg (by decide)]
theorem out0 (r : Int64) : am_aj (mk n1 n2 L xs g i A m B J wd (vp_updL o 0 r)) 70 0 = some r := by
  have := r_aj (w := mk n1 n2 L xs g i A m B J wd (vp_updL o 0 r)) (j := 0) ar70 (by decide) (by decide)
  rw [pk_uLs] at this
  exact this
theorem br_having (hk : k + 5 < L) (hL : L ≤ 3072) (H : INV g i A m B) : GoodE K n1 n2 L xs ((am_ai (mk n1 n2 L xs g i A m B J wd o) 0 (nI k + 1)).bind fun v69 => (((f_C_having (8) (v69) (mk n1 n2 L xs g i A m B J wd o)).bind (am_xo 70)).bind fun r71 => ((am_ai r71.1 0 (nI k + 1)).bind fun v73 => ((f_M_having (51) (v73) r71.1).bind fun r75 => ((f_M_thrown (51) r75.1).bind fun r77 => (if r77.2 = r71.2 then (if ¬ r71.2 = 0 then (K r77.1) else ((am_aj r77.1 70 0).bind fun v81 => (if (lg_cmp v81 r75.2) = 0 then (K r77.1) else (some (r77.1, 0))))) else (some (r77.1, 0)))))))) := by
  obtain ⟨⟨h, v, s, col, O, C, M⟩, -⟩ := id H
  rcases q_having (n1 := n1) (n2 := n2) (L := L) (xs := xs) (i := i) (A := A) (m := m) (J := J) (wd := wd) (o := o) C M O.1 (xs (k + 1)) with ⟨r, e1, e2⟩ | ⟨e1, e2⟩
  · refine ⟨n1, n2, g, i, A, up m 0 0, B, J, wd, vp_updL o 0 r, ?_, INV_keep H (keep0 m B 0), by omega, by omega⟩
    rw [sc1 hk hL, Option.bind_some, e1, Option.bind_some, xo_some, Option.bind_some, sc1 hk hL, Option.bind_some, e2, Option.bind_some, M_thrown, Option.bind_some, up_s, if_pos rfl, if_neg (fun q => q rfl), out0, Option.bind_some, if_pos (by rw [lg_cmp_eq])]
  · refine ⟨n1 + 1, n2 + 6, g, i, A, up (up m 0 0) 0 1, B, J, wd, o, ?_, INV_keep H (keep_t (keep0 m B 0) (keep0 _ _ 1)), by omega, by omega⟩
    rw [sc1 hk hL, Option.bind_some, e1, Option.bind_some, xo_none, Option.bind_some, sc1 hk hL, Option.bind_some, e2, Option.bind_some, M_thrown, Option.bind_some, up_s, if_pos rfl, if_pos (show ¬ (1 : Int32) = 0 by decide)]
theorem good_uniq {Y Y' : Nat} (h : goodM g Y) (h' : goodM g Y') : lN Y = lN Y' := by
  have a := h 0 0 0 (fun _ => 0) (fun _ => 0) (fun _ _ => 0) (fun _ => 0) (fun _ _ => 0) (fun _ => 0) 0 (fun _ => 0)
  have b := h' 0 0 0 (fun _ => 0) (fun _ => 0) (fun _ _ => 0) (fun _ => 0) (fun _ _ => 0) (fun _ => 0) 0 (fun _ => 0)
  rw [a] at b
  exact Option.some.inj (Prod.mk.inj (Option.some.inj b)).2
theorem good_bad {Y : Nat} (h : goodM g Y) (h' : badM g) : False := by
  have a := h 0 0 0 (fun _ => 0) (fun _ => 0) (fun _ _ => 0) (fun _ => 0) (fun _ _ => 0) (fun _ => 0) 0 (fun _ => 0)
  have b := h' 0 0 0 (fun _ => 0) (fun _ => 0) (fun _ _ => 0) (fun _ => 0) (fun _ _ => 0) (fun _ => 0) 0 (fun _ => 0)
  rw [a] at b
  cases (Prod.mk.inj (Option.some.inj b)).2
theorem br_mend (H : INV g i A m B) : GoodE K n1 n2 L xs (((f_C_mend (8) (mk n1 n2 L xs g i A m B J wd o)).bind (am_xo 70)).bind fun r129 => ((f_M_mend (51) r129.1).bind fun r131 => ((f_M_thrown (51) r131.1).bind fun r133 => (if r133.2 = r129.2 then (if ¬ r129.2 = 0 then (K r133.1) else ((am_aj r133.1 70 0).bind fun v137 => (if (lg_cmp v137 r131.2) = 0 then (K r133.1) else (some (r133.1, 0))))) else (some (r133.1, 0)))))) := by
  obtain ⟨⟨h, v, s, col, O, C, M⟩, -⟩ := id H
  obtain ⟨m0, B0, J0, -, hc⟩ := q_mend (n1 := n1) (n2 := n2) (L := L) (xs := xs) (i := i) (A := A) (m := m) (J := J) (wd := wd) (o := o) C M O.1
  rcases hc with ⟨Y, gd, -, -⟩ | ⟨bd, -, -⟩
  · obtain ⟨m', B', J', K', hc'⟩ := q_mend (n1 := n1) (n2 := n2) (L := L) (xs := xs) (i := i) (A := A) (m := m) (J := J) (wd := wd) (o := vp_updL o 0 (lN Y)) C M O.1
    rcases hc' with ⟨Y', gd', z0, e⟩ | ⟨bd, -, -⟩
    · have eY := good_uniq gd gd'
      refine ⟨n1, n2, g, i, A, m', B', J', wd, vp_updL o 0 (lN Y), ?_, INV_keep H K', by omega, by omega⟩
      rw [gd, Option.bind_some, xo_some, Option.bind_some, e, Option.bind_some, M_thrown, Option.bind_some, z0, if_pos rfl, if_neg (fun q => q rfl), out0, Option.bind_some, if_pos (by rw [lg_cmp_eq, eY])]
    · exact (good_bad gd bd).elim
  · obtain ⟨m', B', J', K', hc'⟩ := q_mend (n1 := n1 + 1) (n2 := n2 + 6) (L := L) (xs := xs) (i := i) (A := A) (m := m) (J := J) (wd := wd) (o := o) C M O.1
    rcases hc' with ⟨Y', gd', -, -⟩ | ⟨-, z1, e⟩
    · exact (good_bad gd' bd).elim
    · refine ⟨n1 + 1, n2 + 6, g, i, A, m', B', J', wd, o, ?_, INV_keep H K', by omega, by omega⟩
      rw [bd, Option.bind_some, xo_none, Option.bind_some, e, Option.bind_some, M_thrown, Option.bind_some, z1, if_pos rfl, if_pos (show ¬ (1 : Int32) = 0 by decide)]
end LWA
theorem six_lt {L k : Nat} (hL : L ≤ 3072) (hk : k ≤ 4000) : nI L - 6 < nI k ↔ L < k + 6 := by
  rcases Nat.lt_or_ge L 6 with z | z
  · have a : (nI L - 6).toInt = (L : Int) - 6 := by
      rcases (show L = 0 ∨ L = 1 ∨ L = 2 ∨ L = 3 ∨ L = 4 ∨ L = 5 by omega) with rfl | rfl | rfl | rfl | rfl | rfl <;> decide
    rw [fa_lt, a, nI_toInt (by omega)]
    omega
  · rw [show nI L - 6 = nI (L - 6) from pk_sub (b := 6) z, nI_ltI (by omega) (by omega)]
    omega
theorem law_loop {L : Nat} {xs : Nat → Int32} (hL : L ≤ 3072) : ∀ (d n k n1 n2 : Nat) (g : Nat → GR) (i : Nat → Int32) (A : Nat → Nat → Int32) (m : Nat → Int32) (B : Nat → Nat → Int32) (J : Nat → Int64) (wd : Int64) (o : Nat → Int64), L < k + 6 * d + 6 → k ≤ L + 6 → d < n → INV g i A m B → ∃ wf, f_L_law_p23 n 0 8 51 70 (nI k) (mk n1 n2 L xs g i A m B J wd o) = some (wf, 1) ∧ wf.1 ≤ n1 + d ∧ wf.2.1 ≤ n2 + 6 * d := by
  intro d
  induction d with
  | zero =>
    intro n k n1 n2 g i A m B J wd o hd hk hn H
    obtain ⟨n, rfl⟩ : ∃ m, n = m + 1 := ⟨n - 1, by omega⟩
    have eal : am_al (mk n1 n2 L xs g i A m B J wd o) 0 = some (nI L) := r_al ar0 (by decide)
    refine ⟨mk n1 n2 L xs g i A m B J wd o, ?_, Nat.le_refl _, Nat.le_refl _⟩
    rw [f_L_law_p23, eal, Option.bind_some, if_pos ((six_lt hL (by omega)).mpr (by omega))]
  | succ d ih =>
    intro n k n1 n2 g i A m B J wd o hd hk hn H
    obtain ⟨n, rfl⟩ : ∃ m, n = m + 1 := ⟨n - 1, by omega⟩
    have eal : am_al (mk n1 n2 L xs g i A m B J wd o) 0 = some (nI L) := r_al ar0 (by decide)
    rcases Nat.lt_or_ge L (k + 6) with z | z
    · refine ⟨mk n1 n2 L xs g i A m B J wd o, ?_, by show n1 ≤ _; omega, by show n2 ≤ _; omega⟩
      rw [f_L_law_p23, eal, Option.bind_some, if_pos ((six_lt hL (by omega)).mpr (by omega))]
    · have es : am_ai (mk n1 n2 L xs g i A m B J wd o) 0 (nI k) = some (xs k) := r_ai ar0 (by omega) (by omega)
      have hk : k + 5 < L := by omega
      have key : GoodE (f_L_law_p1075 (f_L_law_p23 n) 0 8 51 70 (nI k)) n1 n2 L xs (f_L_law_p23 (n + 1) 0 8 51 70 (nI k) (mk n1 n2 L xs g i A m B J wd o)) := by
        rw [f_L_law_p23, eal, Option.bind_some, if_neg (fun q => by have := (six_lt hL (by omega)).mp q; omega), es, Option.bind_some]
        unfold f_L_law_p406 f_L_law_p574
        apply sw31_all (P := GoodE (f_L_law_p1075 (f_L_law_p23 n) 0 8 51 70 (nI k)) n1 n2 L xs)
        · exact br5 p_feed hk hL H
        · exact br1 p_end hk hL H
        · exact br0 p_text H
        · exact br0 p_fault H
        · exact br1 p_now hk hL H
        · exact br1 p_at hk hL H
        · exact br_having hk hL H
        · exact br1 p_rectangles hk hL H
        · exact br2 p_rectangle hk hL H
        · exact br1 p_through hk hL H
        · exact br0 p_worst H
        · exact br1 p_may hk hL H
        · exact br_mend H
        · exact br2 p_most hk hL H
        · exact br3 p_crowded hk hL H
        · exact br3 p_paired hk hL H
        · exact br1 p_search hk hL H
        · exact br1 p_found hk hL H
        · exact br0 p_fill H
        · exact br0 p_likes H
        · exact br0 p_lay H
        · exact br0 p_apart H
        · exact br2 p_paint hk hL H
        · exact br2 p_rows hk hL H
        · exact br2 p_columns hk hL H
        · exact br2 p_name hk hL H
        · exact br0 p_turn H
        · exact br2 p_drawn hk hL H
        · exact br0 p_undo H
        · exact br1 p_image hk hL H
        · exact br1 p_restore hk hL H
        · exact ⟨n1, n2, g, i, A, m, B, J, wd, o, rfl, H, by omega, by omega⟩
      obtain ⟨n1', n2', g', i', A', m', B', J', wd', o', e, H', l1, l2⟩ := key
      obtain ⟨wf, e2, w1, w2⟩ := ih n (k + 6) n1' n2' g' i' A' m' B' J' wd' o' (by omega) (by omega) (by omega) H'
      refine ⟨wf, ?_, by omega, by omega⟩
      rw [e]
      unfold f_L_law_p1075
      rw [show (6 : Int32) = nI 6 from rfl, nI_add]
      exact e2
theorem INV_0 : INV (fun _ => (0, 0, 0, fun _ => 0)) (fun _ => 0) (fun _ _ => 0) (fun _ => 0) (fun _ _ => 0) := by
  have O0 : gokz 0 0 0 (fun _ => 0) := ⟨⟨by omega, by omega, by omega, Iff.rfl, Iff.rfl, fun k hk => Nat.le_refl _⟩, fun _ _ => rfl⟩
  have C0 : ∀ a, cg (fun _ => (0, 0, 0, fun _ => 0)) a 0 0 0 (fun _ => 0) := fun a => ⟨rfl, rfl, rfl, fun c _ => by unfold stc; rfl⟩
  have E0 : ∀ j, (0 : Int32) = enc 0 0 0 (fun _ => 0) j := fun j => by rcases j with _ | _ | _ | j <;> rfl
  refine ⟨⟨0, 0, 0, fun _ => 0, O0, C0 11, fun j _ => E0 j⟩, rfl, ⟨0, fun _ => 0, by omega, rfl, rfl, fun j hj => by omega⟩, ⟨0, 0, by omega, by omega, rfl, rfl, rfl, fun k hk => by omega⟩, fun k _ => Or.inl ⟨rfl, rfl⟩, ⟨0, 0, 0, fun _ => 0, O0, C0 19, fun h => by omega⟩, fun a b _ _ => Or.inl rfl⟩
/-- THE LAW'S FUNCTION ANSWERS 1 -/
theorem law_ok (L : Nat) (xs : Nat → Int32) (hL : L ≤ 3072) : ∃ wf, f_L_law 0 (am_w0 L xs) = some (wf, 1) ∧ wf.1 ≤ 601024 ∧ wf.2.1 ≤ 7293034 := by
  rw [law_init]
  obtain ⟨wf, e, w1, w2⟩ := law_loop (xs := xs) hL 600 am_N 0 63 36712 (fun _ => (0, 0, 0, fun _ => 0)) (fun _ => 0) (fun _ _ => 0) (fun _ => 0) (fun _ _ => 0) (fun _ => 0) 0 (fun _ => 0) (by omega) (by omega) (by unfold am_N; omega) INV_0
  exact ⟨wf, e, by omega, by omega⟩
