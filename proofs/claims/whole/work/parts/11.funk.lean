-- m_M_lay_1
def f_M_lay_1_p41 (w : am_W) : Option (am_W × Int32) := (some (w, (-1)))
def f_M_lay_1_p90 (k83 : Nat → Int32 → Int32 → am_W → Option (am_W × Int32)) : Nat → Nat → Int32 → Int32 → Int32 → am_W → Option (am_W × Int32)
  | 0, _, _, _, _, _ => none
  | n + 1, x0, x1, x2, x3, w => (if x1 ≤ x3 then (k83 x0 x1 (x2 + 1) w) else ((am_gr w x0 7 11).bind fun v2 => ((am_gr w x0 7 1).bind fun v4 => (if x1 = 0 then none else ((am_ai w v4 (((x3 - x2) + x1) - ((x3 - x2) + x1) / x1 * x1)).bind fun v7 => ((am_si w v2 ((3 + (x1 * x2)) + x3) v7).bind fun w9 => (f_M_lay_1_p90 k83 n x0 x1 x2 (x3 + 1) w9)))))))
def f_M_lay_1_p83 : Nat → Nat → Int32 → Int32 → am_W → Option (am_W × Int32)
  | 0, _, _, _, _ => none
  | n + 1, x0, x1, x2, w => (if x1 ≤ x2 then ((f_M_laysFours (x0) (0) w).bind fun r12 => ((am_gi r12.1 x0 7 23).bind fun v14 => (some (r12.1, v14)))) else (f_M_lay_1_p90 (f_M_lay_1_p83 n) am_N x0 x1 x2 0 w))
def f_M_lay_1_p45 : Nat → Nat → Int32 → Int32 → am_W → Option (am_W × Int32)
  | 0, _, _, _, _ => none
  | n + 1, x0, x1, x2, w => (if x1 ≤ x2 then ((f_M_snap (x0) w).bind fun r17 => (f_M_lay_1_p83 am_N x0 x1 0 r17.1)) else ((am_gr w x0 7 1).bind fun v19 => ((am_ai w v19 x2).bind fun v21 => ((am_gr w x0 7 11).bind fun v23 => ((am_ai w v23 2).bind fun v25 => ((f_M_isIn (v21) (1) (v25) w).bind fun r27 => (if ¬ r27.2 = 0 then (f_M_lay_1_p45 n x0 x1 (x2 + 1) r27.1) else (some (r27.1, (-1))))))))))
def e_M_lay_1 (x0 : Nat) (w : am_W) : Option (am_W × Int32) := ((am_pv w x0 7 0 (.int 0)).bind fun w30 => ((am_gi w30 x0 7 2).bind fun v32 => ((am_pv w30 x0 7 2 (.int 0)).bind fun w34 => ((f_M_high (x0) w34).bind fun r36 => (if r36.2 = 0 then (f_M_lay_1_p41 r36.1) else ((f_M_high (x0) r36.1).bind fun r39 => ((f_M_broad (x0) r39.1).bind fun r41 => (if ¬ r39.2 = r41.2 then (f_M_lay_1_p41 r41.1) else ((f_M_high (x0) r41.1).bind fun r44 => (if v32 = r44.2 then (f_M_lay_1_p45 am_N x0 v32 0 r44.1) else (f_M_lay_1_p41 r44.1)))))))))))
def f_M_lay_1 (x0 : Nat) (w : am_W) : Option (am_W × Int32) := am_self w x0 7 (e_M_lay_1 x0 w)
theorem o_M_lay_1_p41 {d : Nat} (y0 y1 y2 y3 : Option Value) (w : am_W) : am_Ok am_ji (d + 3) m_M_lay_1 41 [y0, y1, y2, y3] [] w (f_M_lay_1_p41 w) := by
  unfold f_M_lay_1_p41
  refine ok_seg (L := [((.iconst (-1)), 1)]) (pc' := 42) (ls' := [y0, y1, y2, y3]) (st' := [.int (-1)]) (w' := w) (by decide +kernel) rfl ?_
  exact ok_ret (v := (-1)) (by decide +kernel : decode m_M_lay_1.2.1 42 = .ok (.ireturn, 1)) rfl
theorem o_M_lay_1_p90 {d : Nat} {k83 : Nat → Int32 → Int32 → am_W → Option (am_W × Int32)} (hk83 : ∀ (x0 : Nat) (x1 : Int32) (x2 : Int32) (y3 : Option Value) (w : am_W), am_Ok am_ji (d + 3) m_M_lay_1 83 [some (.ref x0), some (.int x1), some (.int x2), y3] [] w (k83 x0 x1 x2 w)) : ∀ (n : Nat) (x0 : Nat) (x1 : Int32) (x2 : Int32) (x3 : Int32) (w : am_W), am_Ok am_ji (d + 3) m_M_lay_1 90 [some (.ref x0), some (.int x1), some (.int x2), some (.int x3)] [] w (f_M_lay_1_p90 k83 n x0 x1 x2 x3 w) := by
  intro n
  induction n with
  | zero => intros; exact ok_none
  | succ n ih =>
    intro x0 x1 x2 x3 w
    unfold f_M_lay_1_p90
    refine ok_seg (L := [((.iload_n 3), 1), ((.iload_n 1), 1)]) (pc' := 92) (ls' := [some (.ref x0), some (.int x1), some (.int x2), some (.int x3)]) (st' := [.int x1, .int x3]) (w' := w) (by decide +kernel) rfl ?_
    refine ok_br (P := x1 ≤ x3) (off := 33) (t := 125) (by decide +kernel : decode m_M_lay_1.2.1 92 = .ok ((.if_icmp .ge 33), 3)) rfl rfl rfl rfl (fun c1 => ?_) (fun c1 => ?_)
    · skip
      refine ok_seg (L := [((.iinc 2 1), 3)]) (pc' := 128) (ls' := [some (.ref x0), some (.int x1), some (.int (x2 + 1)), some (.int x3)]) (st' := []) (w' := w) (by decide +kernel) rfl ?_
      refine ok_goto (t := 83) (by decide +kernel : decode m_M_lay_1.2.1 128 = .ok ((.goto (-45)), 3)) rfl ?_
      exact hk83 x0 x1 (x2 + 1) (some (.int x3)) w
    · skip
      refine ok_seg (L := [((.aload_n 0), 1)]) (pc' := 96) (ls' := [some (.ref x0), some (.int x1), some (.int x2), some (.int x3)]) (st' := [.ref x0]) (w' := w) (by decide +kernel) rfl ?_
      refine ok_gr (by decide +kernel : decode m_M_lay_1.2.1 96 = .ok ((.getfield 64), 3)) rfl (by decide) (fun v2 h3 => ?_)
      refine ok_seg (L := [((.iconst 3), 1), ((.iload_n 1), 1), ((.iload_n 2), 1), (.imul, 1), (.iadd, 1), ((.iload_n 3), 1), (.iadd, 1), ((.aload_n 0), 1)]) (pc' := 107) (ls' := [some (.ref x0), some (.int x1), some (.int x2), some (.int x3)]) (st' := [.ref x0, .int ((3 + (x1 * x2)) + x3), .ref v2]) (w' := w) (by decide +kernel) rfl ?_
      refine ok_gr (by decide +kernel : decode m_M_lay_1.2.1 107 = .ok ((.getfield 7), 3)) rfl (by decide) (fun v4 h5 => ?_)
      refine ok_seg (L := [((.iload_n 3), 1), ((.iload_n 2), 1), (.isub, 1), ((.iload_n 1), 1), (.iadd, 1), ((.iload_n 1), 1)]) (pc' := 116) (ls' := [some (.ref x0), some (.int x1), some (.int x2), some (.int x3)]) (st' := [.int x1, .int ((x3 - x2) + x1), .ref v4, .int ((3 + (x1 * x2)) + x3), .ref v2]) (w' := w) (by decide +kernel) rfl ?_
      refine ok_rem (by decide +kernel : decode m_M_lay_1.2.1 116 = .ok (.irem, 1)) (fun c6 => ?_)
      refine ok_ai (by decide +kernel : decode m_M_lay_1.2.1 117 = .ok (.iaload, 1)) (fun v7 h8 => ?_)
      refine ok_si (by decide +kernel : decode m_M_lay_1.2.1 118 = .ok (.iastore, 1)) (fun w9 h10 => ?_)
      refine ok_seg (L := [((.iinc 3 1), 3)]) (pc' := 122) (ls' := [some (.ref x0), some (.int x1), some (.int x2), some (.int (x3 + 1))]) (st' := []) (w' := w9) (by decide +kernel) rfl ?_
      refine ok_goto (t := 90) (by decide +kernel : decode m_M_lay_1.2.1 122 = .ok ((.goto (-32)), 3)) rfl ?_
      exact ih x0 x1 x2 (x3 + 1) w9
theorem o_M_lay_1_p83 {d : Nat} : ∀ (n : Nat) (x0 : Nat) (x1 : Int32) (x2 : Int32) (y3 : Option Value) (w : am_W), am_Ok am_ji (d + 3) m_M_lay_1 83 [some (.ref x0), some (.int x1), some (.int x2), y3] [] w (f_M_lay_1_p83 n x0 x1 x2 w) := by
  intro n
  induction n with
  | zero => intros; exact ok_none
  | succ n ih =>
    intro x0 x1 x2 y3 w
    unfold f_M_lay_1_p83
    refine ok_seg (L := [((.iload_n 2), 1), ((.iload_n 1), 1)]) (pc' := 85) (ls' := [some (.ref x0), some (.int x1), some (.int x2), y3]) (st' := [.int x1, .int x2]) (w' := w) (by decide +kernel) rfl ?_
    refine ok_br (P := x1 ≤ x2) (off := 46) (t := 131) (by decide +kernel : decode m_M_lay_1.2.1 85 = .ok ((.if_icmp .ge 46), 3)) rfl rfl rfl rfl (fun c11 => ?_) (fun c11 => ?_)
    · skip
      refine ok_seg (L := [((.aload_n 0), 1), ((.iconst 0), 1)]) (pc' := 133) (ls' := [some (.ref x0), some (.int x1), some (.int x2), y3]) (st' := [.int 0, .ref x0]) (w' := w) (by decide +kernel) rfl ?_
      refine ok_call0 (inj' := am_jv) (by decide +kernel : decode m_M_lay_1.2.1 133 = .ok ((.invokevirtual 188), 3)) rfl (fun q hq => am_iv0 (am_self_eq hq).1 rfl rfl rfl) (o_M_laysFours (d + 0) (x0) (0) w) (fun _ _ => rfl) (fun r12 h13 => ?_)
      refine ok_seg (L := [((.aload_n 0), 1)]) (pc' := 137) (ls' := [some (.ref x0), some (.int x1), some (.int x2), y3]) (st' := [.ref x0]) (w' := r12.1) (by decide +kernel) rfl ?_
      refine ok_gi (by decide +kernel : decode m_M_lay_1.2.1 137 = .ok ((.getfield 181), 3)) rfl (fun v14 h15 => ?_)
      exact ok_ret (v := v14) (by decide +kernel : decode m_M_lay_1.2.1 140 = .ok (.ireturn, 1)) rfl
    · skip
      refine ok_seg (L := [((.iconst 0), 1), ((.istore_n 3), 1)]) (pc' := 90) (ls' := [some (.ref x0), some (.int x1), some (.int x2), some (.int 0)]) (st' := []) (w' := w) (by decide +kernel) rfl ?_
      exact o_M_lay_1_p90 ih am_N x0 x1 x2 0 w
theorem o_M_lay_1_p45 {d : Nat} : ∀ (n : Nat) (x0 : Nat) (x1 : Int32) (x2 : Int32) (y3 : Option Value) (w : am_W), am_Ok am_ji (d + 3) m_M_lay_1 45 [some (.ref x0), some (.int x1), some (.int x2), y3] [] w (f_M_lay_1_p45 n x0 x1 x2 w) := by
  intro n
  induction n with
  | zero => intros; exact ok_none
  | succ n ih =>
    intro x0 x1 x2 y3 w
    unfold f_M_lay_1_p45
    refine ok_seg (L := [((.iload_n 2), 1), ((.iload_n 1), 1)]) (pc' := 47) (ls' := [some (.ref x0), some (.int x1), some (.int x2), y3]) (st' := [.int x1, .int x2]) (w' := w) (by decide +kernel) rfl ?_
    refine ok_br (P := x1 ≤ x2) (off := 30) (t := 77) (by decide +kernel : decode m_M_lay_1.2.1 47 = .ok ((.if_icmp .ge 30), 3)) rfl rfl rfl rfl (fun c16 => ?_) (fun c16 => ?_)
    · skip
      refine ok_seg (L := [((.aload_n 0), 1)]) (pc' := 78) (ls' := [some (.ref x0), some (.int x1), some (.int x2), y3]) (st' := [.ref x0]) (w' := w) (by decide +kernel) rfl ?_
      refine ok_call0 (inj' := am_jv) (by decide +kernel : decode m_M_lay_1.2.1 78 = .ok ((.invokevirtual 236), 3)) rfl (fun q hq => am_iv0 (am_self_eq hq).1 rfl rfl rfl) (o_M_snap (d + 1) (x0) w) (fun _ _ => rfl) (fun r17 h18 => ?_)
      refine ok_seg (L := [((.iconst 0), 1), ((.istore_n 2), 1)]) (pc' := 83) (ls' := [some (.ref x0), some (.int x1), some (.int 0), y3]) (st' := []) (w' := r17.1) (by decide +kernel) rfl ?_
      exact o_M_lay_1_p83 am_N x0 x1 0 y3 r17.1
    · skip
      refine ok_seg (L := [((.aload_n 0), 1)]) (pc' := 51) (ls' := [some (.ref x0), some (.int x1), some (.int x2), y3]) (st' := [.ref x0]) (w' := w) (by decide +kernel) rfl ?_
      refine ok_gr (by decide +kernel : decode m_M_lay_1.2.1 51 = .ok ((.getfield 7), 3)) rfl (by decide) (fun v19 h20 => ?_)
      refine ok_seg (L := [((.iload_n 2), 1)]) (pc' := 55) (ls' := [some (.ref x0), some (.int x1), some (.int x2), y3]) (st' := [.int x2, .ref v19]) (w' := w) (by decide +kernel) rfl ?_
      refine ok_ai (by decide +kernel : decode m_M_lay_1.2.1 55 = .ok (.iaload, 1)) (fun v21 h22 => ?_)
      refine ok_seg (L := [((.iconst 1), 1), ((.aload_n 0), 1)]) (pc' := 58) (ls' := [some (.ref x0), some (.int x1), some (.int x2), y3]) (st' := [.ref x0, .int 1, .int v21]) (w' := w) (by decide +kernel) rfl ?_
      refine ok_gr (by decide +kernel : decode m_M_lay_1.2.1 58 = .ok ((.getfield 64), 3)) rfl (by decide) (fun v23 h24 => ?_)
      refine ok_seg (L := [((.iconst 2), 1)]) (pc' := 62) (ls' := [some (.ref x0), some (.int x1), some (.int x2), y3]) (st' := [.int 2, .ref v23, .int 1, .int v21]) (w' := w) (by decide +kernel) rfl ?_
      refine ok_ai (by decide +kernel : decode m_M_lay_1.2.1 62 = .ok (.iaload, 1)) (fun v25 h26 => ?_)
      refine ok_call0 (inj' := am_ji) (by decide +kernel : decode m_M_lay_1.2.1 63 = .ok ((.invokestatic 121), 3)) rfl (fun _ _ => rfl) (o_M_isIn (d + 2) (v21) (1) (v25) w) (fun _ _ => rfl) (fun r27 h28 => ?_)
      refine ok_br (P := ¬ r27.2 = 0) (off := 5) (t := 71) (by decide +kernel : decode m_M_lay_1.2.1 66 = .ok ((.ifCond .ne 5), 3)) rfl rfl rfl rfl (fun c29 => ?_) (fun c29 => ?_)
      · skip
        refine ok_seg (L := [((.iinc 2 1), 3)]) (pc' := 74) (ls' := [some (.ref x0), some (.int x1), some (.int (x2 + 1)), y3]) (st' := []) (w' := r27.1) (by decide +kernel) rfl ?_
        refine ok_goto (t := 45) (by decide +kernel : decode m_M_lay_1.2.1 74 = .ok ((.goto (-29)), 3)) rfl ?_
        exact ih x0 x1 (x2 + 1) y3 r27.1
      · skip
        refine ok_seg (L := [((.iconst (-1)), 1)]) (pc' := 70) (ls' := [some (.ref x0), some (.int x1), some (.int x2), y3]) (st' := [.int (-1)]) (w' := r27.1) (by decide +kernel) rfl ?_
        exact ok_ret (v := (-1)) (by decide +kernel : decode m_M_lay_1.2.1 70 = .ok (.ireturn, 1)) rfl
theorem o_M_lay_1 (d : Nat) (x0 : Nat) (w : am_W) : am_Ok am_ji (d + 3) m_M_lay_1 0 (am_en m_M_lay_1 [.ref x0]) [] w (f_M_lay_1 x0 w) := by
  show am_Ok _ _ _ 0 [some (.ref x0), none, none, none] [] w _
  unfold f_M_lay_1
  refine ok_self ?_
  unfold e_M_lay_1
  refine ok_seg (L := [((.aload_n 0), 1), ((.iconst 0), 1)]) (pc' := 2) (ls' := [some (.ref x0), none, none, none]) (st' := [.int 0, .ref x0]) (w' := w) (by decide +kernel) rfl ?_
  refine ok_pi (by decide +kernel : decode m_M_lay_1.2.1 2 = .ok ((.putfield 1), 3)) rfl (fun w30 h31 => ?_)
  refine ok_seg (L := [((.aload_n 0), 1)]) (pc' := 6) (ls' := [some (.ref x0), none, none, none]) (st' := [.ref x0]) (w' := w30) (by decide +kernel) rfl ?_
  refine ok_gi (by decide +kernel : decode m_M_lay_1.2.1 6 = .ok ((.getfield 11), 3)) rfl (fun v32 h33 => ?_)
  refine ok_seg (L := [((.istore_n 1), 1), ((.aload_n 0), 1), ((.iconst 0), 1)]) (pc' := 12) (ls' := [some (.ref x0), some (.int v32), none, none]) (st' := [.int 0, .ref x0]) (w' := w30) (by decide +kernel) rfl ?_
  refine ok_pi (by decide +kernel : decode m_M_lay_1.2.1 12 = .ok ((.putfield 11), 3)) rfl (fun w34 h35 => ?_)
  refine ok_seg (L := [((.aload_n 0), 1)]) (pc' := 16) (ls' := [some (.ref x0), some (.int v32), none, none]) (st' := [.ref x0]) (w' := w34) (by decide +kernel) rfl ?_
  refine ok_call0 (inj' := am_ji) (by decide +kernel : decode m_M_lay_1.2.1 16 = .ok ((.invokevirtual 163), 3)) rfl (fun q hq => am_iv0 (am_self_eq hq).1 rfl rfl rfl) (o_M_high (d + 2) (x0) w34) (fun _ _ => rfl) (fun r36 h37 => ?_)
  refine ok_br (P := r36.2 = 0) (off := 22) (t := 41) (by decide +kernel : decode m_M_lay_1.2.1 19 = .ok ((.ifCond .eq 22), 3)) rfl rfl rfl rfl (fun c38 => ?_) (fun c38 => ?_)
  · skip
    exact o_M_lay_1_p41 (some (.ref x0)) (some (.int v32)) none none r36.1
  · skip
    refine ok_seg (L := [((.aload_n 0), 1)]) (pc' := 23) (ls' := [some (.ref x0), some (.int v32), none, none]) (st' := [.ref x0]) (w' := r36.1) (by decide +kernel) rfl ?_
    refine ok_call0 (inj' := am_ji) (by decide +kernel : decode m_M_lay_1.2.1 23 = .ok ((.invokevirtual 163), 3)) rfl (fun q hq => am_iv0 (am_self_eq hq).1 rfl rfl rfl) (o_M_high (d + 2) (x0) r36.1) (fun _ _ => rfl) (fun r39 h40 => ?_)
    refine ok_seg (L := [((.aload_n 0), 1)]) (pc' := 27) (ls' := [some (.ref x0), some (.int v32), none, none]) (st' := [.ref x0, .int r39.2]) (w' := r39.1) (by decide +kernel) rfl ?_
    refine ok_call0 (inj' := am_ji) (by decide +kernel : decode m_M_lay_1.2.1 27 = .ok ((.invokevirtual 167), 3)) rfl (fun q hq => am_iv0 (am_self_eq hq).1 rfl rfl rfl) (o_M_broad (d + 2) (x0) r39.1) (fun _ _ => rfl) (fun r41 h42 => ?_)
    refine ok_br (P := ¬ r39.2 = r41.2) (off := 11) (t := 41) (by decide +kernel : decode m_M_lay_1.2.1 30 = .ok ((.if_icmp .ne 11), 3)) rfl rfl rfl rfl (fun c43 => ?_) (fun c43 => ?_)
    · skip
      exact o_M_lay_1_p41 (some (.ref x0)) (some (.int v32)) none none r41.1
    · skip
      refine ok_seg (L := [((.iload_n 1), 1), ((.aload_n 0), 1)]) (pc' := 35) (ls' := [some (.ref x0), some (.int v32), none, none]) (st' := [.ref x0, .int v32]) (w' := r41.1) (by decide +kernel) rfl ?_
      refine ok_call0 (inj' := am_ji) (by decide +kernel : decode m_M_lay_1.2.1 35 = .ok ((.invokevirtual 163), 3)) rfl (fun q hq => am_iv0 (am_self_eq hq).1 rfl rfl rfl) (o_M_high (d + 2) (x0) r41.1) (fun _ _ => rfl) (fun r44 h45 => ?_)
      refine ok_br (P := v32 = r44.2) (off := 5) (t := 43) (by decide +kernel : decode m_M_lay_1.2.1 38 = .ok ((.if_icmp .eq 5), 3)) rfl rfl rfl rfl (fun c46 => ?_) (fun c46 => ?_)
      · skip
        refine ok_seg (L := [((.iconst 0), 1), ((.istore_n 2), 1)]) (pc' := 45) (ls' := [some (.ref x0), some (.int v32), some (.int 0), none]) (st' := []) (w' := r44.1) (by decide +kernel) rfl ?_
        exact o_M_lay_1_p45 am_N x0 v32 0 none r44.1
      · skip
        exact o_M_lay_1_p41 (some (.ref x0)) (some (.int v32)) none none r44.1
-- m_M_isApart
def f_M_isApart_p82 (k5 : Nat → Int32 → Int32 → Int32 → Int32 → am_W → Option (am_W × Int32)) (k14 : Nat → Int32 → Int32 → Int32 → Int32 → Int32 → am_W → Option (am_W × Int32)) (x0 : Nat) (x1 : Int32) (x2 : Int32) (x3 : Int32) (x4 : Int32) (x5 : Int32) (w : am_W) : Option (am_W × Int32) := (k14 x0 x1 x2 x3 x4 (x5 + 1) w)
def f_M_isApart_p14 (k5 : Nat → Int32 → Int32 → Int32 → Int32 → am_W → Option (am_W × Int32)) : Nat → Nat → Int32 → Int32 → Int32 → Int32 → Int32 → am_W → Option (am_W × Int32)
  | 0, _, _, _, _, _, _, _ => none
  | n + 1, x0, x1, x2, x3, x4, x5, w => (if x2 ≤ x5 then (k5 x0 x1 x2 x3 (x4 + 1) w) else (if x4 = x5 then (f_M_isApart_p82 k5 (f_M_isApart_p14 k5 n) x0 x1 x2 x3 x4 x5 w) else ((am_gr w x0 7 1).bind fun v3 => ((am_ai w v3 x4).bind fun v5 => (if ¬ v5 = x1 then (f_M_isApart_p82 k5 (f_M_isApart_p14 k5 n) x0 x1 x2 x3 x4 x5 w) else ((am_gr w x0 7 1).bind fun v8 => ((am_ai w v8 x5).bind fun v10 => (if v10 = x1 then (if x2 = 0 then none else (if ¬ ((x3 >>> ((((x4 - x5) + x2) - ((x4 - x5) + x2) / x2 * x2) &&& 31)) &&& 1) = 1 then (f_M_isApart_p82 k5 (f_M_isApart_p14 k5 n) x0 x1 x2 (x3 ||| (1 <<< ((((x4 - x5) + x2) - ((x4 - x5) + x2) / x2 * x2) &&& 31))) x4 x5 w) else (some (w, 0)))) else (f_M_isApart_p82 k5 (f_M_isApart_p14 k5 n) x0 x1 x2 x3 x4 x5 w)))))))))
def f_M_isApart_p5 : Nat → Nat → Int32 → Int32 → Int32 → Int32 → am_W → Option (am_W × Int32)
  | 0, _, _, _, _, _, _ => none
  | n + 1, x0, x1, x2, x3, x4, w => (if x2 ≤ x4 then (some (w, 1)) else (f_M_isApart_p14 (f_M_isApart_p5 n) am_N x0 x1 x2 x3 x4 0 w))
def e_M_isApart (x0 : Nat) (x1 : Int32) (x2 : Int32) (w : am_W) : Option (am_W × Int32) := (f_M_isApart_p5 am_N x0 x1 x2 0 0 w)
def f_M_isApart (x0 : Nat) (x1 : Int32) (x2 : Int32) (w : am_W) : Option (am_W × Int32) := am_self w x0 7 (e_M_isApart x0 x1 x2 w)
theorem o_M_isApart_p82 {d : Nat} {k5 : Nat → Int32 → Int32 → Int32 → Int32 → am_W → Option (am_W × Int32)} {k14 : Nat → Int32 → Int32 → Int32 → Int32 → Int32 → am_W → Option (am_W × Int32)} (hk5 : ∀ (x0 : Nat) (x1 : Int32) (x2 : Int32) (x3 : Int32) (x4 : Int32) (y5 y6 : Option Value) (w : am_W), am_Ok am_ji (d + 0) m_M_isApart 5 [some (.ref x0), some (.int x1), some (.int x2), some (.int x3), some (.int x4), y5, y6] [] w (k5 x0 x1 x2 x3 x4 w)) (hk14 : ∀ (x0 : Nat) (x1 : Int32) (x2 : Int32) (x3 : Int32) (x4 : Int32) (x5 : Int32) (y6 : Option Value) (w : am_W), am_Ok am_ji (d + 0) m_M_isApart 14 [some (.ref x0), some (.int x1), some (.int x2), some (.int x3), some (.int x4), some (.int x5), y6] [] w (k14 x0 x1 x2 x3 x4 x5 w)) (x0 : Nat) (x1 : Int32) (x2 : Int32) (x3 : Int32) (x4 : Int32) (x5 : Int32) (y6 : Option Value) (w : am_W) : am_Ok am_ji (d + 0) m_M_isApart 82 [some (.ref x0), some (.int x1), some (.int x2), some (.int x3), some (.int x4), some (.int x5), y6] [] w (f_M_isApart_p82 k5 k14 x0 x1 x2 x3 x4 x5 w) := by
  unfold f_M_isApart_p82
  refine ok_seg (L := [((.iinc 5 1), 3)]) (pc' := 85) (ls' := [some (.ref x0), some (.int x1), some (.int x2), some (.int x3), some (.int x4), some (.int (x5 + 1)), y6]) (st' := []) (w' := w) (by decide +kernel) rfl ?_
  refine ok_goto (t := 14) (by decide +kernel : decode m_M_isApart.2.1 85 = .ok ((.goto (-71)), 3)) rfl ?_
  exact hk14 x0 x1 x2 x3 x4 (x5 + 1) y6 w
theorem o_M_isApart_p14 {d : Nat} {k5 : Nat → Int32 → Int32 → Int32 → Int32 → am_W → Option (am_W × Int32)} (hk5 : ∀ (x0 : Nat) (x1 : Int32) (x2 : Int32) (x3 : Int32) (x4 : Int32) (y5 y6 : Option Value) (w : am_W), am_Ok am_ji (d + 0) m_M_isApart 5 [some (.ref x0), some (.int x1), some (.int x2), some (.int x3), some (.int x4), y5, y6] [] w (k5 x0 x1 x2 x3 x4 w)) : ∀ (n : Nat) (x0 : Nat) (x1 : Int32) (x2 : Int32) (x3 : Int32) (x4 : Int32) (x5 : Int32) (y6 : Option Value) (w : am_W), am_Ok am_ji (d + 0) m_M_isApart 14 [some (.ref x0), some (.int x1), some (.int x2), some (.int x3), some (.int x4), some (.int x5), y6] [] w (f_M_isApart_p14 k5 n x0 x1 x2 x3 x4 x5 w) := by
  intro n
  induction n with
  | zero => intros; exact ok_none
  | succ n ih =>
    intro x0 x1 x2 x3 x4 x5 y6 w
    unfold f_M_isApart_p14
    refine ok_seg (L := [((.iload 5), 2), ((.iload_n 2), 1)]) (pc' := 17) (ls' := [some (.ref x0), some (.int x1), some (.int x2), some (.int x3), some (.int x4), some (.int x5), y6]) (st' := [.int x2, .int x5]) (w' := w) (by decide +kernel) rfl ?_
    refine ok_br (P := x2 ≤ x5) (off := 71) (t := 88) (by decide +kernel : decode m_M_isApart.2.1 17 = .ok ((.if_icmp .ge 71), 3)) rfl rfl rfl rfl (fun c1 => ?_) (fun c1 => ?_)
    · skip
      refine ok_seg (L := [((.iinc 4 1), 3)]) (pc' := 91) (ls' := [some (.ref x0), some (.int x1), some (.int x2), some (.int x3), some (.int (x4 + 1)), some (.int x5), y6]) (st' := []) (w' := w) (by decide +kernel) rfl ?_
      refine ok_goto (t := 5) (by decide +kernel : decode m_M_isApart.2.1 91 = .ok ((.goto (-86)), 3)) rfl ?_
      exact hk5 x0 x1 x2 x3 (x4 + 1) (some (.int x5)) y6 w
    · skip
      refine ok_seg (L := [((.iload 4), 2), ((.iload 5), 2)]) (pc' := 24) (ls' := [some (.ref x0), some (.int x1), some (.int x2), some (.int x3), some (.int x4), some (.int x5), y6]) (st' := [.int x5, .int x4]) (w' := w) (by decide +kernel) rfl ?_
      refine ok_br (P := x4 = x5) (off := 58) (t := 82) (by decide +kernel : decode m_M_isApart.2.1 24 = .ok ((.if_icmp .eq 58), 3)) rfl rfl rfl rfl (fun c2 => ?_) (fun c2 => ?_)
      · skip
        exact o_M_isApart_p82 hk5 ih x0 x1 x2 x3 x4 x5 y6 w
      · skip
        refine ok_seg (L := [((.aload_n 0), 1)]) (pc' := 28) (ls' := [some (.ref x0), some (.int x1), some (.int x2), some (.int x3), some (.int x4), some (.int x5), y6]) (st' := [.ref x0]) (w' := w) (by decide +kernel) rfl ?_
        refine ok_gr (by decide +kernel : decode m_M_isApart.2.1 28 = .ok ((.getfield 7), 3)) rfl (by decide) (fun v3 h4 => ?_)
        refine ok_seg (L := [((.iload 4), 2)]) (pc' := 33) (ls' := [some (.ref x0), some (.int x1), some (.int x2), some (.int x3), some (.int x4), some (.int x5), y6]) (st' := [.int x4, .ref v3]) (w' := w) (by decide +kernel) rfl ?_
        refine ok_ai (by decide +kernel : decode m_M_isApart.2.1 33 = .ok (.iaload, 1)) (fun v5 h6 => ?_)
        refine ok_seg (L := [((.iload_n 1), 1)]) (pc' := 35) (ls' := [some (.ref x0), some (.int x1), some (.int x2), some (.int x3), some (.int x4), some (.int x5), y6]) (st' := [.int x1, .int v5]) (w' := w) (by decide +kernel) rfl ?_
        refine ok_br (P := ¬ v5 = x1) (off := 47) (t := 82) (by decide +kernel : decode m_M_isApart.2.1 35 = .ok ((.if_icmp .ne 47), 3)) rfl rfl rfl rfl (fun c7 => ?_) (fun c7 => ?_)
        · skip
          exact o_M_isApart_p82 hk5 ih x0 x1 x2 x3 x4 x5 y6 w
        · skip
          refine ok_seg (L := [((.aload_n 0), 1)]) (pc' := 39) (ls' := [some (.ref x0), some (.int x1), some (.int x2), some (.int x3), some (.int x4), some (.int x5), y6]) (st' := [.ref x0]) (w' := w) (by decide +kernel) rfl ?_
          refine ok_gr (by decide +kernel : decode m_M_isApart.2.1 39 = .ok ((.getfield 7), 3)) rfl (by decide) (fun v8 h9 => ?_)
          refine ok_seg (L := [((.iload 5), 2)]) (pc' := 44) (ls' := [some (.ref x0), some (.int x1), some (.int x2), some (.int x3), some (.int x4), some (.int x5), y6]) (st' := [.int x5, .ref v8]) (w' := w) (by decide +kernel) rfl ?_
          refine ok_ai (by decide +kernel : decode m_M_isApart.2.1 44 = .ok (.iaload, 1)) (fun v10 h11 => ?_)
          refine ok_seg (L := [((.iload_n 1), 1)]) (pc' := 46) (ls' := [some (.ref x0), some (.int x1), some (.int x2), some (.int x3), some (.int x4), some (.int x5), y6]) (st' := [.int x1, .int v10]) (w' := w) (by decide +kernel) rfl ?_
          refine ok_br (P := v10 = x1) (off := 6) (t := 52) (by decide +kernel : decode m_M_isApart.2.1 46 = .ok ((.if_icmp .eq 6), 3)) rfl rfl rfl rfl (fun c12 => ?_) (fun c12 => ?_)
          · skip
            refine ok_seg (L := [((.iload 4), 2), ((.iload 5), 2), (.isub, 1), ((.iload_n 2), 1), (.iadd, 1), ((.iload_n 2), 1)]) (pc' := 60) (ls' := [some (.ref x0), some (.int x1), some (.int x2), some (.int x3), some (.int x4), some (.int x5), y6]) (st' := [.int x2, .int ((x4 - x5) + x2)]) (w' := w) (by decide +kernel) rfl ?_
            refine ok_rem (by decide +kernel : decode m_M_isApart.2.1 60 = .ok (.irem, 1)) (fun c13 => ?_)
            refine ok_seg (L := [((.istore 6), 2), ((.iload_n 3), 1), ((.iload 6), 2), (.ishr, 1), ((.iconst 1), 1), (.iand, 1), ((.iconst 1), 1)]) (pc' := 70) (ls' := [some (.ref x0), some (.int x1), some (.int x2), some (.int x3), some (.int x4), some (.int x5), some (.int (((x4 - x5) + x2) - ((x4 - x5) + x2) / x2 * x2))]) (st' := [.int 1, .int ((x3 >>> ((((x4 - x5) + x2) - ((x4 - x5) + x2) / x2 * x2) &&& 31)) &&& 1)]) (w' := w) (by decide +kernel) rfl ?_
            refine ok_br (P := ¬ ((x3 >>> ((((x4 - x5) + x2) - ((x4 - x5) + x2) / x2 * x2) &&& 31)) &&& 1) = 1) (off := 5) (t := 75) (by decide +kernel : decode m_M_isApart.2.1 70 = .ok ((.if_icmp .ne 5), 3)) rfl rfl rfl rfl (fun c14 => ?_) (fun c14 => ?_)
            · skip
              refine ok_seg (L := [((.iload_n 3), 1), ((.iconst 1), 1), ((.iload 6), 2), (.ishl, 1), (.ior, 1), ((.istore_n 3), 1)]) (pc' := 82) (ls' := [some (.ref x0), some (.int x1), some (.int x2), some (.int (x3 ||| (1 <<< ((((x4 - x5) + x2) - ((x4 - x5) + x2) / x2 * x2) &&& 31)))), some (.int x4), some (.int x5), some (.int (((x4 - x5) + x2) - ((x4 - x5) + x2) / x2 * x2))]) (st' := []) (w' := w) (by decide +kernel) rfl ?_
              exact o_M_isApart_p82 hk5 ih x0 x1 x2 (x3 ||| (1 <<< ((((x4 - x5) + x2) - ((x4 - x5) + x2) / x2 * x2) &&& 31))) x4 x5 (some (.int (((x4 - x5) + x2) - ((x4 - x5) + x2) / x2 * x2))) w
            · skip
              refine ok_seg (L := [((.iconst 0), 1)]) (pc' := 74) (ls' := [some (.ref x0), some (.int x1), some (.int x2), some (.int x3), some (.int x4), some (.int x5), some (.int (((x4 - x5) + x2) - ((x4 - x5) + x2) / x2 * x2))]) (st' := [.int 0]) (w' := w) (by decide +kernel) rfl ?_
              exact ok_ret (v := 0) (by decide +kernel : decode m_M_isApart.2.1 74 = .ok (.ireturn, 1)) rfl
          · skip
            refine ok_goto (t := 82) (by decide +kernel : decode m_M_isApart.2.1 49 = .ok ((.goto 33), 3)) rfl ?_
            exact o_M_isApart_p82 hk5 ih x0 x1 x2 x3 x4 x5 y6 w
theorem o_M_isApart_p5 {d : Nat} : ∀ (n : Nat) (x0 : Nat) (x1 : Int32) (x2 : Int32) (x3 : Int32) (x4 : Int32) (y5 y6 : Option Value) (w : am_W), am_Ok am_ji (d + 0) m_M_isApart 5 [some (.ref x0), some (.int x1), some (.int x2), some (.int x3), some (.int x4), y5, y6] [] w (f_M_isApart_p5 n x0 x1 x2 x3 x4 w) := by
  intro n
  induction n with
  | zero => intros; exact ok_none
  | succ n ih =>
    intro x0 x1 x2 x3 x4 y5 y6 w
    unfold f_M_isApart_p5
    refine ok_seg (L := [((.iload 4), 2), ((.iload_n 2), 1)]) (pc' := 8) (ls' := [some (.ref x0), some (.int x1), some (.int x2), some (.int x3), some (.int x4), y5, y6]) (st' := [.int x2, .int x4]) (w' := w) (by decide +kernel) rfl ?_
    refine ok_br (P := x2 ≤ x4) (off := 86) (t := 94) (by decide +kernel : decode m_M_isApart.2.1 8 = .ok ((.if_icmp .ge 86), 3)) rfl rfl rfl rfl (fun c15 => ?_) (fun c15 => ?_)
    · skip
      refine ok_seg (L := [((.iconst 1), 1)]) (pc' := 95) (ls' := [some (.ref x0), some (.int x1), some (.int x2), some (.int x3), some (.int x4), y5, y6]) (st' := [.int 1]) (w' := w) (by decide +kernel) rfl ?_
      exact ok_ret (v := 1) (by decide +kernel : decode m_M_isApart.2.1 95 = .ok (.ireturn, 1)) rfl
    · skip
      refine ok_seg (L := [((.iconst 0), 1), ((.istore 5), 2)]) (pc' := 14) (ls' := [some (.ref x0), some (.int x1), some (.int x2), some (.int x3), some (.int x4), some (.int 0), y6]) (st' := []) (w' := w) (by decide +kernel) rfl ?_
      exact o_M_isApart_p14 ih am_N x0 x1 x2 x3 x4 0 y6 w
theorem o_M_isApart (d : Nat) (x0 : Nat) (x1 : Int32) (x2 : Int32) (w : am_W) : am_Ok am_ji (d + 0) m_M_isApart 0 (am_en m_M_isApart [.ref x0, .int x1, .int x2]) [] w (f_M_isApart x0 x1 x2 w) := by
  show am_Ok _ _ _ 0 [some (.ref x0), some (.int x1), some (.int x2), none, none, none, none] [] w _
  unfold f_M_isApart
  refine ok_self ?_
  unfold e_M_isApart
  refine ok_seg (L := [((.iconst 0), 1), ((.istore_n 3), 1), ((.iconst 0), 1), ((.istore 4), 2)]) (pc' := 5) (ls' := [some (.ref x0), some (.int x1), some (.int x2), some (.int 0), some (.int 0), none, none]) (st' := []) (w' := w) (by decide +kernel) rfl ?_
  exact o_M_isApart_p5 am_N x0 x1 x2 0 0 none none w
-- m_M_apart
def f_M_apart_p82 (k60 : Nat → Int32 → Int32 → Int32 → am_W → Option (am_W × Int32)) (x0 : Nat) (x1 : Int32) (x2 : Int32) (x3 : Int32) (w : am_W) : Option (am_W × Int32) := (k60 x0 x1 x2 (x3 + 1) w)
def f_M_apart_p60 : Nat → Nat → Int32 → Int32 → Int32 → am_W → Option (am_W × Int32)
  | 0, _, _, _, _, _ => none
  | n + 1, x0, x1, x2, x3, w => (if 4 < x3 then (some (w, x2)) else ((f_M_isApart (x0) (x3) (x1) w).bind fun r2 => (if r2.2 = 0 then (f_M_apart_p82 (f_M_apart_p60 n) x0 x1 x2 x3 r2.1) else (f_M_apart_p82 (f_M_apart_p60 n) x0 x1 (x2 ||| (1 <<< ((x3 - 1) &&& 31))) x3 r2.1))))
def f_M_apart_p29 : Nat → Nat → Int32 → Int32 → am_W → Option (am_W × Int32)
  | 0, _, _, _, _ => none
  | n + 1, x0, x1, x2, w => (if x1 ≤ x2 then (f_M_apart_p60 am_N x0 x1 0 1 w) else ((am_gr w x0 7 1).bind fun v6 => ((am_ai w v6 x2).bind fun v8 => ((f_M_isIn (v8) (1) (4) w).bind fun r10 => (if ¬ r10.2 = 0 then (f_M_apart_p29 n x0 x1 (x2 + 1) r10.1) else (some (r10.1, (-1))))))))
def e_M_apart (x0 : Nat) (w : am_W) : Option (am_W × Int32) := ((am_pv w x0 7 0 (.int 0)).bind fun w13 => ((am_gi w13 x0 7 2).bind fun v15 => ((am_pv w13 x0 7 2 (.int 0)).bind fun w17 => ((f_M_isIn (v15) (1) (20) w17).bind fun r19 => (if ¬ r19.2 = 0 then (f_M_apart_p29 am_N x0 v15 0 r19.1) else (some (r19.1, (-1))))))))
def f_M_apart (x0 : Nat) (w : am_W) : Option (am_W × Int32) := am_self w x0 7 (e_M_apart x0 w)
theorem o_M_apart_p82 {d : Nat} {k60 : Nat → Int32 → Int32 → Int32 → am_W → Option (am_W × Int32)} (hk60 : ∀ (x0 : Nat) (x1 : Int32) (x2 : Int32) (x3 : Int32) (w : am_W), am_Ok am_ji (d + 1) m_M_apart 60 [some (.ref x0), some (.int x1), some (.int x2), some (.int x3)] [] w (k60 x0 x1 x2 x3 w)) (x0 : Nat) (x1 : Int32) (x2 : Int32) (x3 : Int32) (w : am_W) : am_Ok am_ji (d + 1) m_M_apart 82 [some (.ref x0), some (.int x1), some (.int x2), some (.int x3)] [] w (f_M_apart_p82 k60 x0 x1 x2 x3 w) := by
  unfold f_M_apart_p82
  refine ok_seg (L := [((.iinc 3 1), 3)]) (pc' := 85) (ls' := [some (.ref x0), some (.int x1), some (.int x2), some (.int (x3 + 1))]) (st' := []) (w' := w) (by decide +kernel) rfl ?_
  refine ok_goto (t := 60) (by decide +kernel : decode m_M_apart.2.1 85 = .ok ((.goto (-25)), 3)) rfl ?_
  exact hk60 x0 x1 x2 (x3 + 1) w
theorem o_M_apart_p60 {d : Nat} : ∀ (n : Nat) (x0 : Nat) (x1 : Int32) (x2 : Int32) (x3 : Int32) (w : am_W), am_Ok am_ji (d + 1) m_M_apart 60 [some (.ref x0), some (.int x1), some (.int x2), some (.int x3)] [] w (f_M_apart_p60 n x0 x1 x2 x3 w) := by
  intro n
  induction n with
  | zero => intros; exact ok_none
  | succ n ih =>
    intro x0 x1 x2 x3 w
    unfold f_M_apart_p60
    refine ok_seg (L := [((.iload_n 3), 1), ((.iconst 4), 1)]) (pc' := 62) (ls' := [some (.ref x0), some (.int x1), some (.int x2), some (.int x3)]) (st' := [.int 4, .int x3]) (w' := w) (by decide +kernel) rfl ?_
    refine ok_br (P := 4 < x3) (off := 26) (t := 88) (by decide +kernel : decode m_M_apart.2.1 62 = .ok ((.if_icmp .gt 26), 3)) rfl rfl rfl rfl (fun c1 => ?_) (fun c1 => ?_)
    · skip
      refine ok_seg (L := [((.iload_n 2), 1)]) (pc' := 89) (ls' := [some (.ref x0), some (.int x1), some (.int x2), some (.int x3)]) (st' := [.int x2]) (w' := w) (by decide +kernel) rfl ?_
      exact ok_ret (v := x2) (by decide +kernel : decode m_M_apart.2.1 89 = .ok (.ireturn, 1)) rfl
    · skip
      refine ok_seg (L := [((.aload_n 0), 1), ((.iload_n 3), 1), ((.iload_n 1), 1)]) (pc' := 68) (ls' := [some (.ref x0), some (.int x1), some (.int x2), some (.int x3)]) (st' := [.int x1, .int x3, .ref x0]) (w' := w) (by decide +kernel) rfl ?_
      refine ok_call0 (inj' := am_ji) (by decide +kernel : decode m_M_apart.2.1 68 = .ok ((.invokevirtual 246), 3)) rfl (fun q hq => am_iv0 (am_self_eq hq).1 rfl rfl rfl) (o_M_isApart (d + 0) (x0) (x3) (x1) w) (fun _ _ => rfl) (fun r2 h3 => ?_)
      refine ok_br (P := r2.2 = 0) (off := 11) (t := 82) (by decide +kernel : decode m_M_apart.2.1 71 = .ok ((.ifCond .eq 11), 3)) rfl rfl rfl rfl (fun c4 => ?_) (fun c4 => ?_)
      · skip
        exact o_M_apart_p82 ih x0 x1 x2 x3 r2.1
      · skip
        refine ok_seg (L := [((.iload_n 2), 1), ((.iconst 1), 1), ((.iload_n 3), 1), ((.iconst 1), 1), (.isub, 1), (.ishl, 1), (.ior, 1), ((.istore_n 2), 1)]) (pc' := 82) (ls' := [some (.ref x0), some (.int x1), some (.int (x2 ||| (1 <<< ((x3 - 1) &&& 31)))), some (.int x3)]) (st' := []) (w' := r2.1) (by decide +kernel) rfl ?_
        exact o_M_apart_p82 ih x0 x1 (x2 ||| (1 <<< ((x3 - 1) &&& 31))) x3 r2.1
theorem o_M_apart_p29 {d : Nat} : ∀ (n : Nat) (x0 : Nat) (x1 : Int32) (x2 : Int32) (y3 : Option Value) (w : am_W), am_Ok am_ji (d + 1) m_M_apart 29 [some (.ref x0), some (.int x1), some (.int x2), y3] [] w (f_M_apart_p29 n x0 x1 x2 w) := by
  intro n
  induction n with
  | zero => intros; exact ok_none
  | succ n ih =>
    intro x0 x1 x2 y3 w
    unfold f_M_apart_p29
    refine ok_seg (L := [((.iload_n 2), 1), ((.iload_n 1), 1)]) (pc' := 31) (ls' := [some (.ref x0), some (.int x1), some (.int x2), y3]) (st' := [.int x1, .int x2]) (w' := w) (by decide +kernel) rfl ?_
    refine ok_br (P := x1 ≤ x2) (off := 25) (t := 56) (by decide +kernel : decode m_M_apart.2.1 31 = .ok ((.if_icmp .ge 25), 3)) rfl rfl rfl rfl (fun c5 => ?_) (fun c5 => ?_)
    · skip
      refine ok_seg (L := [((.iconst 0), 1), ((.istore_n 2), 1), ((.iconst 1), 1), ((.istore_n 3), 1)]) (pc' := 60) (ls' := [some (.ref x0), some (.int x1), some (.int 0), some (.int 1)]) (st' := []) (w' := w) (by decide +kernel) rfl ?_
      exact o_M_apart_p60 am_N x0 x1 0 1 w
    · skip
      refine ok_seg (L := [((.aload_n 0), 1)]) (pc' := 35) (ls' := [some (.ref x0), some (.int x1), some (.int x2), y3]) (st' := [.ref x0]) (w' := w) (by decide +kernel) rfl ?_
      refine ok_gr (by decide +kernel : decode m_M_apart.2.1 35 = .ok ((.getfield 7), 3)) rfl (by decide) (fun v6 h7 => ?_)
      refine ok_seg (L := [((.iload_n 2), 1)]) (pc' := 39) (ls' := [some (.ref x0), some (.int x1), some (.int x2), y3]) (st' := [.int x2, .ref v6]) (w' := w) (by decide +kernel) rfl ?_
      refine ok_ai (by decide +kernel : decode m_M_apart.2.1 39 = .ok (.iaload, 1)) (fun v8 h9 => ?_)
      refine ok_seg (L := [((.iconst 1), 1), ((.iconst 4), 1)]) (pc' := 42) (ls' := [some (.ref x0), some (.int x1), some (.int x2), y3]) (st' := [.int 4, .int 1, .int v8]) (w' := w) (by decide +kernel) rfl ?_
      refine ok_call0 (inj' := am_ji) (by decide +kernel : decode m_M_apart.2.1 42 = .ok ((.invokestatic 121), 3)) rfl (fun _ _ => rfl) (o_M_isIn (d + 0) (v8) (1) (4) w) (fun _ _ => rfl) (fun r10 h11 => ?_)
      refine ok_br (P := ¬ r10.2 = 0) (off := 5) (t := 50) (by decide +kernel : decode m_M_apart.2.1 45 = .ok ((.ifCond .ne 5), 3)) rfl rfl rfl rfl (fun c12 => ?_) (fun c12 => ?_)
      · skip
        refine ok_seg (L := [((.iinc 2 1), 3)]) (pc' := 53) (ls' := [some (.ref x0), some (.int x1), some (.int (x2 + 1)), y3]) (st' := []) (w' := r10.1) (by decide +kernel) rfl ?_
        refine ok_goto (t := 29) (by decide +kernel : decode m_M_apart.2.1 53 = .ok ((.goto (-24)), 3)) rfl ?_
        exact ih x0 x1 (x2 + 1) y3 r10.1
      · skip
        refine ok_seg (L := [((.iconst (-1)), 1)]) (pc' := 49) (ls' := [some (.ref x0), some (.int x1), some (.int x2), y3]) (st' := [.int (-1)]) (w' := r10.1) (by decide +kernel) rfl ?_
        exact ok_ret (v := (-1)) (by decide +kernel : decode m_M_apart.2.1 49 = .ok (.ireturn, 1)) rfl
theorem o_M_apart (d : Nat) (x0 : Nat) (w : am_W) : am_Ok am_ji (d + 1) m_M_apart 0 (am_en m_M_apart [.ref x0]) [] w (f_M_apart x0 w) := by
  show am_Ok _ _ _ 0 [some (.ref x0), none, none, none] [] w _
  unfold f_M_apart
  refine ok_self ?_
  unfold e_M_apart
  refine ok_seg (L := [((.aload_n 0), 1), ((.iconst 0), 1)]) (pc' := 2) (ls' := [some (.ref x0), none, none, none]) (st' := [.int 0, .ref x0]) (w' := w) (by decide +kernel) rfl ?_
  refine ok_pi (by decide +kernel : decode m_M_apart.2.1 2 = .ok ((.putfield 1), 3)) rfl (fun w13 h14 => ?_)
  refine ok_seg (L := [((.aload_n 0), 1)]) (pc' := 6) (ls' := [some (.ref x0), none, none, none]) (st' := [.ref x0]) (w' := w13) (by decide +kernel) rfl ?_
  refine ok_gi (by decide +kernel : decode m_M_apart.2.1 6 = .ok ((.getfield 11), 3)) rfl (fun v15 h16 => ?_)
  refine ok_seg (L := [((.istore_n 1), 1), ((.aload_n 0), 1), ((.iconst 0), 1)]) (pc' := 12) (ls' := [some (.ref x0), some (.int v15), none, none]) (st' := [.int 0, .ref x0]) (w' := w13) (by decide +kernel) rfl ?_
  refine ok_pi (by decide +kernel : decode m_M_apart.2.1 12 = .ok ((.putfield 11), 3)) rfl (fun w17 h18 => ?_)
  refine ok_seg (L := [((.iload_n 1), 1), ((.iconst 1), 1), ((.bipush 20), 2)]) (pc' := 19) (ls' := [some (.ref x0), some (.int v15), none, none]) (st' := [.int 20, .int 1, .int v15]) (w' := w17) (by decide +kernel) rfl ?_
  refine ok_call0 (inj' := am_ji) (by decide +kernel : decode m_M_apart.2.1 19 = .ok ((.invokestatic 121), 3)) rfl (fun _ _ => rfl) (o_M_isIn (d + 0) (v15) (1) (20) w17) (fun _ _ => rfl) (fun r19 h20 => ?_)
  refine ok_br (P := ¬ r19.2 = 0) (off := 5) (t := 27) (by decide +kernel : decode m_M_apart.2.1 22 = .ok ((.ifCond .ne 5), 3)) rfl rfl rfl rfl (fun c21 => ?_) (fun c21 => ?_)
  · skip
    refine ok_seg (L := [((.iconst 0), 1), ((.istore_n 2), 1)]) (pc' := 29) (ls' := [some (.ref x0), some (.int v15), some (.int 0), none]) (st' := []) (w' := r19.1) (by decide +kernel) rfl ?_
    exact o_M_apart_p29 am_N x0 v15 0 none r19.1
  · skip
    refine ok_seg (L := [((.iconst (-1)), 1)]) (pc' := 26) (ls' := [some (.ref x0), some (.int v15), none, none]) (st' := [.int (-1)]) (w' := r19.1) (by decide +kernel) rfl ?_
    exact ok_ret (v := (-1)) (by decide +kernel : decode m_M_apart.2.1 26 = .ok (.ireturn, 1)) rfl
-- m_M_paint
def f_M_paint_p39 (w : am_W) : Option (am_W × Int32) := (some (w, (-1)))
def f_M_paint_p70 (s0 : Int32) (w : am_W) : Option (am_W × Int32) := (some (w, s0))
def e_M_paint (x0 : Nat) (x1 : Int32) (x2 : Int32) (w : am_W) : Option (am_W × Int32) := ((am_pv w x0 7 0 (.int 0)).bind fun w1 => ((f_M_isCell (x0) (x1) w1).bind fun r3 => (if r3.2 = 0 then (f_M_paint_p39 r3.1) else ((am_gr r3.1 x0 7 11).bind fun v6 => ((am_ai r3.1 v6 2).bind fun v8 => ((f_M_isIn (x2) (0) (v8) r3.1).bind fun r10 => (if r10.2 = 0 then (f_M_paint_p39 r10.1) else ((am_gr r10.1 x0 7 11).bind fun v13 => ((am_ai r10.1 v13 (3 + x1)).bind fun v15 => (if ¬ v15 = x2 then ((f_M_snap (x0) r10.1).bind fun r18 => ((am_gr r18.1 x0 7 11).bind fun v20 => ((am_si r18.1 v20 (3 + x1) x2).bind fun w22 => (if ¬ x2 = 0 then ((am_gr w22 x0 7 11).bind fun v25 => ((f_M_through_1 (v25) (x1) w22).bind fun r27 => (f_M_paint_p70 r27.2 r27.1))) else (f_M_paint_p70 0 w22))))) else (f_M_paint_p39 r10.1)))))))))))
def f_M_paint (x0 : Nat) (x1 : Int32) (x2 : Int32) (w : am_W) : Option (am_W × Int32) := am_self w x0 7 (e_M_paint x0 x1 x2 w)
theorem o_M_paint_p39 {d : Nat} (y0 y1 y2 : Option Value) (w : am_W) : am_Ok am_ji (d + 3) m_M_paint 39 [y0, y1, y2] [] w (f_M_paint_p39 w) := by
  unfold f_M_paint_p39
  refine ok_seg (L := [((.iconst (-1)), 1)]) (pc' := 40) (ls' := [y0, y1, y2]) (st' := [.int (-1)]) (w' := w) (by decide +kernel) rfl ?_
  exact ok_ret (v := (-1)) (by decide +kernel : decode m_M_paint.2.1 40 = .ok (.ireturn, 1)) rfl
theorem o_M_paint_p70 {d : Nat} (s0 : Int32) (y0 y1 y2 : Option Value) (w : am_W) : am_Ok am_ji (d + 3) m_M_paint 70 [y0, y1, y2] [.int s0] w (f_M_paint_p70 s0 w) := by
  unfold f_M_paint_p70
  exact ok_ret (v := s0) (by decide +kernel : decode m_M_paint.2.1 70 = .ok (.ireturn, 1)) rfl
theorem o_M_paint (d : Nat) (x0 : Nat) (x1 : Int32) (x2 : Int32) (w : am_W) : am_Ok am_ji (d + 3) m_M_paint 0 (am_en m_M_paint [.ref x0, .int x1, .int x2]) [] w (f_M_paint x0 x1 x2 w) := by
  show am_Ok _ _ _ 0 [some (.ref x0), some (.int x1), some (.int x2)] [] w _
  unfold f_M_paint
  refine ok_self ?_
  unfold e_M_paint
  refine ok_seg (L := [((.aload_n 0), 1), ((.iconst 0), 1)]) (pc' := 2) (ls' := [some (.ref x0), some (.int x1), some (.int x2)]) (st' := [.int 0, .ref x0]) (w' := w) (by decide +kernel) rfl ?_
  refine ok_pi (by decide +kernel : decode m_M_paint.2.1 2 = .ok ((.putfield 1), 3)) rfl (fun w1 h2 => ?_)
  refine ok_seg (L := [((.aload_n 0), 1), ((.iload_n 1), 1)]) (pc' := 7) (ls' := [some (.ref x0), some (.int x1), some (.int x2)]) (st' := [.int x1, .ref x0]) (w' := w1) (by decide +kernel) rfl ?_
  refine ok_call0 (inj' := am_ji) (by decide +kernel : decode m_M_paint.2.1 7 = .ok ((.invokevirtual 198), 3)) rfl (fun q hq => am_iv0 (am_self_eq hq).1 rfl rfl rfl) (o_M_isCell (d + 0) (x0) (x1) w1) (fun _ _ => rfl) (fun r3 h4 => ?_)
  refine ok_br (P := r3.2 = 0) (off := 29) (t := 39) (by decide +kernel : decode m_M_paint.2.1 10 = .ok ((.ifCond .eq 29), 3)) rfl rfl rfl rfl (fun c5 => ?_) (fun c5 => ?_)
  · skip
    exact o_M_paint_p39 (some (.ref x0)) (some (.int x1)) (some (.int x2)) r3.1
  · skip
    refine ok_seg (L := [((.iload_n 2), 1), ((.iconst 0), 1), ((.aload_n 0), 1)]) (pc' := 16) (ls' := [some (.ref x0), some (.int x1), some (.int x2)]) (st' := [.ref x0, .int 0, .int x2]) (w' := r3.1) (by decide +kernel) rfl ?_
    refine ok_gr (by decide +kernel : decode m_M_paint.2.1 16 = .ok ((.getfield 64), 3)) rfl (by decide) (fun v6 h7 => ?_)
    refine ok_seg (L := [((.iconst 2), 1)]) (pc' := 20) (ls' := [some (.ref x0), some (.int x1), some (.int x2)]) (st' := [.int 2, .ref v6, .int 0, .int x2]) (w' := r3.1) (by decide +kernel) rfl ?_
    refine ok_ai (by decide +kernel : decode m_M_paint.2.1 20 = .ok (.iaload, 1)) (fun v8 h9 => ?_)
    refine ok_call0 (inj' := am_ji) (by decide +kernel : decode m_M_paint.2.1 21 = .ok ((.invokestatic 121), 3)) rfl (fun _ _ => rfl) (o_M_isIn (d + 2) (x2) (0) (v8) r3.1) (fun _ _ => rfl) (fun r10 h11 => ?_)
    refine ok_br (P := r10.2 = 0) (off := 15) (t := 39) (by decide +kernel : decode m_M_paint.2.1 24 = .ok ((.ifCond .eq 15), 3)) rfl rfl rfl rfl (fun c12 => ?_) (fun c12 => ?_)
    · skip
      exact o_M_paint_p39 (some (.ref x0)) (some (.int x1)) (some (.int x2)) r10.1
    · skip
      refine ok_seg (L := [((.aload_n 0), 1)]) (pc' := 28) (ls' := [some (.ref x0), some (.int x1), some (.int x2)]) (st' := [.ref x0]) (w' := r10.1) (by decide +kernel) rfl ?_
      refine ok_gr (by decide +kernel : decode m_M_paint.2.1 28 = .ok ((.getfield 64), 3)) rfl (by decide) (fun v13 h14 => ?_)
      refine ok_seg (L := [((.iconst 3), 1), ((.iload_n 1), 1), (.iadd, 1)]) (pc' := 34) (ls' := [some (.ref x0), some (.int x1), some (.int x2)]) (st' := [.int (3 + x1), .ref v13]) (w' := r10.1) (by decide +kernel) rfl ?_
      refine ok_ai (by decide +kernel : decode m_M_paint.2.1 34 = .ok (.iaload, 1)) (fun v15 h16 => ?_)
      refine ok_seg (L := [((.iload_n 2), 1)]) (pc' := 36) (ls' := [some (.ref x0), some (.int x1), some (.int x2)]) (st' := [.int x2, .int v15]) (w' := r10.1) (by decide +kernel) rfl ?_
      refine ok_br (P := ¬ v15 = x2) (off := 5) (t := 41) (by decide +kernel : decode m_M_paint.2.1 36 = .ok ((.if_icmp .ne 5), 3)) rfl rfl rfl rfl (fun c17 => ?_) (fun c17 => ?_)
      · skip
        refine ok_seg (L := [((.aload_n 0), 1)]) (pc' := 42) (ls' := [some (.ref x0), some (.int x1), some (.int x2)]) (st' := [.ref x0]) (w' := r10.1) (by decide +kernel) rfl ?_
        refine ok_call0 (inj' := am_jv) (by decide +kernel : decode m_M_paint.2.1 42 = .ok ((.invokevirtual 236), 3)) rfl (fun q hq => am_iv0 (am_self_eq hq).1 rfl rfl rfl) (o_M_snap (d + 1) (x0) r10.1) (fun _ _ => rfl) (fun r18 h19 => ?_)
        refine ok_seg (L := [((.aload_n 0), 1)]) (pc' := 46) (ls' := [some (.ref x0), some (.int x1), some (.int x2)]) (st' := [.ref x0]) (w' := r18.1) (by decide +kernel) rfl ?_
        refine ok_gr (by decide +kernel : decode m_M_paint.2.1 46 = .ok ((.getfield 64), 3)) rfl (by decide) (fun v20 h21 => ?_)
        refine ok_seg (L := [((.iconst 3), 1), ((.iload_n 1), 1), (.iadd, 1), ((.iload_n 2), 1)]) (pc' := 53) (ls' := [some (.ref x0), some (.int x1), some (.int x2)]) (st' := [.int x2, .int (3 + x1), .ref v20]) (w' := r18.1) (by decide +kernel) rfl ?_
        refine ok_si (by decide +kernel : decode m_M_paint.2.1 53 = .ok (.iastore, 1)) (fun w22 h23 => ?_)
        refine ok_seg (L := [((.iload_n 2), 1)]) (pc' := 55) (ls' := [some (.ref x0), some (.int x1), some (.int x2)]) (st' := [.int x2]) (w' := w22) (by decide +kernel) rfl ?_
        refine ok_br (P := ¬ x2 = 0) (off := 7) (t := 62) (by decide +kernel : decode m_M_paint.2.1 55 = .ok ((.ifCond .ne 7), 3)) rfl rfl rfl rfl (fun c24 => ?_) (fun c24 => ?_)
        · skip
          refine ok_seg (L := [((.aload_n 0), 1)]) (pc' := 63) (ls' := [some (.ref x0), some (.int x1), some (.int x2)]) (st' := [.ref x0]) (w' := w22) (by decide +kernel) rfl ?_
          refine ok_gr (by decide +kernel : decode m_M_paint.2.1 63 = .ok ((.getfield 64), 3)) rfl (by decide) (fun v25 h26 => ?_)
          refine ok_seg (L := [((.iload_n 1), 1)]) (pc' := 67) (ls' := [some (.ref x0), some (.int x1), some (.int x2)]) (st' := [.int x1, .ref v25]) (w' := w22) (by decide +kernel) rfl ?_
          refine ok_call0 (inj' := am_ji) (by decide +kernel : decode m_M_paint.2.1 67 = .ok ((.invokestatic 208), 3)) rfl (fun _ _ => rfl) (o_M_through_1 (d + 0) (v25) (x1) w22) (fun _ _ => rfl) (fun r27 h28 => ?_)
          exact o_M_paint_p70 r27.2 (some (.ref x0)) (some (.int x1)) (some (.int x2)) r27.1
        · skip
          refine ok_seg (L := [((.iconst 0), 1)]) (pc' := 59) (ls' := [some (.ref x0), some (.int x1), some (.int x2)]) (st' := [.int 0]) (w' := w22) (by decide +kernel) rfl ?_
          refine ok_goto (t := 70) (by decide +kernel : decode m_M_paint.2.1 59 = .ok ((.goto 11), 3)) rfl ?_
          exact o_M_paint_p70 0 (some (.ref x0)) (some (.int x1)) (some (.int x2)) w22
      · skip
        exact o_M_paint_p39 (some (.ref x0)) (some (.int x1)) (some (.int x2)) r10.1
-- m_M_swap
def e_M_swap (x0 : Nat) (x1 : Int32) (x2 : Int32) (w : am_W) : Option (am_W × Unit) := ((am_gr w x0 7 11).bind fun v1 => ((am_ai w v1 (3 + x1)).bind fun v3 => ((am_gr w x0 7 11).bind fun v5 => ((am_gr w x0 7 11).bind fun v7 => ((am_ai w v7 (3 + x2)).bind fun v9 => ((am_si w v5 (3 + x1) v9).bind fun w11 => ((am_gr w11 x0 7 11).bind fun v13 => ((am_si w11 v13 (3 + x2) v3).bind fun w15 => (some (w15, ()))))))))))
def f_M_swap (x0 : Nat) (x1 : Int32) (x2 : Int32) (w : am_W) : Option (am_W × Unit) := am_self w x0 7 (e_M_swap x0 x1 x2 w)
theorem o_M_swap (d : Nat) (x0 : Nat) (x1 : Int32) (x2 : Int32) (w : am_W) : am_Ok am_jv (d + 0) m_M_swap 0 (am_en m_M_swap [.ref x0, .int x1, .int x2]) [] w (f_M_swap x0 x1 x2 w) := by
  show am_Ok _ _ _ 0 [some (.ref x0), some (.int x1), some (.int x2), none] [] w _
  unfold f_M_swap
  refine ok_self ?_
  unfold e_M_swap
  refine ok_seg (L := [((.aload_n 0), 1)]) (pc' := 1) (ls' := [some (.ref x0), some (.int x1), some (.int x2), none]) (st' := [.ref x0]) (w' := w) (by decide +kernel) rfl ?_
  refine ok_gr (by decide +kernel : decode m_M_swap.2.1 1 = .ok ((.getfield 64), 3)) rfl (by decide) (fun v1 h2 => ?_)
  refine ok_seg (L := [((.iconst 3), 1), ((.iload_n 1), 1), (.iadd, 1)]) (pc' := 7) (ls' := [some (.ref x0), some (.int x1), some (.int x2), none]) (st' := [.int (3 + x1), .ref v1]) (w' := w) (by decide +kernel) rfl ?_
  refine ok_ai (by decide +kernel : decode m_M_swap.2.1 7 = .ok (.iaload, 1)) (fun v3 h4 => ?_)
  refine ok_seg (L := [((.istore_n 3), 1), ((.aload_n 0), 1)]) (pc' := 10) (ls' := [some (.ref x0), some (.int x1), some (.int x2), some (.int v3)]) (st' := [.ref x0]) (w' := w) (by decide +kernel) rfl ?_
  refine ok_gr (by decide +kernel : decode m_M_swap.2.1 10 = .ok ((.getfield 64), 3)) rfl (by decide) (fun v5 h6 => ?_)
  refine ok_seg (L := [((.iconst 3), 1), ((.iload_n 1), 1), (.iadd, 1), ((.aload_n 0), 1)]) (pc' := 17) (ls' := [some (.ref x0), some (.int x1), some (.int x2), some (.int v3)]) (st' := [.ref x0, .int (3 + x1), .ref v5]) (w' := w) (by decide +kernel) rfl ?_
  refine ok_gr (by decide +kernel : decode m_M_swap.2.1 17 = .ok ((.getfield 64), 3)) rfl (by decide) (fun v7 h8 => ?_)
  refine ok_seg (L := [((.iconst 3), 1), ((.iload_n 2), 1), (.iadd, 1)]) (pc' := 23) (ls' := [some (.ref x0), some (.int x1), some (.int x2), some (.int v3)]) (st' := [.int (3 + x2), .ref v7, .int (3 + x1), .ref v5]) (w' := w) (by decide +kernel) rfl ?_
  refine ok_ai (by decide +kernel : decode m_M_swap.2.1 23 = .ok (.iaload, 1)) (fun v9 h10 => ?_)
  refine ok_si (by decide +kernel : decode m_M_swap.2.1 24 = .ok (.iastore, 1)) (fun w11 h12 => ?_)
  refine ok_seg (L := [((.aload_n 0), 1)]) (pc' := 26) (ls' := [some (.ref x0), some (.int x1), some (.int x2), some (.int v3)]) (st' := [.ref x0]) (w' := w11) (by decide +kernel) rfl ?_
  refine ok_gr (by decide +kernel : decode m_M_swap.2.1 26 = .ok ((.getfield 64), 3)) rfl (by decide) (fun v13 h14 => ?_)
  refine ok_seg (L := [((.iconst 3), 1), ((.iload_n 2), 1), (.iadd, 1), ((.iload_n 3), 1)]) (pc' := 33) (ls' := [some (.ref x0), some (.int x1), some (.int x2), some (.int v3)]) (st' := [.int v3, .int (3 + x2), .ref v13]) (w' := w11) (by decide +kernel) rfl ?_
  refine ok_si (by decide +kernel : decode m_M_swap.2.1 33 = .ok (.iastore, 1)) (fun w15 h16 => ?_)
  exact ok_ret (v := ()) (by decide +kernel : decode m_M_swap.2.1 34 = .ok (.return_, 1)) rfl
-- m_M_rows
def f_M_rows_p38 (w : am_W) : Option (am_W × Int32) := (some (w, 0))
def f_M_rows_p46 : Nat → Nat → Int32 → Int32 → Int32 → am_W → Option (am_W × Int32)
  | 0, _, _, _, _, _ => none
  | n + 1, x0, x1, x2, x3, w => ((f_M_broad (x0) w).bind fun r1 => (if r1.2 ≤ x3 then (some (r1.1, 1)) else ((f_M_broad (x0) r1.1).bind fun r4 => ((f_M_broad (x0) r4.1).bind fun r6 => ((f_M_swap (x0) (((r4.2 * x1) + x3)) (((r6.2 * x2) + x3)) r6.1).bind fun r8 => (f_M_rows_p46 n x0 x1 x2 (x3 + 1) r8.1))))))
def e_M_rows (x0 : Nat) (x1 : Int32) (x2 : Int32) (w : am_W) : Option (am_W × Int32) := ((am_pv w x0 7 0 (.int 0)).bind fun w10 => ((f_M_high (x0) w10).bind fun r12 => ((f_M_isIn (x1) (0) ((r12.2 - 1)) r12.1).bind fun r14 => (if r14.2 = 0 then (f_M_rows_p38 r14.1) else ((f_M_high (x0) r14.1).bind fun r17 => ((f_M_isIn (x2) (0) ((r17.2 - 1)) r17.1).bind fun r19 => (if r19.2 = 0 then (f_M_rows_p38 r19.1) else (if ¬ x1 = x2 then ((f_M_snap (x0) r19.1).bind fun r23 => (f_M_rows_p46 am_N x0 x1 x2 0 r23.1)) else (f_M_rows_p38 r19.1)))))))))
def f_M_rows (x0 : Nat) (x1 : Int32) (x2 : Int32) (w : am_W) : Option (am_W × Int32) := am_self w x0 7 (e_M_rows x0 x1 x2 w)
theorem o_M_rows_p38 {d : Nat} (y0 y1 y2 y3 : Option Value) (w : am_W) : am_Ok am_ji (d + 2) m_M_rows 38 [y0, y1, y2, y3] [] w (f_M_rows_p38 w) := by
  unfold f_M_rows_p38
  refine ok_seg (L := [((.iconst 0), 1)]) (pc' := 39) (ls' := [y0, y1, y2, y3]) (st' := [.int 0]) (w' := w) (by decide +kernel) rfl ?_
  exact ok_ret (v := 0) (by decide +kernel : decode m_M_rows.2.1 39 = .ok (.ireturn, 1)) rfl
theorem o_M_rows_p46 {d : Nat} : ∀ (n : Nat) (x0 : Nat) (x1 : Int32) (x2 : Int32) (x3 : Int32) (w : am_W), am_Ok am_ji (d + 2) m_M_rows 46 [some (.ref x0), some (.int x1), some (.int x2), some (.int x3)] [] w (f_M_rows_p46 n x0 x1 x2 x3 w) := by
  intro n
  induction n with
  | zero => intros; exact ok_none
  | succ n ih =>
    intro x0 x1 x2 x3 w
    unfold f_M_rows_p46
    refine ok_seg (L := [((.iload_n 3), 1), ((.aload_n 0), 1)]) (pc' := 48) (ls' := [some (.ref x0), some (.int x1), some (.int x2), some (.int x3)]) (st' := [.ref x0, .int x3]) (w' := w) (by decide +kernel) rfl ?_
    refine ok_call0 (inj' := am_ji) (by decide +kernel : decode m_M_rows.2.1 48 = .ok ((.invokevirtual 167), 3)) rfl (fun q hq => am_iv0 (am_self_eq hq).1 rfl rfl rfl) (o_M_broad (d + 1) (x0) w) (fun _ _ => rfl) (fun r1 h2 => ?_)
    refine ok_br (P := r1.2 ≤ x3) (off := 29) (t := 80) (by decide +kernel : decode m_M_rows.2.1 51 = .ok ((.if_icmp .ge 29), 3)) rfl rfl rfl rfl (fun c3 => ?_) (fun c3 => ?_)
    · skip
      refine ok_seg (L := [((.iconst 1), 1)]) (pc' := 81) (ls' := [some (.ref x0), some (.int x1), some (.int x2), some (.int x3)]) (st' := [.int 1]) (w' := r1.1) (by decide +kernel) rfl ?_
      exact ok_ret (v := 1) (by decide +kernel : decode m_M_rows.2.1 81 = .ok (.ireturn, 1)) rfl
    · skip
      refine ok_seg (L := [((.aload_n 0), 1), ((.aload_n 0), 1)]) (pc' := 56) (ls' := [some (.ref x0), some (.int x1), some (.int x2), some (.int x3)]) (st' := [.ref x0, .ref x0]) (w' := r1.1) (by decide +kernel) rfl ?_
      refine ok_call0 (inj' := am_ji) (by decide +kernel : decode m_M_rows.2.1 56 = .ok ((.invokevirtual 167), 3)) rfl (fun q hq => am_iv0 (am_self_eq hq).1 rfl rfl rfl) (o_M_broad (d + 1) (x0) r1.1) (fun _ _ => rfl) (fun r4 h5 => ?_)
      refine ok_seg (L := [((.iload_n 1), 1), (.imul, 1), ((.iload_n 3), 1), (.iadd, 1), ((.aload_n 0), 1)]) (pc' := 64) (ls' := [some (.ref x0), some (.int x1), some (.int x2), some (.int x3)]) (st' := [.ref x0, .int ((r4.2 * x1) + x3), .ref x0]) (w' := r4.1) (by decide +kernel) rfl ?_
      refine ok_call0 (inj' := am_ji) (by decide +kernel : decode m_M_rows.2.1 64 = .ok ((.invokevirtual 167), 3)) rfl (fun q hq => am_iv0 (am_self_eq hq).1 rfl rfl rfl) (o_M_broad (d + 1) (x0) r4.1) (fun _ _ => rfl) (fun r6 h7 => ?_)
      refine ok_seg (L := [((.iload_n 2), 1), (.imul, 1), ((.iload_n 3), 1), (.iadd, 1)]) (pc' := 71) (ls' := [some (.ref x0), some (.int x1), some (.int x2), some (.int x3)]) (st' := [.int ((r6.2 * x2) + x3), .int ((r4.2 * x1) + x3), .ref x0]) (w' := r6.1) (by decide +kernel) rfl ?_
      refine ok_call0 (inj' := am_jv) (by decide +kernel : decode m_M_rows.2.1 71 = .ok ((.invokevirtual 249), 3)) rfl (fun q hq => am_iv0 (am_self_eq hq).1 rfl rfl rfl) (o_M_swap (d + 1) (x0) (((r4.2 * x1) + x3)) (((r6.2 * x2) + x3)) r6.1) (fun _ _ => rfl) (fun r8 h9 => ?_)
      refine ok_seg (L := [((.iinc 3 1), 3)]) (pc' := 77) (ls' := [some (.ref x0), some (.int x1), some (.int x2), some (.int (x3 + 1))]) (st' := []) (w' := r8.1) (by decide +kernel) rfl ?_
      refine ok_goto (t := 46) (by decide +kernel : decode m_M_rows.2.1 77 = .ok ((.goto (-31)), 3)) rfl ?_
      exact ih x0 x1 x2 (x3 + 1) r8.1
theorem o_M_rows (d : Nat) (x0 : Nat) (x1 : Int32) (x2 : Int32) (w : am_W) : am_Ok am_ji (d + 2) m_M_rows 0 (am_en m_M_rows [.ref x0, .int x1, .int x2]) [] w (f_M_rows x0 x1 x2 w) := by
  show am_Ok _ _ _ 0 [some (.ref x0), some (.int x1), some (.int x2), none] [] w _
  unfold f_M_rows
  refine ok_self ?_
  unfold e_M_rows
  refine ok_seg (L := [((.aload_n 0), 1), ((.iconst 0), 1)]) (pc' := 2) (ls' := [some (.ref x0), some (.int x1), some (.int x2), none]) (st' := [.int 0, .ref x0]) (w' := w) (by decide +kernel) rfl ?_
  refine ok_pi (by decide +kernel : decode m_M_rows.2.1 2 = .ok ((.putfield 1), 3)) rfl (fun w10 h11 => ?_)
  refine ok_seg (L := [((.iload_n 1), 1), ((.iconst 0), 1), ((.aload_n 0), 1)]) (pc' := 8) (ls' := [some (.ref x0), some (.int x1), some (.int x2), none]) (st' := [.ref x0, .int 0, .int x1]) (w' := w10) (by decide +kernel) rfl ?_
  refine ok_call0 (inj' := am_ji) (by decide +kernel : decode m_M_rows.2.1 8 = .ok ((.invokevirtual 163), 3)) rfl (fun q hq => am_iv0 (am_self_eq hq).1 rfl rfl rfl) (o_M_high (d + 1) (x0) w10) (fun _ _ => rfl) (fun r12 h13 => ?_)
  refine ok_seg (L := [((.iconst 1), 1), (.isub, 1)]) (pc' := 13) (ls' := [some (.ref x0), some (.int x1), some (.int x2), none]) (st' := [.int (r12.2 - 1), .int 0, .int x1]) (w' := r12.1) (by decide +kernel) rfl ?_
  refine ok_call0 (inj' := am_ji) (by decide +kernel : decode m_M_rows.2.1 13 = .ok ((.invokestatic 121), 3)) rfl (fun _ _ => rfl) (o_M_isIn (d + 1) (x1) (0) ((r12.2 - 1)) r12.1) (fun _ _ => rfl) (fun r14 h15 => ?_)
  refine ok_br (P := r14.2 = 0) (off := 22) (t := 38) (by decide +kernel : decode m_M_rows.2.1 16 = .ok ((.ifCond .eq 22), 3)) rfl rfl rfl rfl (fun c16 => ?_) (fun c16 => ?_)
  · skip
    exact o_M_rows_p38 (some (.ref x0)) (some (.int x1)) (some (.int x2)) none r14.1
  · skip
    refine ok_seg (L := [((.iload_n 2), 1), ((.iconst 0), 1), ((.aload_n 0), 1)]) (pc' := 22) (ls' := [some (.ref x0), some (.int x1), some (.int x2), none]) (st' := [.ref x0, .int 0, .int x2]) (w' := r14.1) (by decide +kernel) rfl ?_
    refine ok_call0 (inj' := am_ji) (by decide +kernel : decode m_M_rows.2.1 22 = .ok ((.invokevirtual 163), 3)) rfl (fun q hq => am_iv0 (am_self_eq hq).1 rfl rfl rfl) (o_M_high (d + 1) (x0) r14.1) (fun _ _ => rfl) (fun r17 h18 => ?_)
    refine ok_seg (L := [((.iconst 1), 1), (.isub, 1)]) (pc' := 27) (ls' := [some (.ref x0), some (.int x1), some (.int x2), none]) (st' := [.int (r17.2 - 1), .int 0, .int x2]) (w' := r17.1) (by decide +kernel) rfl ?_
    refine ok_call0 (inj' := am_ji) (by decide +kernel : decode m_M_rows.2.1 27 = .ok ((.invokestatic 121), 3)) rfl (fun _ _ => rfl) (o_M_isIn (d + 1) (x2) (0) ((r17.2 - 1)) r17.1) (fun _ _ => rfl) (fun r19 h20 => ?_)
    refine ok_br (P := r19.2 = 0) (off := 8) (t := 38) (by decide +kernel : decode m_M_rows.2.1 30 = .ok ((.ifCond .eq 8), 3)) rfl rfl rfl rfl (fun c21 => ?_) (fun c21 => ?_)
    · skip
      exact o_M_rows_p38 (some (.ref x0)) (some (.int x1)) (some (.int x2)) none r19.1
    · skip
      refine ok_seg (L := [((.iload_n 1), 1), ((.iload_n 2), 1)]) (pc' := 35) (ls' := [some (.ref x0), some (.int x1), some (.int x2), none]) (st' := [.int x2, .int x1]) (w' := r19.1) (by decide +kernel) rfl ?_
      refine ok_br (P := ¬ x1 = x2) (off := 5) (t := 40) (by decide +kernel : decode m_M_rows.2.1 35 = .ok ((.if_icmp .ne 5), 3)) rfl rfl rfl rfl (fun c22 => ?_) (fun c22 => ?_)
      · skip
        refine ok_seg (L := [((.aload_n 0), 1)]) (pc' := 41) (ls' := [some (.ref x0), some (.int x1), some (.int x2), none]) (st' := [.ref x0]) (w' := r19.1) (by decide +kernel) rfl ?_
        refine ok_call0 (inj' := am_jv) (by decide +kernel : decode m_M_rows.2.1 41 = .ok ((.invokevirtual 236), 3)) rfl (fun q hq => am_iv0 (am_self_eq hq).1 rfl rfl rfl) (o_M_snap (d + 0) (x0) r19.1) (fun _ _ => rfl) (fun r23 h24 => ?_)
        refine ok_seg (L := [((.iconst 0), 1), ((.istore_n 3), 1)]) (pc' := 46) (ls' := [some (.ref x0), some (.int x1), some (.int x2), some (.int 0)]) (st' := []) (w' := r23.1) (by decide +kernel) rfl ?_
        exact o_M_rows_p46 am_N x0 x1 x2 0 r23.1
      · skip
        exact o_M_rows_p38 (some (.ref x0)) (some (.int x1)) (some (.int x2)) none r19.1
-- m_M_columns
def f_M_columns_p38 (w : am_W) : Option (am_W × Int32) := (some (w, 0))
def f_M_columns_p46 : Nat → Nat → Int32 → Int32 → Int32 → am_W → Option (am_W × Int32)
  | 0, _, _, _, _, _ => none
  | n + 1, x0, x1, x2, x3, w => ((f_M_high (x0) w).bind fun r1 => (if r1.2 ≤ x3 then (some (r1.1, 1)) else ((f_M_broad (x0) r1.1).bind fun r4 => ((f_M_broad (x0) r4.1).bind fun r6 => ((f_M_swap (x0) (((r4.2 * x3) + x1)) (((r6.2 * x3) + x2)) r6.1).bind fun r8 => (f_M_columns_p46 n x0 x1 x2 (x3 + 1) r8.1))))))
def e_M_columns (x0 : Nat) (x1 : Int32) (x2 : Int32) (w : am_W) : Option (am_W × Int32) := ((am_pv w x0 7 0 (.int 0)).bind fun w10 => ((f_M_broad (x0) w10).bind fun r12 => ((f_M_isIn (x1) (0) ((r12.2 - 1)) r12.1).bind fun r14 => (if r14.2 = 0 then (f_M_columns_p38 r14.1) else ((f_M_broad (x0) r14.1).bind fun r17 => ((f_M_isIn (x2) (0) ((r17.2 - 1)) r17.1).bind fun r19 => (if r19.2 = 0 then (f_M_columns_p38 r19.1) else (if ¬ x1 = x2 then ((f_M_snap (x0) r19.1).bind fun r23 => (f_M_columns_p46 am_N x0 x1 x2 0 r23.1)) else (f_M_columns_p38 r19.1)))))))))
def f_M_columns (x0 : Nat) (x1 : Int32) (x2 : Int32) (w : am_W) : Option (am_W × Int32) := am_self w x0 7 (e_M_columns x0 x1 x2 w)
theorem o_M_columns_p38 {d : Nat} (y0 y1 y2 y3 : Option Value) (w : am_W) : am_Ok am_ji (d + 2) m_M_columns 38 [y0, y1, y2, y3] [] w (f_M_columns_p38 w) := by
  unfold f_M_columns_p38
  refine ok_seg (L := [((.iconst 0), 1)]) (pc' := 39) (ls' := [y0, y1, y2, y3]) (st' := [.int 0]) (w' := w) (by decide +kernel) rfl ?_
  exact ok_ret (v := 0) (by decide +kernel : decode m_M_columns.2.1 39 = .ok (.ireturn, 1)) rfl
theorem o_M_columns_p46 {d : Nat} : ∀ (n : Nat) (x0 : Nat) (x1 : Int32) (x2 : Int32) (x3 : Int32) (w : am_W), am_Ok am_ji (d + 2) m_M_columns 46 [some (.ref x0), some (.int x1), some (.int x2), some (.int x3)] [] w (f_M_columns_p46 n x0 x1 x2 x3 w) := by
  intro n
  induction n with
  | zero => intros; exact ok_none
  | succ n ih =>
    intro x0 x1 x2 x3 w
    unfold f_M_columns_p46
    refine ok_seg (L := [((.iload_n 3), 1), ((.aload_n 0), 1)]) (pc' := 48) (ls' := [some (.ref x0), some (.int x1), some (.int x2), some (.int x3)]) (st' := [.ref x0, .int x3]) (w' := w) (by decide +kernel) rfl ?_
    refine ok_call0 (inj' := am_ji) (by decide +kernel : decode m_M_columns.2.1 48 = .ok ((.invokevirtual 163), 3)) rfl (fun q hq => am_iv0 (am_self_eq hq).1 rfl rfl rfl) (o_M_high (d + 1) (x0) w) (fun _ _ => rfl) (fun r1 h2 => ?_)
    refine ok_br (P := r1.2 ≤ x3) (off := 29) (t := 80) (by decide +kernel : decode m_M_columns.2.1 51 = .ok ((.if_icmp .ge 29), 3)) rfl rfl rfl rfl (fun c3 => ?_) (fun c3 => ?_)
    · skip
      refine ok_seg (L := [((.iconst 1), 1)]) (pc' := 81) (ls' := [some (.ref x0), some (.int x1), some (.int x2), some (.int x3)]) (st' := [.int 1]) (w' := r1.1) (by decide +kernel) rfl ?_
      exact ok_ret (v := 1) (by decide +kernel : decode m_M_columns.2.1 81 = .ok (.ireturn, 1)) rfl
    · skip
      refine ok_seg (L := [((.aload_n 0), 1), ((.aload_n 0), 1)]) (pc' := 56) (ls' := [some (.ref x0), some (.int x1), some (.int x2), some (.int x3)]) (st' := [.ref x0, .ref x0]) (w' := r1.1) (by decide +kernel) rfl ?_
      refine ok_call0 (inj' := am_ji) (by decide +kernel : decode m_M_columns.2.1 56 = .ok ((.invokevirtual 167), 3)) rfl (fun q hq => am_iv0 (am_self_eq hq).1 rfl rfl rfl) (o_M_broad (d + 1) (x0) r1.1) (fun _ _ => rfl) (fun r4 h5 => ?_)
      refine ok_seg (L := [((.iload_n 3), 1), (.imul, 1), ((.iload_n 1), 1), (.iadd, 1), ((.aload_n 0), 1)]) (pc' := 64) (ls' := [some (.ref x0), some (.int x1), some (.int x2), some (.int x3)]) (st' := [.ref x0, .int ((r4.2 * x3) + x1), .ref x0]) (w' := r4.1) (by decide +kernel) rfl ?_
      refine ok_call0 (inj' := am_ji) (by decide +kernel : decode m_M_columns.2.1 64 = .ok ((.invokevirtual 167), 3)) rfl (fun q hq => am_iv0 (am_self_eq hq).1 rfl rfl rfl) (o_M_broad (d + 1) (x0) r4.1) (fun _ _ => rfl) (fun r6 h7 => ?_)
      refine ok_seg (L := [((.iload_n 3), 1), (.imul, 1), ((.iload_n 2), 1), (.iadd, 1)]) (pc' := 71) (ls' := [some (.ref x0), some (.int x1), some (.int x2), some (.int x3)]) (st' := [.int ((r6.2 * x3) + x2), .int ((r4.2 * x3) + x1), .ref x0]) (w' := r6.1) (by decide +kernel) rfl ?_
      refine ok_call0 (inj' := am_jv) (by decide +kernel : decode m_M_columns.2.1 71 = .ok ((.invokevirtual 249), 3)) rfl (fun q hq => am_iv0 (am_self_eq hq).1 rfl rfl rfl) (o_M_swap (d + 1) (x0) (((r4.2 * x3) + x1)) (((r6.2 * x3) + x2)) r6.1) (fun _ _ => rfl) (fun r8 h9 => ?_)
      refine ok_seg (L := [((.iinc 3 1), 3)]) (pc' := 77) (ls' := [some (.ref x0), some (.int x1), some (.int x2), some (.int (x3 + 1))]) (st' := []) (w' := r8.1) (by decide +kernel) rfl ?_
      refine ok_goto (t := 46) (by decide +kernel : decode m_M_columns.2.1 77 = .ok ((.goto (-31)), 3)) rfl ?_
      exact ih x0 x1 x2 (x3 + 1) r8.1
theorem o_M_columns (d : Nat) (x0 : Nat) (x1 : Int32) (x2 : Int32) (w : am_W) : am_Ok am_ji (d + 2) m_M_columns 0 (am_en m_M_columns [.ref x0, .int x1, .int x2]) [] w (f_M_columns x0 x1 x2 w) := by
  show am_Ok _ _ _ 0 [some (.ref x0), some (.int x1), some (.int x2), none] [] w _
  unfold f_M_columns
  refine ok_self ?_
  unfold e_M_columns
  refine ok_seg (L := [((.aload_n 0), 1), ((.iconst 0), 1)]) (pc' := 2) (ls' := [some (.ref x0), some (.int x1), some (.int x2), none]) (st' := [.int 0, .ref x0]) (w' := w) (by decide +kernel) rfl ?_
  refine ok_pi (by decide +kernel : decode m_M_columns.2.1 2 = .ok ((.putfield 1), 3)) rfl (fun w10 h11 => ?_)
  refine ok_seg (L := [((.iload_n 1), 1), ((.iconst 0), 1), ((.aload_n 0), 1)]) (pc' := 8) (ls' := [some (.ref x0), some (.int x1), some (.int x2), none]) (st' := [.ref x0, .int 0, .int x1]) (w' := w10) (by decide +kernel) rfl ?_
  refine ok_call0 (inj' := am_ji) (by decide +kernel : decode m_M_columns.2.1 8 = .ok ((.invokevirtual 167), 3)) rfl (fun q hq => am_iv0 (am_self_eq hq).1 rfl rfl rfl) (o_M_broad (d + 1) (x0) w10) (fun _ _ => rfl) (fun r12 h13 => ?_)
  refine ok_seg (L := [((.iconst 1), 1), (.isub, 1)]) (pc' := 13) (ls' := [some (.ref x0), some (.int x1), some (.int x2), none]) (st' := [.int (r12.2 - 1), .int 0, .int x1]) (w' := r12.1) (by decide +kernel) rfl ?_
  refine ok_call0 (inj' := am_ji) (by decide +kernel : decode m_M_columns.2.1 13 = .ok ((.invokestatic 121), 3)) rfl (fun _ _ => rfl) (o_M_isIn (d + 1) (x1) (0) ((r12.2 - 1)) r12.1) (fun _ _ => rfl) (fun r14 h15 => ?_)
  refine ok_br (P := r14.2 = 0) (off := 22) (t := 38) (by decide +kernel : decode m_M_columns.2.1 16 = .ok ((.ifCond .eq 22), 3)) rfl rfl rfl rfl (fun c16 => ?_) (fun c16 => ?_)
  · skip
    exact o_M_columns_p38 (some (.ref x0)) (some (.int x1)) (some (.int x2)) none r14.1
  · skip
    refine ok_seg (L := [((.iload_n 2), 1), ((.iconst 0), 1), ((.aload_n 0), 1)]) (pc' := 22) (ls' := [some (.ref x0), some (.int x1), some (.int x2), none]) (st' := [.ref x0, .int 0, .int x2]) (w' := r14.1) (by decide +kernel) rfl ?_
    refine ok_call0 (inj' := am_ji) (by decide +kernel : decode m_M_columns.2.1 22 = .ok ((.invokevirtual 167), 3)) rfl (fun q hq => am_iv0 (am_self_eq hq).1 rfl rfl rfl) (o_M_broad (d + 1) (x0) r14.1) (fun _ _ => rfl) (fun r17 h18 => ?_)
    refine ok_seg (L := [((.iconst 1), 1), (.isub, 1)]) (pc' := 27) (ls' := [some (.ref x0), some (.int x1), some (.int x2), none]) (st' := [.int (r17.2 - 1), .int 0, .int x2]) (w' := r17.1) (by decide +kernel) rfl ?_
    refine ok_call0 (inj' := am_ji) (by decide +kernel : decode m_M_columns.2.1 27 = .ok ((.invokestatic 121), 3)) rfl (fun _ _ => rfl) (o_M_isIn (d + 1) (x2) (0) ((r17.2 - 1)) r17.1) (fun _ _ => rfl) (fun r19 h20 => ?_)
    refine ok_br (P := r19.2 = 0) (off := 8) (t := 38) (by decide +kernel : decode m_M_columns.2.1 30 = .ok ((.ifCond .eq 8), 3)) rfl rfl rfl rfl (fun c21 => ?_) (fun c21 => ?_)
    · skip
      exact o_M_columns_p38 (some (.ref x0)) (some (.int x1)) (some (.int x2)) none r19.1
    · skip
      refine ok_seg (L := [((.iload_n 1), 1), ((.iload_n 2), 1)]) (pc' := 35) (ls' := [some (.ref x0), some (.int x1), some (.int x2), none]) (st' := [.int x2, .int x1]) (w' := r19.1) (by decide +kernel) rfl ?_
      refine ok_br (P := ¬ x1 = x2) (off := 5) (t := 40) (by decide +kernel : decode m_M_columns.2.1 35 = .ok ((.if_icmp .ne 5), 3)) rfl rfl rfl rfl (fun c22 => ?_) (fun c22 => ?_)
      · skip
        refine ok_seg (L := [((.aload_n 0), 1)]) (pc' := 41) (ls' := [some (.ref x0), some (.int x1), some (.int x2), none]) (st' := [.ref x0]) (w' := r19.1) (by decide +kernel) rfl ?_
        refine ok_call0 (inj' := am_jv) (by decide +kernel : decode m_M_columns.2.1 41 = .ok ((.invokevirtual 236), 3)) rfl (fun q hq => am_iv0 (am_self_eq hq).1 rfl rfl rfl) (o_M_snap (d + 0) (x0) r19.1) (fun _ _ => rfl) (fun r23 h24 => ?_)
        refine ok_seg (L := [((.iconst 0), 1), ((.istore_n 3), 1)]) (pc' := 46) (ls' := [some (.ref x0), some (.int x1), some (.int x2), some (.int 0)]) (st' := []) (w' := r23.1) (by decide +kernel) rfl ?_
        exact o_M_columns_p46 am_N x0 x1 x2 0 r23.1
      · skip
        exact o_M_columns_p38 (some (.ref x0)) (some (.int x1)) (some (.int x2)) none r19.1
-- m_M_name
def f_M_name_p28 (w : am_W) : Option (am_W × Int32) := (some (w, (-1)))
def f_M_name_p92 (k39 : Nat → Int32 → Int32 → Int32 → Int32 → am_W → Option (am_W × Int32)) (x0 : Nat) (x1 : Int32) (x2 : Int32) (x3 : Int32) (x4 : Int32) (w : am_W) : Option (am_W × Int32) := (k39 x0 x1 x2 x3 (x4 + 1) w)
def f_M_name_p74 (k39 : Nat → Int32 → Int32 → Int32 → Int32 → am_W → Option (am_W × Int32)) (x0 : Nat) (x1 : Int32) (x2 : Int32) (x3 : Int32) (x4 : Int32) (x5 : Int32) (w : am_W) : Option (am_W × Int32) := ((am_gr w x0 7 11).bind fun v1 => ((am_si w v1 (3 + x4) ((x1 + x2) - x5)).bind fun w3 => (f_M_name_p92 k39 x0 x1 x2 (x3 + 1) x4 w3)))
def f_M_name_p39 : Nat → Nat → Int32 → Int32 → Int32 → Int32 → am_W → Option (am_W × Int32)
  | 0, _, _, _, _, _, _ => none
  | n + 1, x0, x1, x2, x3, x4, w => ((f_M_cellMany (x0) w).bind fun r5 => (if r5.2 ≤ x4 then (some (r5.1, x3)) else ((am_gr r5.1 x0 7 11).bind fun v8 => ((am_ai r5.1 v8 (3 + x4)).bind fun v10 => (if v10 = x1 then (f_M_name_p74 (f_M_name_p39 n) x0 x1 x2 x3 x4 v10 r5.1) else (if v10 = x2 then (f_M_name_p74 (f_M_name_p39 n) x0 x1 x2 x3 x4 v10 r5.1) else (f_M_name_p92 (f_M_name_p39 n) x0 x1 x2 x3 x4 r5.1)))))))
def e_M_name (x0 : Nat) (x1 : Int32) (x2 : Int32) (w : am_W) : Option (am_W × Int32) := ((am_pv w x0 7 0 (.int 0)).bind fun w14 => ((f_M_isColour (x0) (1) (x1) w14).bind fun r16 => (if r16.2 = 0 then (f_M_name_p28 r16.1) else ((f_M_isColour (x0) (1) (x2) r16.1).bind fun r19 => (if r19.2 = 0 then (f_M_name_p28 r19.1) else (if ¬ x1 = x2 then ((f_M_snap (x0) r19.1).bind fun r23 => (f_M_name_p39 am_N x0 x1 x2 0 0 r23.1)) else (f_M_name_p28 r19.1)))))))
def f_M_name (x0 : Nat) (x1 : Int32) (x2 : Int32) (w : am_W) : Option (am_W × Int32) := am_self w x0 7 (e_M_name x0 x1 x2 w)
theorem o_M_name_p28 {d : Nat} (y0 y1 y2 y3 y4 y5 : Option Value) (w : am_W) : am_Ok am_ji (d + 2) m_M_name 28 [y0, y1, y2, y3, y4, y5] [] w (f_M_name_p28 w) := by
  unfold f_M_name_p28
  refine ok_seg (L := [((.iconst (-1)), 1)]) (pc' := 29) (ls' := [y0, y1, y2, y3, y4, y5]) (st' := [.int (-1)]) (w' := w) (by decide +kernel) rfl ?_
  exact ok_ret (v := (-1)) (by decide +kernel : decode m_M_name.2.1 29 = .ok (.ireturn, 1)) rfl
theorem o_M_name_p92 {d : Nat} {k39 : Nat → Int32 → Int32 → Int32 → Int32 → am_W → Option (am_W × Int32)} (hk39 : ∀ (x0 : Nat) (x1 : Int32) (x2 : Int32) (x3 : Int32) (x4 : Int32) (y5 : Option Value) (w : am_W), am_Ok am_ji (d + 2) m_M_name 39 [some (.ref x0), some (.int x1), some (.int x2), some (.int x3), some (.int x4), y5] [] w (k39 x0 x1 x2 x3 x4 w)) (x0 : Nat) (x1 : Int32) (x2 : Int32) (x3 : Int32) (x4 : Int32) (y5 : Option Value) (w : am_W) : am_Ok am_ji (d + 2) m_M_name 92 [some (.ref x0), some (.int x1), some (.int x2), some (.int x3), some (.int x4), y5] [] w (f_M_name_p92 k39 x0 x1 x2 x3 x4 w) := by
  unfold f_M_name_p92
  refine ok_seg (L := [((.iinc 4 1), 3)]) (pc' := 95) (ls' := [some (.ref x0), some (.int x1), some (.int x2), some (.int x3), some (.int (x4 + 1)), y5]) (st' := []) (w' := w) (by decide +kernel) rfl ?_
  refine ok_goto (t := 39) (by decide +kernel : decode m_M_name.2.1 95 = .ok ((.goto (-56)), 3)) rfl ?_
  exact hk39 x0 x1 x2 x3 (x4 + 1) y5 w
theorem o_M_name_p74 {d : Nat} {k39 : Nat → Int32 → Int32 → Int32 → Int32 → am_W → Option (am_W × Int32)} (hk39 : ∀ (x0 : Nat) (x1 : Int32) (x2 : Int32) (x3 : Int32) (x4 : Int32) (y5 : Option Value) (w : am_W), am_Ok am_ji (d + 2) m_M_name 39 [some (.ref x0), some (.int x1), some (.int x2), some (.int x3), some (.int x4), y5] [] w (k39 x0 x1 x2 x3 x4 w)) (x0 : Nat) (x1 : Int32) (x2 : Int32) (x3 : Int32) (x4 : Int32) (x5 : Int32) (w : am_W) : am_Ok am_ji (d + 2) m_M_name 74 [some (.ref x0), some (.int x1), some (.int x2), some (.int x3), some (.int x4), some (.int x5)] [] w (f_M_name_p74 k39 x0 x1 x2 x3 x4 x5 w) := by
  unfold f_M_name_p74
  refine ok_seg (L := [((.aload_n 0), 1)]) (pc' := 75) (ls' := [some (.ref x0), some (.int x1), some (.int x2), some (.int x3), some (.int x4), some (.int x5)]) (st' := [.ref x0]) (w' := w) (by decide +kernel) rfl ?_
  refine ok_gr (by decide +kernel : decode m_M_name.2.1 75 = .ok ((.getfield 64), 3)) rfl (by decide) (fun v1 h2 => ?_)
  refine ok_seg (L := [((.iconst 3), 1), ((.iload 4), 2), (.iadd, 1), ((.iload_n 1), 1), ((.iload_n 2), 1), (.iadd, 1), ((.iload 5), 2), (.isub, 1)]) (pc' := 88) (ls' := [some (.ref x0), some (.int x1), some (.int x2), some (.int x3), some (.int x4), some (.int x5)]) (st' := [.int ((x1 + x2) - x5), .int (3 + x4), .ref v1]) (w' := w) (by decide +kernel) rfl ?_
  refine ok_si (by decide +kernel : decode m_M_name.2.1 88 = .ok (.iastore, 1)) (fun w3 h4 => ?_)
  refine ok_seg (L := [((.iinc 3 1), 3)]) (pc' := 92) (ls' := [some (.ref x0), some (.int x1), some (.int x2), some (.int (x3 + 1)), some (.int x4), some (.int x5)]) (st' := []) (w' := w3) (by decide +kernel) rfl ?_
  exact o_M_name_p92 hk39 x0 x1 x2 (x3 + 1) x4 (some (.int x5)) w3
theorem o_M_name_p39 {d : Nat} : ∀ (n : Nat) (x0 : Nat) (x1 : Int32) (x2 : Int32) (x3 : Int32) (x4 : Int32) (y5 : Option Value) (w : am_W), am_Ok am_ji (d + 2) m_M_name 39 [some (.ref x0), some (.int x1), some (.int x2), some (.int x3), some (.int x4), y5] [] w (f_M_name_p39 n x0 x1 x2 x3 x4 w) := by
  intro n
  induction n with
  | zero => intros; exact ok_none
  | succ n ih =>
    intro x0 x1 x2 x3 x4 y5 w
    unfold f_M_name_p39
    refine ok_seg (L := [((.iload 4), 2), ((.aload_n 0), 1)]) (pc' := 42) (ls' := [some (.ref x0), some (.int x1), some (.int x2), some (.int x3), some (.int x4), y5]) (st' := [.ref x0, .int x4]) (w' := w) (by decide +kernel) rfl ?_
    refine ok_call0 (inj' := am_ji) (by decide +kernel : decode m_M_name.2.1 42 = .ok ((.invokevirtual 170), 3)) rfl (fun q hq => am_iv0 (am_self_eq hq).1 rfl rfl rfl) (o_M_cellMany (d + 0) (x0) w) (fun _ _ => rfl) (fun r5 h6 => ?_)
    refine ok_br (P := r5.2 ≤ x4) (off := 53) (t := 98) (by decide +kernel : decode m_M_name.2.1 45 = .ok ((.if_icmp .ge 53), 3)) rfl rfl rfl rfl (fun c7 => ?_) (fun c7 => ?_)
    · skip
      refine ok_seg (L := [((.iload_n 3), 1)]) (pc' := 99) (ls' := [some (.ref x0), some (.int x1), some (.int x2), some (.int x3), some (.int x4), y5]) (st' := [.int x3]) (w' := r5.1) (by decide +kernel) rfl ?_
      exact ok_ret (v := x3) (by decide +kernel : decode m_M_name.2.1 99 = .ok (.ireturn, 1)) rfl
    · skip
      refine ok_seg (L := [((.aload_n 0), 1)]) (pc' := 49) (ls' := [some (.ref x0), some (.int x1), some (.int x2), some (.int x3), some (.int x4), y5]) (st' := [.ref x0]) (w' := r5.1) (by decide +kernel) rfl ?_
      refine ok_gr (by decide +kernel : decode m_M_name.2.1 49 = .ok ((.getfield 64), 3)) rfl (by decide) (fun v8 h9 => ?_)
      refine ok_seg (L := [((.iconst 3), 1), ((.iload 4), 2), (.iadd, 1)]) (pc' := 56) (ls' := [some (.ref x0), some (.int x1), some (.int x2), some (.int x3), some (.int x4), y5]) (st' := [.int (3 + x4), .ref v8]) (w' := r5.1) (by decide +kernel) rfl ?_
      refine ok_ai (by decide +kernel : decode m_M_name.2.1 56 = .ok (.iaload, 1)) (fun v10 h11 => ?_)
      refine ok_seg (L := [((.istore 5), 2), ((.iload 5), 2), ((.iload_n 1), 1)]) (pc' := 62) (ls' := [some (.ref x0), some (.int x1), some (.int x2), some (.int x3), some (.int x4), some (.int v10)]) (st' := [.int x1, .int v10]) (w' := r5.1) (by decide +kernel) rfl ?_
      refine ok_br (P := v10 = x1) (off := 12) (t := 74) (by decide +kernel : decode m_M_name.2.1 62 = .ok ((.if_icmp .eq 12), 3)) rfl rfl rfl rfl (fun c12 => ?_) (fun c12 => ?_)
      · skip
        exact o_M_name_p74 ih x0 x1 x2 x3 x4 v10 r5.1
      · skip
        refine ok_seg (L := [((.iload 5), 2), ((.iload_n 2), 1)]) (pc' := 68) (ls' := [some (.ref x0), some (.int x1), some (.int x2), some (.int x3), some (.int x4), some (.int v10)]) (st' := [.int x2, .int v10]) (w' := r5.1) (by decide +kernel) rfl ?_
        refine ok_br (P := v10 = x2) (off := 6) (t := 74) (by decide +kernel : decode m_M_name.2.1 68 = .ok ((.if_icmp .eq 6), 3)) rfl rfl rfl rfl (fun c13 => ?_) (fun c13 => ?_)
        · skip
          exact o_M_name_p74 ih x0 x1 x2 x3 x4 v10 r5.1
        · skip
          refine ok_goto (t := 92) (by decide +kernel : decode m_M_name.2.1 71 = .ok ((.goto 21), 3)) rfl ?_
          exact o_M_name_p92 ih x0 x1 x2 x3 x4 (some (.int v10)) r5.1
theorem o_M_name (d : Nat) (x0 : Nat) (x1 : Int32) (x2 : Int32) (w : am_W) : am_Ok am_ji (d + 2) m_M_name 0 (am_en m_M_name [.ref x0, .int x1, .int x2]) [] w (f_M_name x0 x1 x2 w) := by
  show am_Ok _ _ _ 0 [some (.ref x0), some (.int x1), some (.int x2), none, none, none] [] w _
  unfold f_M_name
  refine ok_self ?_
  unfold e_M_name
  refine ok_seg (L := [((.aload_n 0), 1), ((.iconst 0), 1)]) (pc' := 2) (ls' := [some (.ref x0), some (.int x1), some (.int x2), none, none, none]) (st' := [.int 0, .ref x0]) (w' := w) (by decide +kernel) rfl ?_
  refine ok_pi (by decide +kernel : decode m_M_name.2.1 2 = .ok ((.putfield 1), 3)) rfl (fun w14 h15 => ?_)
  refine ok_seg (L := [((.aload_n 0), 1), ((.iconst 1), 1), ((.iload_n 1), 1)]) (pc' := 8) (ls' := [some (.ref x0), some (.int x1), some (.int x2), none, none, none]) (st' := [.int x1, .int 1, .ref x0]) (w' := w14) (by decide +kernel) rfl ?_
  refine ok_call0 (inj' := am_ji) (by decide +kernel : decode m_M_name.2.1 8 = .ok ((.invokevirtual 201), 3)) rfl (fun q hq => am_iv0 (am_self_eq hq).1 rfl rfl rfl) (o_M_isColour (d + 0) (x0) (1) (x1) w14) (fun _ _ => rfl) (fun r16 h17 => ?_)
  refine ok_br (P := r16.2 = 0) (off := 17) (t := 28) (by decide +kernel : decode m_M_name.2.1 11 = .ok ((.ifCond .eq 17), 3)) rfl rfl rfl rfl (fun c18 => ?_) (fun c18 => ?_)
  · skip
    exact o_M_name_p28 (some (.ref x0)) (some (.int x1)) (some (.int x2)) none none none r16.1
  · skip
    refine ok_seg (L := [((.aload_n 0), 1), ((.iconst 1), 1), ((.iload_n 2), 1)]) (pc' := 17) (ls' := [some (.ref x0), some (.int x1), some (.int x2), none, none, none]) (st' := [.int x2, .int 1, .ref x0]) (w' := r16.1) (by decide +kernel) rfl ?_
    refine ok_call0 (inj' := am_ji) (by decide +kernel : decode m_M_name.2.1 17 = .ok ((.invokevirtual 201), 3)) rfl (fun q hq => am_iv0 (am_self_eq hq).1 rfl rfl rfl) (o_M_isColour (d + 0) (x0) (1) (x2) r16.1) (fun _ _ => rfl) (fun r19 h20 => ?_)
    refine ok_br (P := r19.2 = 0) (off := 8) (t := 28) (by decide +kernel : decode m_M_name.2.1 20 = .ok ((.ifCond .eq 8), 3)) rfl rfl rfl rfl (fun c21 => ?_) (fun c21 => ?_)
    · skip
      exact o_M_name_p28 (some (.ref x0)) (some (.int x1)) (some (.int x2)) none none none r19.1
    · skip
      refine ok_seg (L := [((.iload_n 1), 1), ((.iload_n 2), 1)]) (pc' := 25) (ls' := [some (.ref x0), some (.int x1), some (.int x2), none, none, none]) (st' := [.int x2, .int x1]) (w' := r19.1) (by decide +kernel) rfl ?_
      refine ok_br (P := ¬ x1 = x2) (off := 5) (t := 30) (by decide +kernel : decode m_M_name.2.1 25 = .ok ((.if_icmp .ne 5), 3)) rfl rfl rfl rfl (fun c22 => ?_) (fun c22 => ?_)
      · skip
        refine ok_seg (L := [((.aload_n 0), 1)]) (pc' := 31) (ls' := [some (.ref x0), some (.int x1), some (.int x2), none, none, none]) (st' := [.ref x0]) (w' := r19.1) (by decide +kernel) rfl ?_
        refine ok_call0 (inj' := am_jv) (by decide +kernel : decode m_M_name.2.1 31 = .ok ((.invokevirtual 236), 3)) rfl (fun q hq => am_iv0 (am_self_eq hq).1 rfl rfl rfl) (o_M_snap (d + 0) (x0) r19.1) (fun _ _ => rfl) (fun r23 h24 => ?_)
        refine ok_seg (L := [((.iconst 0), 1), ((.istore_n 3), 1), ((.iconst 0), 1), ((.istore 4), 2)]) (pc' := 39) (ls' := [some (.ref x0), some (.int x1), some (.int x2), some (.int 0), some (.int 0), none]) (st' := []) (w' := r23.1) (by decide +kernel) rfl ?_
        exact o_M_name_p39 am_N x0 x1 x2 0 0 none r23.1
      · skip
        exact o_M_name_p28 (some (.ref x0)) (some (.int x1)) (some (.int x2)) none none none r19.1
-- m_M_turn
def f_M_turn_p69 (k57 : Nat → Int32 → am_W → Option (am_W × Int32)) : Nat → Nat → Int32 → Int32 → am_W → Option (am_W × Int32)
  | 0, _, _, _, _ => none
  | n + 1, x0, x1, x2, w => ((am_gr w x0 7 17).bind fun v1 => ((am_ai w v1 1).bind fun v3 => (if v3 ≤ x2 then (k57 x0 (x1 + 1) w) else ((am_gr w x0 7 11).bind fun v6 => ((am_gr w x0 7 11).bind fun v8 => ((am_ai w v8 1).bind fun v10 => ((am_gr w x0 7 17).bind fun v12 => ((f_M_colourAt (v12) (x1) (x2) w).bind fun r14 => ((am_si r14.1 v6 ((3 + (v10 * x2)) + x1) r14.2).bind fun w16 => (f_M_turn_p69 k57 n x0 x1 (x2 + 1) w16))))))))))
def f_M_turn_p57 : Nat → Nat → Int32 → am_W → Option (am_W × Int32)
  | 0, _, _, _ => none
  | n + 1, x0, x1, w => ((am_gr w x0 7 17).bind fun v18 => ((am_ai w v18 0).bind fun v20 => (if v20 ≤ x1 then ((f_M_high (x0) w).bind fun r23 => (some (r23.1, r23.2))) else (f_M_turn_p69 (f_M_turn_p57 n) am_N x0 x1 0 w))))
def e_M_turn (x0 : Nat) (w : am_W) : Option (am_W × Int32) := ((am_pv w x0 7 0 (.int 0)).bind fun w25 => ((f_M_high (x0) w25).bind fun r27 => (if ¬ r27.2 = 0 then ((f_M_snap (x0) r27.1).bind fun r30 => ((am_gr r30.1 x0 7 11).bind fun v32 => ((am_gr r30.1 x0 7 17).bind fun v34 => ((f_M_copy (v32) (0) (v34) (0) r30.1).bind fun r36 => ((am_gr r36.1 x0 7 11).bind fun v38 => ((am_gr r36.1 x0 7 17).bind fun v40 => ((am_ai r36.1 v40 1).bind fun v42 => ((am_si r36.1 v38 0 v42).bind fun w44 => ((am_gr w44 x0 7 11).bind fun v46 => ((am_gr w44 x0 7 17).bind fun v48 => ((am_ai w44 v48 0).bind fun v50 => ((am_si w44 v46 1 v50).bind fun w52 => (f_M_turn_p57 am_N x0 0 w52))))))))))))) else (some (r27.1, (-1))))))
def f_M_turn (x0 : Nat) (w : am_W) : Option (am_W × Int32) := am_self w x0 7 (e_M_turn x0 w)
theorem o_M_turn_p69 {d : Nat} {k57 : Nat → Int32 → am_W → Option (am_W × Int32)} (hk57 : ∀ (x0 : Nat) (x1 : Int32) (y2 : Option Value) (w : am_W), am_Ok am_ji (d + 2) m_M_turn 57 [some (.ref x0), some (.int x1), y2] [] w (k57 x0 x1 w)) : ∀ (n : Nat) (x0 : Nat) (x1 : Int32) (x2 : Int32) (w : am_W), am_Ok am_ji (d + 2) m_M_turn 69 [some (.ref x0), some (.int x1), some (.int x2)] [] w (f_M_turn_p69 k57 n x0 x1 x2 w) := by
  intro n
  induction n with
  | zero => intros; exact ok_none
  | succ n ih =>
    intro x0 x1 x2 w
    unfold f_M_turn_p69
    refine ok_seg (L := [((.iload_n 2), 1), ((.aload_n 0), 1)]) (pc' := 71) (ls' := [some (.ref x0), some (.int x1), some (.int x2)]) (st' := [.ref x0, .int x2]) (w' := w) (by decide +kernel) rfl ?_
    refine ok_gr (by decide +kernel : decode m_M_turn.2.1 71 = .ok ((.getfield 82), 3)) rfl (by decide) (fun v1 h2 => ?_)
    refine ok_seg (L := [((.iconst 1), 1)]) (pc' := 75) (ls' := [some (.ref x0), some (.int x1), some (.int x2)]) (st' := [.int 1, .ref v1, .int x2]) (w' := w) (by decide +kernel) rfl ?_
    refine ok_ai (by decide +kernel : decode m_M_turn.2.1 75 = .ok (.iaload, 1)) (fun v3 h4 => ?_)
    refine ok_br (P := v3 ≤ x2) (off := 35) (t := 111) (by decide +kernel : decode m_M_turn.2.1 76 = .ok ((.if_icmp .ge 35), 3)) rfl rfl rfl rfl (fun c5 => ?_) (fun c5 => ?_)
    · skip
      refine ok_seg (L := [((.iinc 1 1), 3)]) (pc' := 114) (ls' := [some (.ref x0), some (.int (x1 + 1)), some (.int x2)]) (st' := []) (w' := w) (by decide +kernel) rfl ?_
      refine ok_goto (t := 57) (by decide +kernel : decode m_M_turn.2.1 114 = .ok ((.goto (-57)), 3)) rfl ?_
      exact hk57 x0 (x1 + 1) (some (.int x2)) w
    · skip
      refine ok_seg (L := [((.aload_n 0), 1)]) (pc' := 80) (ls' := [some (.ref x0), some (.int x1), some (.int x2)]) (st' := [.ref x0]) (w' := w) (by decide +kernel) rfl ?_
      refine ok_gr (by decide +kernel : decode m_M_turn.2.1 80 = .ok ((.getfield 64), 3)) rfl (by decide) (fun v6 h7 => ?_)
      refine ok_seg (L := [((.iconst 3), 1), ((.aload_n 0), 1)]) (pc' := 85) (ls' := [some (.ref x0), some (.int x1), some (.int x2)]) (st' := [.ref x0, .int 3, .ref v6]) (w' := w) (by decide +kernel) rfl ?_
      refine ok_gr (by decide +kernel : decode m_M_turn.2.1 85 = .ok ((.getfield 64), 3)) rfl (by decide) (fun v8 h9 => ?_)
      refine ok_seg (L := [((.iconst 1), 1)]) (pc' := 89) (ls' := [some (.ref x0), some (.int x1), some (.int x2)]) (st' := [.int 1, .ref v8, .int 3, .ref v6]) (w' := w) (by decide +kernel) rfl ?_
      refine ok_ai (by decide +kernel : decode m_M_turn.2.1 89 = .ok (.iaload, 1)) (fun v10 h11 => ?_)
      refine ok_seg (L := [((.iload_n 2), 1), (.imul, 1), (.iadd, 1), ((.iload_n 1), 1), (.iadd, 1), ((.aload_n 0), 1)]) (pc' := 96) (ls' := [some (.ref x0), some (.int x1), some (.int x2)]) (st' := [.ref x0, .int ((3 + (v10 * x2)) + x1), .ref v6]) (w' := w) (by decide +kernel) rfl ?_
      refine ok_gr (by decide +kernel : decode m_M_turn.2.1 96 = .ok ((.getfield 82), 3)) rfl (by decide) (fun v12 h13 => ?_)
      refine ok_seg (L := [((.iload_n 1), 1), ((.iload_n 2), 1)]) (pc' := 101) (ls' := [some (.ref x0), some (.int x1), some (.int x2)]) (st' := [.int x2, .int x1, .ref v12, .int ((3 + (v10 * x2)) + x1), .ref v6]) (w' := w) (by decide +kernel) rfl ?_
      refine ok_call0 (inj' := am_ji) (by decide +kernel : decode m_M_turn.2.1 101 = .ok ((.invokestatic 173), 3)) rfl (fun _ _ => rfl) (o_M_colourAt (d + 1) (v12) (x1) (x2) w) (fun _ _ => rfl) (fun r14 h15 => ?_)
      refine ok_si (by decide +kernel : decode m_M_turn.2.1 104 = .ok (.iastore, 1)) (fun w16 h17 => ?_)
      refine ok_seg (L := [((.iinc 2 1), 3)]) (pc' := 108) (ls' := [some (.ref x0), some (.int x1), some (.int (x2 + 1))]) (st' := []) (w' := w16) (by decide +kernel) rfl ?_
      refine ok_goto (t := 69) (by decide +kernel : decode m_M_turn.2.1 108 = .ok ((.goto (-39)), 3)) rfl ?_
      exact ih x0 x1 (x2 + 1) w16
theorem o_M_turn_p57 {d : Nat} : ∀ (n : Nat) (x0 : Nat) (x1 : Int32) (y2 : Option Value) (w : am_W), am_Ok am_ji (d + 2) m_M_turn 57 [some (.ref x0), some (.int x1), y2] [] w (f_M_turn_p57 n x0 x1 w) := by
  intro n
  induction n with
  | zero => intros; exact ok_none
  | succ n ih =>
    intro x0 x1 y2 w
    unfold f_M_turn_p57
    refine ok_seg (L := [((.iload_n 1), 1), ((.aload_n 0), 1)]) (pc' := 59) (ls' := [some (.ref x0), some (.int x1), y2]) (st' := [.ref x0, .int x1]) (w' := w) (by decide +kernel) rfl ?_
    refine ok_gr (by decide +kernel : decode m_M_turn.2.1 59 = .ok ((.getfield 82), 3)) rfl (by decide) (fun v18 h19 => ?_)
    refine ok_seg (L := [((.iconst 0), 1)]) (pc' := 63) (ls' := [some (.ref x0), some (.int x1), y2]) (st' := [.int 0, .ref v18, .int x1]) (w' := w) (by decide +kernel) rfl ?_
    refine ok_ai (by decide +kernel : decode m_M_turn.2.1 63 = .ok (.iaload, 1)) (fun v20 h21 => ?_)
    refine ok_br (P := v20 ≤ x1) (off := 53) (t := 117) (by decide +kernel : decode m_M_turn.2.1 64 = .ok ((.if_icmp .ge 53), 3)) rfl rfl rfl rfl (fun c22 => ?_) (fun c22 => ?_)
    · skip
      refine ok_seg (L := [((.aload_n 0), 1)]) (pc' := 118) (ls' := [some (.ref x0), some (.int x1), y2]) (st' := [.ref x0]) (w' := w) (by decide +kernel) rfl ?_
      refine ok_call0 (inj' := am_ji) (by decide +kernel : decode m_M_turn.2.1 118 = .ok ((.invokevirtual 163), 3)) rfl (fun q hq => am_iv0 (am_self_eq hq).1 rfl rfl rfl) (o_M_high (d + 1) (x0) w) (fun _ _ => rfl) (fun r23 h24 => ?_)
      exact ok_ret (v := r23.2) (by decide +kernel : decode m_M_turn.2.1 121 = .ok (.ireturn, 1)) rfl
    · skip
      refine ok_seg (L := [((.iconst 0), 1), ((.istore_n 2), 1)]) (pc' := 69) (ls' := [some (.ref x0), some (.int x1), some (.int 0)]) (st' := []) (w' := w) (by decide +kernel) rfl ?_
      exact o_M_turn_p69 ih am_N x0 x1 0 w
theorem o_M_turn (d : Nat) (x0 : Nat) (w : am_W) : am_Ok am_ji (d + 2) m_M_turn 0 (am_en m_M_turn [.ref x0]) [] w (f_M_turn x0 w) := by
  show am_Ok _ _ _ 0 [some (.ref x0), none, none] [] w _
  unfold f_M_turn
  refine ok_self ?_
  unfold e_M_turn
  refine ok_seg (L := [((.aload_n 0), 1), ((.iconst 0), 1)]) (pc' := 2) (ls' := [some (.ref x0), none, none]) (st' := [.int 0, .ref x0]) (w' := w) (by decide +kernel) rfl ?_
  refine ok_pi (by decide +kernel : decode m_M_turn.2.1 2 = .ok ((.putfield 1), 3)) rfl (fun w25 h26 => ?_)
  refine ok_seg (L := [((.aload_n 0), 1)]) (pc' := 6) (ls' := [some (.ref x0), none, none]) (st' := [.ref x0]) (w' := w25) (by decide +kernel) rfl ?_
  refine ok_call0 (inj' := am_ji) (by decide +kernel : decode m_M_turn.2.1 6 = .ok ((.invokevirtual 163), 3)) rfl (fun q hq => am_iv0 (am_self_eq hq).1 rfl rfl rfl) (o_M_high (d + 1) (x0) w25) (fun _ _ => rfl) (fun r27 h28 => ?_)
  refine ok_br (P := ¬ r27.2 = 0) (off := 5) (t := 14) (by decide +kernel : decode m_M_turn.2.1 9 = .ok ((.ifCond .ne 5), 3)) rfl rfl rfl rfl (fun c29 => ?_) (fun c29 => ?_)
  · skip
    refine ok_seg (L := [((.aload_n 0), 1)]) (pc' := 15) (ls' := [some (.ref x0), none, none]) (st' := [.ref x0]) (w' := r27.1) (by decide +kernel) rfl ?_
    refine ok_call0 (inj' := am_jv) (by decide +kernel : decode m_M_turn.2.1 15 = .ok ((.invokevirtual 236), 3)) rfl (fun q hq => am_iv0 (am_self_eq hq).1 rfl rfl rfl) (o_M_snap (d + 0) (x0) r27.1) (fun _ _ => rfl) (fun r30 h31 => ?_)
    refine ok_seg (L := [((.aload_n 0), 1)]) (pc' := 19) (ls' := [some (.ref x0), none, none]) (st' := [.ref x0]) (w' := r30.1) (by decide +kernel) rfl ?_
    refine ok_gr (by decide +kernel : decode m_M_turn.2.1 19 = .ok ((.getfield 64), 3)) rfl (by decide) (fun v32 h33 => ?_)
    refine ok_seg (L := [((.iconst 0), 1), ((.aload_n 0), 1)]) (pc' := 24) (ls' := [some (.ref x0), none, none]) (st' := [.ref x0, .int 0, .ref v32]) (w' := r30.1) (by decide +kernel) rfl ?_
    refine ok_gr (by decide +kernel : decode m_M_turn.2.1 24 = .ok ((.getfield 82), 3)) rfl (by decide) (fun v34 h35 => ?_)
    refine ok_seg (L := [((.iconst 0), 1)]) (pc' := 28) (ls' := [some (.ref x0), none, none]) (st' := [.int 0, .ref v34, .int 0, .ref v32]) (w' := r30.1) (by decide +kernel) rfl ?_
    refine ok_call0 (inj' := am_jv) (by decide +kernel : decode m_M_turn.2.1 28 = .ok ((.invokestatic 156), 3)) rfl (fun _ _ => rfl) (o_M_copy (d + 1) (v32) (0) (v34) (0) r30.1) (fun _ _ => rfl) (fun r36 h37 => ?_)
    refine ok_seg (L := [((.aload_n 0), 1)]) (pc' := 32) (ls' := [some (.ref x0), none, none]) (st' := [.ref x0]) (w' := r36.1) (by decide +kernel) rfl ?_
    refine ok_gr (by decide +kernel : decode m_M_turn.2.1 32 = .ok ((.getfield 64), 3)) rfl (by decide) (fun v38 h39 => ?_)
    refine ok_seg (L := [((.iconst 0), 1), ((.aload_n 0), 1)]) (pc' := 37) (ls' := [some (.ref x0), none, none]) (st' := [.ref x0, .int 0, .ref v38]) (w' := r36.1) (by decide +kernel) rfl ?_
    refine ok_gr (by decide +kernel : decode m_M_turn.2.1 37 = .ok ((.getfield 82), 3)) rfl (by decide) (fun v40 h41 => ?_)
    refine ok_seg (L := [((.iconst 1), 1)]) (pc' := 41) (ls' := [some (.ref x0), none, none]) (st' := [.int 1, .ref v40, .int 0, .ref v38]) (w' := r36.1) (by decide +kernel) rfl ?_
    refine ok_ai (by decide +kernel : decode m_M_turn.2.1 41 = .ok (.iaload, 1)) (fun v42 h43 => ?_)
    refine ok_si (by decide +kernel : decode m_M_turn.2.1 42 = .ok (.iastore, 1)) (fun w44 h45 => ?_)
    refine ok_seg (L := [((.aload_n 0), 1)]) (pc' := 44) (ls' := [some (.ref x0), none, none]) (st' := [.ref x0]) (w' := w44) (by decide +kernel) rfl ?_
    refine ok_gr (by decide +kernel : decode m_M_turn.2.1 44 = .ok ((.getfield 64), 3)) rfl (by decide) (fun v46 h47 => ?_)
    refine ok_seg (L := [((.iconst 1), 1), ((.aload_n 0), 1)]) (pc' := 49) (ls' := [some (.ref x0), none, none]) (st' := [.ref x0, .int 1, .ref v46]) (w' := w44) (by decide +kernel) rfl ?_
    refine ok_gr (by decide +kernel : decode m_M_turn.2.1 49 = .ok ((.getfield 82), 3)) rfl (by decide) (fun v48 h49 => ?_)
    refine ok_seg (L := [((.iconst 0), 1)]) (pc' := 53) (ls' := [some (.ref x0), none, none]) (st' := [.int 0, .ref v48, .int 1, .ref v46]) (w' := w44) (by decide +kernel) rfl ?_
    refine ok_ai (by decide +kernel : decode m_M_turn.2.1 53 = .ok (.iaload, 1)) (fun v50 h51 => ?_)
    refine ok_si (by decide +kernel : decode m_M_turn.2.1 54 = .ok (.iastore, 1)) (fun w52 h53 => ?_)
    refine ok_seg (L := [((.iconst 0), 1), ((.istore_n 1), 1)]) (pc' := 57) (ls' := [some (.ref x0), some (.int 0), none]) (st' := []) (w' := w52) (by decide +kernel) rfl ?_
    exact o_M_turn_p57 am_N x0 0 none w52
  · skip
    refine ok_seg (L := [((.iconst (-1)), 1)]) (pc' := 13) (ls' := [some (.ref x0), none, none]) (st' := [.int (-1)]) (w' := r27.1) (by decide +kernel) rfl ?_
    exact ok_ret (v := (-1)) (by decide +kernel : decode m_M_turn.2.1 13 = .ok (.ireturn, 1)) rfl
-- m_M_draw
def e_M_draw (x0 : Nat) (x1 : Int32) (w : am_W) : Option (am_W × Int32) := ((am_gi w x0 7 33).bind fun v1 => ((am_pv w x0 7 33 (.int ((v1 * 1103515245) + 12345))).bind fun w3 => ((am_gi w3 x0 7 33).bind fun v5 => (if x1 = 0 then none else (some (w3, ((am_iu v5 8) - (am_iu v5 8) / x1 * x1)))))))
def f_M_draw (x0 : Nat) (x1 : Int32) (w : am_W) : Option (am_W × Int32) := am_self w x0 7 (e_M_draw x0 x1 w)
theorem o_M_draw (d : Nat) (x0 : Nat) (x1 : Int32) (w : am_W) : am_Ok am_ji (d + 0) m_M_draw 0 (am_en m_M_draw [.ref x0, .int x1]) [] w (f_M_draw x0 x1 w) := by
  show am_Ok _ _ _ 0 [some (.ref x0), some (.int x1)] [] w _
  unfold f_M_draw
  refine ok_self ?_
  unfold e_M_draw
  refine ok_seg (L := [((.aload_n 0), 1), ((.aload_n 0), 1)]) (pc' := 2) (ls' := [some (.ref x0), some (.int x1)]) (st' := [.ref x0, .ref x0]) (w' := w) (by decide +kernel) rfl ?_
  refine ok_gi (by decide +kernel : decode m_M_draw.2.1 2 = .ok ((.getfield 253), 3)) rfl (fun v1 h2 => ?_)
  refine ok_seg (L := [((.ldc_w 256), 3), (.imul, 1), ((.sipush 12345), 3), (.iadd, 1)]) (pc' := 13) (ls' := [some (.ref x0), some (.int x1)]) (st' := [.int ((v1 * 1103515245) + 12345), .ref x0]) (w' := w) (by decide +kernel) rfl ?_
  refine ok_pi (by decide +kernel : decode m_M_draw.2.1 13 = .ok ((.putfield 253), 3)) rfl (fun w3 h4 => ?_)
  refine ok_seg (L := [((.aload_n 0), 1)]) (pc' := 17) (ls' := [some (.ref x0), some (.int x1)]) (st' := [.ref x0]) (w' := w3) (by decide +kernel) rfl ?_
  refine ok_gi (by decide +kernel : decode m_M_draw.2.1 17 = .ok ((.getfield 253), 3)) rfl (fun v5 h6 => ?_)
  refine ok_seg (L := [((.bipush 8), 2), (.iushr, 1), ((.iload_n 1), 1)]) (pc' := 24) (ls' := [some (.ref x0), some (.int x1)]) (st' := [.int x1, .int (am_iu v5 8)]) (w' := w3) (by decide +kernel) rfl ?_
  refine ok_rem (by decide +kernel : decode m_M_draw.2.1 24 = .ok (.irem, 1)) (fun c7 => ?_)
  exact ok_ret (v := ((am_iu v5 8) - (am_iu v5 8) / x1 * x1)) (by decide +kernel : decode m_M_draw.2.1 25 = .ok (.ireturn, 1)) rfl
-- m_M_does
def f_M_does_p62 (w : am_W) : Option (am_W × Int32) := (some (w, 1))
def e_M_does (x0 : Nat) (w : am_W) : Option (am_W × Int32) := ((f_M_cellMany (x0) w).bind fun r1 => ((f_M_draw (x0) (r1.2) r1.1).bind fun r3 => ((am_gr r3.1 x0 7 11).bind fun v5 => ((am_ai r3.1 v5 2).bind fun v7 => ((f_M_draw (x0) ((v7 + 1)) r3.1).bind fun r9 => ((am_gr r9.1 x0 7 11).bind fun v11 => ((am_ai r9.1 v11 (3 + r3.2)).bind fun v13 => (if ¬ v13 = r9.2 then ((am_gr r9.1 x0 7 11).bind fun v16 => ((am_si r9.1 v16 (3 + r3.2) r9.2).bind fun w18 => (if r9.2 = 0 then (f_M_does_p62 w18) else ((am_gr w18 x0 7 11).bind fun v21 => ((f_M_through_1 (v21) (r3.2) w18).bind fun r23 => (if ¬ r23.2 = 0 then ((am_gr r23.1 x0 7 11).bind fun v26 => ((am_si r23.1 v26 (3 + r3.2) v13).bind fun w28 => (some (w28, 0)))) else (f_M_does_p62 r23.1))))))) else (some (r9.1, 0))))))))))
def f_M_does (x0 : Nat) (w : am_W) : Option (am_W × Int32) := am_self w x0 7 (e_M_does x0 w)
theorem o_M_does_p62 {d : Nat} (y0 y1 y2 y3 : Option Value) (w : am_W) : am_Ok am_ji (d + 3) m_M_does 62 [y0, y1, y2, y3] [] w (f_M_does_p62 w) := by
  unfold f_M_does_p62
  refine ok_seg (L := [((.iconst 1), 1)]) (pc' := 63) (ls' := [y0, y1, y2, y3]) (st' := [.int 1]) (w' := w) (by decide +kernel) rfl ?_
  exact ok_ret (v := 1) (by decide +kernel : decode m_M_does.2.1 63 = .ok (.ireturn, 1)) rfl
theorem o_M_does (d : Nat) (x0 : Nat) (w : am_W) : am_Ok am_ji (d + 3) m_M_does 0 (am_en m_M_does [.ref x0]) [] w (f_M_does x0 w) := by
  show am_Ok _ _ _ 0 [some (.ref x0), none, none, none] [] w _
  unfold f_M_does
  refine ok_self ?_
  unfold e_M_does
  refine ok_seg (L := [((.aload_n 0), 1), ((.aload_n 0), 1)]) (pc' := 2) (ls' := [some (.ref x0), none, none, none]) (st' := [.ref x0, .ref x0]) (w' := w) (by decide +kernel) rfl ?_
  refine ok_call0 (inj' := am_ji) (by decide +kernel : decode m_M_does.2.1 2 = .ok ((.invokevirtual 170), 3)) rfl (fun q hq => am_iv0 (am_self_eq hq).1 rfl rfl rfl) (o_M_cellMany (d + 1) (x0) w) (fun _ _ => rfl) (fun r1 h2 => ?_)
  refine ok_call0 (inj' := am_ji) (by decide +kernel : decode m_M_does.2.1 5 = .ok ((.invokevirtual 257), 3)) rfl (fun q hq => am_iv0 (am_self_eq hq).1 rfl rfl rfl) (o_M_draw (d + 2) (x0) (r1.2) r1.1) (fun _ _ => rfl) (fun r3 h4 => ?_)
  refine ok_seg (L := [((.istore_n 1), 1), ((.aload_n 0), 1), ((.aload_n 0), 1)]) (pc' := 11) (ls' := [some (.ref x0), some (.int r3.2), none, none]) (st' := [.ref x0, .ref x0]) (w' := r3.1) (by decide +kernel) rfl ?_
  refine ok_gr (by decide +kernel : decode m_M_does.2.1 11 = .ok ((.getfield 64), 3)) rfl (by decide) (fun v5 h6 => ?_)
  refine ok_seg (L := [((.iconst 2), 1)]) (pc' := 15) (ls' := [some (.ref x0), some (.int r3.2), none, none]) (st' := [.int 2, .ref v5, .ref x0]) (w' := r3.1) (by decide +kernel) rfl ?_
  refine ok_ai (by decide +kernel : decode m_M_does.2.1 15 = .ok (.iaload, 1)) (fun v7 h8 => ?_)
  refine ok_seg (L := [((.iconst 1), 1), (.iadd, 1)]) (pc' := 18) (ls' := [some (.ref x0), some (.int r3.2), none, none]) (st' := [.int (v7 + 1), .ref x0]) (w' := r3.1) (by decide +kernel) rfl ?_
  refine ok_call0 (inj' := am_ji) (by decide +kernel : decode m_M_does.2.1 18 = .ok ((.invokevirtual 257), 3)) rfl (fun q hq => am_iv0 (am_self_eq hq).1 rfl rfl rfl) (o_M_draw (d + 2) (x0) ((v7 + 1)) r3.1) (fun _ _ => rfl) (fun r9 h10 => ?_)
  refine ok_seg (L := [((.istore_n 2), 1), ((.aload_n 0), 1)]) (pc' := 23) (ls' := [some (.ref x0), some (.int r3.2), some (.int r9.2), none]) (st' := [.ref x0]) (w' := r9.1) (by decide +kernel) rfl ?_
  refine ok_gr (by decide +kernel : decode m_M_does.2.1 23 = .ok ((.getfield 64), 3)) rfl (by decide) (fun v11 h12 => ?_)
  refine ok_seg (L := [((.iconst 3), 1), ((.iload_n 1), 1), (.iadd, 1)]) (pc' := 29) (ls' := [some (.ref x0), some (.int r3.2), some (.int r9.2), none]) (st' := [.int (3 + r3.2), .ref v11]) (w' := r9.1) (by decide +kernel) rfl ?_
  refine ok_ai (by decide +kernel : decode m_M_does.2.1 29 = .ok (.iaload, 1)) (fun v13 h14 => ?_)
  refine ok_seg (L := [((.istore_n 3), 1), ((.iload_n 3), 1), ((.iload_n 2), 1)]) (pc' := 33) (ls' := [some (.ref x0), some (.int r3.2), some (.int r9.2), some (.int v13)]) (st' := [.int r9.2, .int v13]) (w' := r9.1) (by decide +kernel) rfl ?_
  refine ok_br (P := ¬ v13 = r9.2) (off := 5) (t := 38) (by decide +kernel : decode m_M_does.2.1 33 = .ok ((.if_icmp .ne 5), 3)) rfl rfl rfl rfl (fun c15 => ?_) (fun c15 => ?_)
  · skip
    refine ok_seg (L := [((.aload_n 0), 1)]) (pc' := 39) (ls' := [some (.ref x0), some (.int r3.2), some (.int r9.2), some (.int v13)]) (st' := [.ref x0]) (w' := r9.1) (by decide +kernel) rfl ?_
    refine ok_gr (by decide +kernel : decode m_M_does.2.1 39 = .ok ((.getfield 64), 3)) rfl (by decide) (fun v16 h17 => ?_)
    refine ok_seg (L := [((.iconst 3), 1), ((.iload_n 1), 1), (.iadd, 1), ((.iload_n 2), 1)]) (pc' := 46) (ls' := [some (.ref x0), some (.int r3.2), some (.int r9.2), some (.int v13)]) (st' := [.int r9.2, .int (3 + r3.2), .ref v16]) (w' := r9.1) (by decide +kernel) rfl ?_
    refine ok_si (by decide +kernel : decode m_M_does.2.1 46 = .ok (.iastore, 1)) (fun w18 h19 => ?_)
    refine ok_seg (L := [((.iload_n 2), 1)]) (pc' := 48) (ls' := [some (.ref x0), some (.int r3.2), some (.int r9.2), some (.int v13)]) (st' := [.int r9.2]) (w' := w18) (by decide +kernel) rfl ?_
    refine ok_br (P := r9.2 = 0) (off := 14) (t := 62) (by decide +kernel : decode m_M_does.2.1 48 = .ok ((.ifCond .eq 14), 3)) rfl rfl rfl rfl (fun c20 => ?_) (fun c20 => ?_)
    · skip
      exact o_M_does_p62 (some (.ref x0)) (some (.int r3.2)) (some (.int r9.2)) (some (.int v13)) w18
    · skip
      refine ok_seg (L := [((.aload_n 0), 1)]) (pc' := 52) (ls' := [some (.ref x0), some (.int r3.2), some (.int r9.2), some (.int v13)]) (st' := [.ref x0]) (w' := w18) (by decide +kernel) rfl ?_
      refine ok_gr (by decide +kernel : decode m_M_does.2.1 52 = .ok ((.getfield 64), 3)) rfl (by decide) (fun v21 h22 => ?_)
      refine ok_seg (L := [((.iload_n 1), 1)]) (pc' := 56) (ls' := [some (.ref x0), some (.int r3.2), some (.int r9.2), some (.int v13)]) (st' := [.int r3.2, .ref v21]) (w' := w18) (by decide +kernel) rfl ?_
      refine ok_call0 (inj' := am_ji) (by decide +kernel : decode m_M_does.2.1 56 = .ok ((.invokestatic 208), 3)) rfl (fun _ _ => rfl) (o_M_through_1 (d + 0) (v21) (r3.2) w18) (fun _ _ => rfl) (fun r23 h24 => ?_)
      refine ok_br (P := ¬ r23.2 = 0) (off := 5) (t := 64) (by decide +kernel : decode m_M_does.2.1 59 = .ok ((.ifCond .ne 5), 3)) rfl rfl rfl rfl (fun c25 => ?_) (fun c25 => ?_)
      · skip
        refine ok_seg (L := [((.aload_n 0), 1)]) (pc' := 65) (ls' := [some (.ref x0), some (.int r3.2), some (.int r9.2), some (.int v13)]) (st' := [.ref x0]) (w' := r23.1) (by decide +kernel) rfl ?_
        refine ok_gr (by decide +kernel : decode m_M_does.2.1 65 = .ok ((.getfield 64), 3)) rfl (by decide) (fun v26 h27 => ?_)
        refine ok_seg (L := [((.iconst 3), 1), ((.iload_n 1), 1), (.iadd, 1), ((.iload_n 3), 1)]) (pc' := 72) (ls' := [some (.ref x0), some (.int r3.2), some (.int r9.2), some (.int v13)]) (st' := [.int v13, .int (3 + r3.2), .ref v26]) (w' := r23.1) (by decide +kernel) rfl ?_
        refine ok_si (by decide +kernel : decode m_M_does.2.1 72 = .ok (.iastore, 1)) (fun w28 h29 => ?_)
        refine ok_seg (L := [((.iconst 0), 1)]) (pc' := 74) (ls' := [some (.ref x0), some (.int r3.2), some (.int r9.2), some (.int v13)]) (st' := [.int 0]) (w' := w28) (by decide +kernel) rfl ?_
        exact ok_ret (v := 0) (by decide +kernel : decode m_M_does.2.1 74 = .ok (.ireturn, 1)) rfl
      · skip
        exact o_M_does_p62 (some (.ref x0)) (some (.int r3.2)) (some (.int r9.2)) (some (.int v13)) r23.1
  · skip
    refine ok_seg (L := [((.iconst 0), 1)]) (pc' := 37) (ls' := [some (.ref x0), some (.int r3.2), some (.int r9.2), some (.int v13)]) (st' := [.int 0]) (w' := r9.1) (by decide +kernel) rfl ?_
    exact ok_ret (v := 0) (by decide +kernel : decode m_M_does.2.1 37 = .ok (.ireturn, 1)) rfl
-- m_M_stay
def e_M_stay (x0 : Nat) (w : am_W) : Option (am_W × Unit) := ((am_gr w x0 7 11).bind fun v1 => ((am_gr w x0 7 16).bind fun v3 => ((f_M_copy (v1) (0) (v3) (0) w).bind fun r5 => ((am_gr r5.1 x0 7 15).bind fun v7 => ((am_gr r5.1 x0 7 11).bind fun v9 => ((f_M_copy (v7) (0) (v9) (0) r5.1).bind fun r11 => ((f_M_snap (x0) r11.1).bind fun r13 => ((am_gr r13.1 x0 7 16).bind fun v15 => ((am_gr r13.1 x0 7 11).bind fun v17 => ((f_M_copy (v15) (0) (v17) (0) r13.1).bind fun r19 => (some (r19.1, ()))))))))))))
def f_M_stay (x0 : Nat) (w : am_W) : Option (am_W × Unit) := am_self w x0 7 (e_M_stay x0 w)
theorem o_M_stay (d : Nat) (x0 : Nat) (w : am_W) : am_Ok am_jv (d + 2) m_M_stay 0 (am_en m_M_stay [.ref x0]) [] w (f_M_stay x0 w) := by
  show am_Ok _ _ _ 0 [some (.ref x0)] [] w _
  unfold f_M_stay
  refine ok_self ?_
  unfold e_M_stay
  refine ok_seg (L := [((.aload_n 0), 1)]) (pc' := 1) (ls' := [some (.ref x0)]) (st' := [.ref x0]) (w' := w) (by decide +kernel) rfl ?_
  refine ok_gr (by decide +kernel : decode m_M_stay.2.1 1 = .ok ((.getfield 64), 3)) rfl (by decide) (fun v1 h2 => ?_)
  refine ok_seg (L := [((.iconst 0), 1), ((.aload_n 0), 1)]) (pc' := 6) (ls' := [some (.ref x0)]) (st' := [.ref x0, .int 0, .ref v1]) (w' := w) (by decide +kernel) rfl ?_
  refine ok_gr (by decide +kernel : decode m_M_stay.2.1 6 = .ok ((.getfield 79), 3)) rfl (by decide) (fun v3 h4 => ?_)
  refine ok_seg (L := [((.iconst 0), 1)]) (pc' := 10) (ls' := [some (.ref x0)]) (st' := [.int 0, .ref v3, .int 0, .ref v1]) (w' := w) (by decide +kernel) rfl ?_
  refine ok_call0 (inj' := am_jv) (by decide +kernel : decode m_M_stay.2.1 10 = .ok ((.invokestatic 156), 3)) rfl (fun _ _ => rfl) (o_M_copy (d + 1) (v1) (0) (v3) (0) w) (fun _ _ => rfl) (fun r5 h6 => ?_)
  refine ok_seg (L := [((.aload_n 0), 1)]) (pc' := 14) (ls' := [some (.ref x0)]) (st' := [.ref x0]) (w' := r5.1) (by decide +kernel) rfl ?_
  refine ok_gr (by decide +kernel : decode m_M_stay.2.1 14 = .ok ((.getfield 76), 3)) rfl (by decide) (fun v7 h8 => ?_)
  refine ok_seg (L := [((.iconst 0), 1), ((.aload_n 0), 1)]) (pc' := 19) (ls' := [some (.ref x0)]) (st' := [.ref x0, .int 0, .ref v7]) (w' := r5.1) (by decide +kernel) rfl ?_
  refine ok_gr (by decide +kernel : decode m_M_stay.2.1 19 = .ok ((.getfield 64), 3)) rfl (by decide) (fun v9 h10 => ?_)
  refine ok_seg (L := [((.iconst 0), 1)]) (pc' := 23) (ls' := [some (.ref x0)]) (st' := [.int 0, .ref v9, .int 0, .ref v7]) (w' := r5.1) (by decide +kernel) rfl ?_
  refine ok_call0 (inj' := am_jv) (by decide +kernel : decode m_M_stay.2.1 23 = .ok ((.invokestatic 156), 3)) rfl (fun _ _ => rfl) (o_M_copy (d + 1) (v7) (0) (v9) (0) r5.1) (fun _ _ => rfl) (fun r11 h12 => ?_)
  refine ok_seg (L := [((.aload_n 0), 1)]) (pc' := 27) (ls' := [some (.ref x0)]) (st' := [.ref x0]) (w' := r11.1) (by decide +kernel) rfl ?_
  refine ok_call0 (inj' := am_jv) (by decide +kernel : decode m_M_stay.2.1 27 = .ok ((.invokevirtual 236), 3)) rfl (fun q hq => am_iv0 (am_self_eq hq).1 rfl rfl rfl) (o_M_snap (d + 0) (x0) r11.1) (fun _ _ => rfl) (fun r13 h14 => ?_)
  refine ok_seg (L := [((.aload_n 0), 1)]) (pc' := 31) (ls' := [some (.ref x0)]) (st' := [.ref x0]) (w' := r13.1) (by decide +kernel) rfl ?_
  refine ok_gr (by decide +kernel : decode m_M_stay.2.1 31 = .ok ((.getfield 79), 3)) rfl (by decide) (fun v15 h16 => ?_)
  refine ok_seg (L := [((.iconst 0), 1), ((.aload_n 0), 1)]) (pc' := 36) (ls' := [some (.ref x0)]) (st' := [.ref x0, .int 0, .ref v15]) (w' := r13.1) (by decide +kernel) rfl ?_
  refine ok_gr (by decide +kernel : decode m_M_stay.2.1 36 = .ok ((.getfield 64), 3)) rfl (by decide) (fun v17 h18 => ?_)
  refine ok_seg (L := [((.iconst 0), 1)]) (pc' := 40) (ls' := [some (.ref x0)]) (st' := [.int 0, .ref v17, .int 0, .ref v15]) (w' := r13.1) (by decide +kernel) rfl ?_
  refine ok_call0 (inj' := am_jv) (by decide +kernel : decode m_M_stay.2.1 40 = .ok ((.invokestatic 156), 3)) rfl (fun _ _ => rfl) (o_M_copy (d + 1) (v15) (0) (v17) (0) r13.1) (fun _ _ => rfl) (fun r19 h20 => ?_)
  exact ok_ret (v := ()) (by decide +kernel : decode m_M_stay.2.1 43 = .ok (.return_, 1)) rfl
