-- m_M_paired
def f_M_paired_p34 (w : am_W) : Option (am_W × Int32) := (some (w, (-1)))
def f_M_paired_p108 (s0 : Int32) (w : am_W) : Option (am_W × Int32) := (some (w, s0))
def f_M_paired_p64 (k42 : Int32 → Int32 → Int32 → Int32 → Int32 → am_W → Option (am_W × Int32)) (x1 : Int32) (x2 : Int32) (x3 : Int32) (x4 : Int32) (x5 : Int32) (s0 : Int32) (s1 : Int32) (w : am_W) : Option (am_W × Int32) := (if 2 = 0 then none else (k42 x1 x2 x3 (x4 + (((s0 + s1) * ((s0 + s1) - 1)) / 2)) (x5 + 1) w))
def f_M_paired_p42 : Nat → Int32 → Int32 → Int32 → Int32 → Int32 → am_W → Option (am_W × Int32)
  | 0, _, _, _, _, _, _ => none
  | n + 1, x1, x2, x3, x4, x5, w => (if x3 ≤ x5 then (if 2 = 0 then none else (if (x4 * x1) ≤ (x3 * ((x2 * (x2 - 1)) / 2)) then (f_M_paired_p108 0 w) else (f_M_paired_p108 1 w))) else (if x3 = 0 then none else (if x3 = 0 then none else (if (x2 - x2 / x3 * x3) ≤ x5 then (f_M_paired_p64 (f_M_paired_p42 n) x1 x2 x3 x4 x5 (x2 / x3) 0 w) else (f_M_paired_p64 (f_M_paired_p42 n) x1 x2 x3 x4 x5 (x2 / x3) 1 w)))))
def e_M_paired (x0 : Nat) (x1 : Int32) (x2 : Int32) (x3 : Int32) (w : am_W) : Option (am_W × Int32) := ((am_pv w x0 7 0 (.int 0)).bind fun w8 => ((f_M_isIn (x1) (1) (99) w8).bind fun r10 => (if r10.2 = 0 then (f_M_paired_p34 r10.1) else ((f_M_isIn (x2) (1) (99) r10.1).bind fun r13 => (if r13.2 = 0 then (f_M_paired_p34 r13.1) else ((f_M_isIn (x3) (1) (4) r13.1).bind fun r16 => (if ¬ r16.2 = 0 then (f_M_paired_p42 am_N x1 x2 x3 0 0 r16.1) else (f_M_paired_p34 r16.1))))))))
def f_M_paired (x0 : Nat) (x1 : Int32) (x2 : Int32) (x3 : Int32) (w : am_W) : Option (am_W × Int32) := am_self w x0 7 (e_M_paired x0 x1 x2 x3 w)
theorem o_M_paired_p34 {d : Nat} (y0 y1 y2 y3 y4 y5 y6 : Option Value) (w : am_W) : am_Ok am_ji (d + 1) m_M_paired 34 [y0, y1, y2, y3, y4, y5, y6] [] w (f_M_paired_p34 w) := by
  unfold f_M_paired_p34
  refine ok_seg (L := [((.iconst (-1)), 1)]) (pc' := 35) (ls' := [y0, y1, y2, y3, y4, y5, y6]) (st' := [.int (-1)]) (w' := w) (by decide +kernel) rfl ?_
  exact ok_ret (v := (-1)) (by decide +kernel : decode m_M_paired.2.1 35 = .ok (.ireturn, 1)) rfl
theorem o_M_paired_p108 {d : Nat} (s0 : Int32) (y0 y1 y2 y3 y4 y5 y6 : Option Value) (w : am_W) : am_Ok am_ji (d + 1) m_M_paired 108 [y0, y1, y2, y3, y4, y5, y6] [.int s0] w (f_M_paired_p108 s0 w) := by
  unfold f_M_paired_p108
  exact ok_ret (v := s0) (by decide +kernel : decode m_M_paired.2.1 108 = .ok (.ireturn, 1)) rfl
theorem o_M_paired_p64 {d : Nat} {k42 : Int32 → Int32 → Int32 → Int32 → Int32 → am_W → Option (am_W × Int32)} (hk42 : ∀ (x1 : Int32) (x2 : Int32) (x3 : Int32) (x4 : Int32) (x5 : Int32) (y0 y6 : Option Value) (w : am_W), am_Ok am_ji (d + 1) m_M_paired 42 [y0, some (.int x1), some (.int x2), some (.int x3), some (.int x4), some (.int x5), y6] [] w (k42 x1 x2 x3 x4 x5 w)) (x1 : Int32) (x2 : Int32) (x3 : Int32) (x4 : Int32) (x5 : Int32) (s0 : Int32) (s1 : Int32) (y0 y6 : Option Value) (w : am_W) : am_Ok am_ji (d + 1) m_M_paired 64 [y0, some (.int x1), some (.int x2), some (.int x3), some (.int x4), some (.int x5), y6] [.int s1, .int s0] w (f_M_paired_p64 k42 x1 x2 x3 x4 x5 s0 s1 w) := by
  unfold f_M_paired_p64
  refine ok_seg (L := [(.iadd, 1), ((.istore 6), 2), ((.iload 4), 2), ((.iload 6), 2), ((.iload 6), 2), ((.iconst 1), 1), (.isub, 1), (.imul, 1), ((.iconst 2), 1)]) (pc' := 77) (ls' := [y0, some (.int x1), some (.int x2), some (.int x3), some (.int x4), some (.int x5), some (.int (s0 + s1))]) (st' := [.int 2, .int ((s0 + s1) * ((s0 + s1) - 1)), .int x4]) (w' := w) (by decide +kernel) rfl ?_
  refine ok_div (by decide +kernel : decode m_M_paired.2.1 77 = .ok (.idiv, 1)) (fun c1 => ?_)
  refine ok_seg (L := [(.iadd, 1), ((.istore 4), 2), ((.iinc 5 1), 3)]) (pc' := 84) (ls' := [y0, some (.int x1), some (.int x2), some (.int x3), some (.int (x4 + (((s0 + s1) * ((s0 + s1) - 1)) / 2))), some (.int (x5 + 1)), some (.int (s0 + s1))]) (st' := []) (w' := w) (by decide +kernel) rfl ?_
  refine ok_goto (t := 42) (by decide +kernel : decode m_M_paired.2.1 84 = .ok ((.goto (-42)), 3)) rfl ?_
  exact hk42 x1 x2 x3 (x4 + (((s0 + s1) * ((s0 + s1) - 1)) / 2)) (x5 + 1) y0 (some (.int (s0 + s1))) w
theorem o_M_paired_p42 {d : Nat} : ∀ (n : Nat) (x1 : Int32) (x2 : Int32) (x3 : Int32) (x4 : Int32) (x5 : Int32) (y0 y6 : Option Value) (w : am_W), am_Ok am_ji (d + 1) m_M_paired 42 [y0, some (.int x1), some (.int x2), some (.int x3), some (.int x4), some (.int x5), y6] [] w (f_M_paired_p42 n x1 x2 x3 x4 x5 w) := by
  intro n
  induction n with
  | zero => intros; exact ok_none
  | succ n ih =>
    intro x1 x2 x3 x4 x5 y0 y6 w
    unfold f_M_paired_p42
    refine ok_seg (L := [((.iload 5), 2), ((.iload_n 3), 1)]) (pc' := 45) (ls' := [y0, some (.int x1), some (.int x2), some (.int x3), some (.int x4), some (.int x5), y6]) (st' := [.int x3, .int x5]) (w' := w) (by decide +kernel) rfl ?_
    refine ok_br (P := x3 ≤ x5) (off := 42) (t := 87) (by decide +kernel : decode m_M_paired.2.1 45 = .ok ((.if_icmp .ge 42), 3)) rfl rfl rfl rfl (fun c2 => ?_) (fun c2 => ?_)
    · skip
      refine ok_seg (L := [((.iload 4), 2), ((.iload_n 1), 1), (.imul, 1), ((.iload_n 3), 1), ((.iload_n 2), 1), ((.iload_n 2), 1), ((.iconst 1), 1), (.isub, 1), (.imul, 1), ((.iconst 2), 1)]) (pc' := 98) (ls' := [y0, some (.int x1), some (.int x2), some (.int x3), some (.int x4), some (.int x5), y6]) (st' := [.int 2, .int (x2 * (x2 - 1)), .int x3, .int (x4 * x1)]) (w' := w) (by decide +kernel) rfl ?_
      refine ok_div (by decide +kernel : decode m_M_paired.2.1 98 = .ok (.idiv, 1)) (fun c3 => ?_)
      refine ok_seg (L := [(.imul, 1)]) (pc' := 100) (ls' := [y0, some (.int x1), some (.int x2), some (.int x3), some (.int x4), some (.int x5), y6]) (st' := [.int (x3 * ((x2 * (x2 - 1)) / 2)), .int (x4 * x1)]) (w' := w) (by decide +kernel) rfl ?_
      refine ok_br (P := (x4 * x1) ≤ (x3 * ((x2 * (x2 - 1)) / 2))) (off := 7) (t := 107) (by decide +kernel : decode m_M_paired.2.1 100 = .ok ((.if_icmp .le 7), 3)) rfl rfl rfl rfl (fun c4 => ?_) (fun c4 => ?_)
      · skip
        refine ok_seg (L := [((.iconst 0), 1)]) (pc' := 108) (ls' := [y0, some (.int x1), some (.int x2), some (.int x3), some (.int x4), some (.int x5), y6]) (st' := [.int 0]) (w' := w) (by decide +kernel) rfl ?_
        exact o_M_paired_p108 0 y0 (some (.int x1)) (some (.int x2)) (some (.int x3)) (some (.int x4)) (some (.int x5)) y6 w
      · skip
        refine ok_seg (L := [((.iconst 1), 1)]) (pc' := 104) (ls' := [y0, some (.int x1), some (.int x2), some (.int x3), some (.int x4), some (.int x5), y6]) (st' := [.int 1]) (w' := w) (by decide +kernel) rfl ?_
        refine ok_goto (t := 108) (by decide +kernel : decode m_M_paired.2.1 104 = .ok ((.goto 4), 3)) rfl ?_
        exact o_M_paired_p108 1 y0 (some (.int x1)) (some (.int x2)) (some (.int x3)) (some (.int x4)) (some (.int x5)) y6 w
    · skip
      refine ok_seg (L := [((.iload_n 2), 1), ((.iload_n 3), 1)]) (pc' := 50) (ls' := [y0, some (.int x1), some (.int x2), some (.int x3), some (.int x4), some (.int x5), y6]) (st' := [.int x3, .int x2]) (w' := w) (by decide +kernel) rfl ?_
      refine ok_div (by decide +kernel : decode m_M_paired.2.1 50 = .ok (.idiv, 1)) (fun c5 => ?_)
      refine ok_seg (L := [((.iload 5), 2), ((.iload_n 2), 1), ((.iload_n 3), 1)]) (pc' := 55) (ls' := [y0, some (.int x1), some (.int x2), some (.int x3), some (.int x4), some (.int x5), y6]) (st' := [.int x3, .int x2, .int x5, .int (x2 / x3)]) (w' := w) (by decide +kernel) rfl ?_
      refine ok_rem (by decide +kernel : decode m_M_paired.2.1 55 = .ok (.irem, 1)) (fun c6 => ?_)
      refine ok_br (P := (x2 - x2 / x3 * x3) ≤ x5) (off := 7) (t := 63) (by decide +kernel : decode m_M_paired.2.1 56 = .ok ((.if_icmp .ge 7), 3)) rfl rfl rfl rfl (fun c7 => ?_) (fun c7 => ?_)
      · skip
        refine ok_seg (L := [((.iconst 0), 1)]) (pc' := 64) (ls' := [y0, some (.int x1), some (.int x2), some (.int x3), some (.int x4), some (.int x5), y6]) (st' := [.int 0, .int (x2 / x3)]) (w' := w) (by decide +kernel) rfl ?_
        exact o_M_paired_p64 ih x1 x2 x3 x4 x5 (x2 / x3) 0 y0 y6 w
      · skip
        refine ok_seg (L := [((.iconst 1), 1)]) (pc' := 60) (ls' := [y0, some (.int x1), some (.int x2), some (.int x3), some (.int x4), some (.int x5), y6]) (st' := [.int 1, .int (x2 / x3)]) (w' := w) (by decide +kernel) rfl ?_
        refine ok_goto (t := 64) (by decide +kernel : decode m_M_paired.2.1 60 = .ok ((.goto 4), 3)) rfl ?_
        exact o_M_paired_p64 ih x1 x2 x3 x4 x5 (x2 / x3) 1 y0 y6 w
theorem o_M_paired (d : Nat) (x0 : Nat) (x1 : Int32) (x2 : Int32) (x3 : Int32) (w : am_W) : am_Ok am_ji (d + 1) m_M_paired 0 (am_en m_M_paired [.ref x0, .int x1, .int x2, .int x3]) [] w (f_M_paired x0 x1 x2 x3 w) := by
  show am_Ok _ _ _ 0 [some (.ref x0), some (.int x1), some (.int x2), some (.int x3), none, none, none] [] w _
  unfold f_M_paired
  refine ok_self ?_
  unfold e_M_paired
  refine ok_seg (L := [((.aload_n 0), 1), ((.iconst 0), 1)]) (pc' := 2) (ls' := [some (.ref x0), some (.int x1), some (.int x2), some (.int x3), none, none, none]) (st' := [.int 0, .ref x0]) (w' := w) (by decide +kernel) rfl ?_
  refine ok_pi (by decide +kernel : decode m_M_paired.2.1 2 = .ok ((.putfield 1), 3)) rfl (fun w8 h9 => ?_)
  refine ok_seg (L := [((.iload_n 1), 1), ((.iconst 1), 1), ((.bipush 99), 2)]) (pc' := 9) (ls' := [some (.ref x0), some (.int x1), some (.int x2), some (.int x3), none, none, none]) (st' := [.int 99, .int 1, .int x1]) (w' := w8) (by decide +kernel) rfl ?_
  refine ok_call0 (inj' := am_ji) (by decide +kernel : decode m_M_paired.2.1 9 = .ok ((.invokestatic 121), 3)) rfl (fun _ _ => rfl) (o_M_isIn (d + 0) (x1) (1) (99) w8) (fun _ _ => rfl) (fun r10 h11 => ?_)
  refine ok_br (P := r10.2 = 0) (off := 22) (t := 34) (by decide +kernel : decode m_M_paired.2.1 12 = .ok ((.ifCond .eq 22), 3)) rfl rfl rfl rfl (fun c12 => ?_) (fun c12 => ?_)
  · skip
    exact o_M_paired_p34 (some (.ref x0)) (some (.int x1)) (some (.int x2)) (some (.int x3)) none none none r10.1
  · skip
    refine ok_seg (L := [((.iload_n 2), 1), ((.iconst 1), 1), ((.bipush 99), 2)]) (pc' := 19) (ls' := [some (.ref x0), some (.int x1), some (.int x2), some (.int x3), none, none, none]) (st' := [.int 99, .int 1, .int x2]) (w' := r10.1) (by decide +kernel) rfl ?_
    refine ok_call0 (inj' := am_ji) (by decide +kernel : decode m_M_paired.2.1 19 = .ok ((.invokestatic 121), 3)) rfl (fun _ _ => rfl) (o_M_isIn (d + 0) (x2) (1) (99) r10.1) (fun _ _ => rfl) (fun r13 h14 => ?_)
    refine ok_br (P := r13.2 = 0) (off := 12) (t := 34) (by decide +kernel : decode m_M_paired.2.1 22 = .ok ((.ifCond .eq 12), 3)) rfl rfl rfl rfl (fun c15 => ?_) (fun c15 => ?_)
    · skip
      exact o_M_paired_p34 (some (.ref x0)) (some (.int x1)) (some (.int x2)) (some (.int x3)) none none none r13.1
    · skip
      refine ok_seg (L := [((.iload_n 3), 1), ((.iconst 1), 1), ((.iconst 4), 1)]) (pc' := 28) (ls' := [some (.ref x0), some (.int x1), some (.int x2), some (.int x3), none, none, none]) (st' := [.int 4, .int 1, .int x3]) (w' := r13.1) (by decide +kernel) rfl ?_
      refine ok_call0 (inj' := am_ji) (by decide +kernel : decode m_M_paired.2.1 28 = .ok ((.invokestatic 121), 3)) rfl (fun _ _ => rfl) (o_M_isIn (d + 0) (x3) (1) (4) r13.1) (fun _ _ => rfl) (fun r16 h17 => ?_)
      refine ok_br (P := ¬ r16.2 = 0) (off := 5) (t := 36) (by decide +kernel : decode m_M_paired.2.1 31 = .ok ((.ifCond .ne 5), 3)) rfl rfl rfl rfl (fun c18 => ?_) (fun c18 => ?_)
      · skip
        refine ok_seg (L := [((.iconst 0), 1), ((.istore 4), 2), ((.iconst 0), 1), ((.istore 5), 2)]) (pc' := 42) (ls' := [some (.ref x0), some (.int x1), some (.int x2), some (.int x3), some (.int 0), some (.int 0), none]) (st' := []) (w' := r16.1) (by decide +kernel) rfl ?_
        exact o_M_paired_p42 am_N x1 x2 x3 0 0 (some (.ref x0)) none r16.1
      · skip
        exact o_M_paired_p34 (some (.ref x0)) (some (.int x1)) (some (.int x2)) (some (.int x3)) none none none r16.1
-- m_M_searches
def f_M_searches_p208 (s0 : Nat) (s1 : Int32) (w : am_W) : Option (am_W × Unit) := ((am_pv w s0 7 29 (.int s1)).bind fun w1 => (some (w1, ())))
def f_M_searches_p198 (x0 : Nat) (x2 : Int32) (w : am_W) : Option (am_W × Unit) := (if 0 ≤ x2 then (f_M_searches_p208 x0 1 w) else (f_M_searches_p208 x0 0 w))
def f_M_searches_p195 (k75 : Nat → Int32 → Int32 → am_W → Option (am_W × Unit)) (x0 : Nat) (x1 : Int32) (x2 : Int32) (w : am_W) : Option (am_W × Unit) := (k75 x0 x1 x2 w)
def f_M_searches_p172 (k75 : Nat → Int32 → Int32 → am_W → Option (am_W × Unit)) (x0 : Nat) (x1 : Int32) (x2 : Int32) (x3 : Int32) (x4 : Int32) (w : am_W) : Option (am_W × Unit) := (if x4 = 0 then ((am_gr w x0 7 17).bind fun v5 => ((am_si w v5 (3 + x3) 0).bind fun w7 => (f_M_searches_p195 k75 x0 x1 (x2 + (-1)) w7))) else (f_M_searches_p195 k75 x0 x1 (x2 + 1) w))
def f_M_searches_p154 (k75 : Nat → Int32 → Int32 → am_W → Option (am_W × Unit)) (k94 : Nat → Int32 → Int32 → Int32 → Int32 → am_W → Option (am_W × Unit)) (x0 : Nat) (x1 : Int32) (x2 : Int32) (x3 : Int32) (s0 : Int32) (w : am_W) : Option (am_W × Unit) := ((am_gi w x0 7 28).bind fun v9 => (if ¬ v9 = 20000 then (k94 x0 x1 x2 x3 s0 w) else ((am_pv w x0 7 29 (.int 2)).bind fun w12 => (some (w12, ())))))
def f_M_searches_p94 (k75 : Nat → Int32 → Int32 → am_W → Option (am_W × Unit)) : Nat → Nat → Int32 → Int32 → Int32 → Int32 → am_W → Option (am_W × Unit)
  | 0, _, _, _, _, _, _ => none
  | n + 1, x0, x1, x2, x3, x4, w => (if ¬ x4 = 0 then (f_M_searches_p172 k75 x0 x1 x2 x3 x4 w) else ((am_gr w x0 7 17).bind fun v15 => ((am_ai w v15 (3 + x3)).bind fun v17 => ((am_gr w x0 7 11).bind fun v19 => ((am_ai w v19 2).bind fun v21 => (if v21 ≤ v17 then (f_M_searches_p172 k75 x0 x1 x2 x3 x4 w) else ((am_gr w x0 7 17).bind fun v24 => ((am_ai w v24 (3 + x3)).bind fun v26 => ((am_si w v24 (3 + x3) (v26 + 1)).bind fun w28 => ((am_gi w28 x0 7 28).bind fun v30 => ((am_pv w28 x0 7 28 (.int (v30 + 1))).bind fun w32 => ((am_gr w32 x0 7 17).bind fun v34 => ((f_M_through_1 (v34) (x3) w32).bind fun r36 => (if ¬ r36.2 = 0 then (f_M_searches_p154 k75 (f_M_searches_p94 k75 n) x0 x1 x2 x3 0 r36.1) else (f_M_searches_p154 k75 (f_M_searches_p94 k75 n) x0 x1 x2 x3 1 r36.1)))))))))))))))
def f_M_searches_p75 : Nat → Nat → Int32 → Int32 → am_W → Option (am_W × Unit)
  | 0, _, _, _, _ => none
  | n + 1, x0, x1, x2, w => (if x2 < 0 then (f_M_searches_p198 x0 x2 w) else (if x1 ≤ x2 then (f_M_searches_p198 x0 x2 w) else ((am_gr w x0 7 27).bind fun v41 => ((am_ai w v41 x2).bind fun v43 => (f_M_searches_p94 (f_M_searches_p75 n) am_N x0 x1 x2 v43 0 w)))))
def f_M_searches_p67 (k35 : Nat → Int32 → Int32 → am_W → Option (am_W × Unit)) (x0 : Nat) (x1 : Int32) (x2 : Int32) (w : am_W) : Option (am_W × Unit) := (k35 x0 x1 (x2 + 1) w)
def f_M_searches_p35 : Nat → Nat → Int32 → Int32 → am_W → Option (am_W × Unit)
  | 0, _, _, _, _ => none
  | n + 1, x0, x1, x2, w => ((f_M_cellMany (x0) w).bind fun r45 => (if r45.2 ≤ x2 then (f_M_searches_p75 am_N x0 x1 0 r45.1) else ((am_gr r45.1 x0 7 11).bind fun v48 => ((am_ai r45.1 v48 (3 + x2)).bind fun v50 => (if v50 = 0 then ((am_gr r45.1 x0 7 27).bind fun v53 => ((am_si r45.1 v53 x1 x2).bind fun w55 => (f_M_searches_p67 (f_M_searches_p35 n) x0 (x1 + 1) x2 w55))) else (f_M_searches_p67 (f_M_searches_p35 n) x0 x1 x2 r45.1))))))
def e_M_searches (x0 : Nat) (w : am_W) : Option (am_W × Unit) := ((am_gr w x0 7 11).bind fun v57 => ((am_gr w x0 7 17).bind fun v59 => ((f_M_copy (v57) (0) (v59) (0) w).bind fun r61 => ((am_pv r61.1 x0 7 28 (.int 0)).bind fun w63 => ((am_pv w63 x0 7 29 (.int 0)).bind fun w65 => ((f_M_isGood (x0) w65).bind fun r67 => (if ¬ r67.2 = 0 then (f_M_searches_p35 am_N x0 0 0 r67.1) else (some (r67.1, ())))))))))
def f_M_searches (x0 : Nat) (w : am_W) : Option (am_W × Unit) := am_self w x0 7 (e_M_searches x0 w)
theorem o_M_searches_p208 {d : Nat} (s0 : Nat) (s1 : Int32) (y0 y1 y2 y3 y4 : Option Value) (w : am_W) : am_Ok am_jv (d + 4) m_M_searches 208 [y0, y1, y2, y3, y4] [.int s1, .ref s0] w (f_M_searches_p208 s0 s1 w) := by
  unfold f_M_searches_p208
  refine ok_pi (by decide +kernel : decode m_M_searches.2.1 208 = .ok ((.putfield 230), 3)) rfl (fun w1 h2 => ?_)
  exact ok_ret (v := ()) (by decide +kernel : decode m_M_searches.2.1 211 = .ok (.return_, 1)) rfl
theorem o_M_searches_p198 {d : Nat} (x0 : Nat) (x2 : Int32) (y1 y3 y4 : Option Value) (w : am_W) : am_Ok am_jv (d + 4) m_M_searches 198 [some (.ref x0), y1, some (.int x2), y3, y4] [] w (f_M_searches_p198 x0 x2 w) := by
  unfold f_M_searches_p198
  refine ok_seg (L := [((.aload_n 0), 1), ((.iload_n 2), 1)]) (pc' := 200) (ls' := [some (.ref x0), y1, some (.int x2), y3, y4]) (st' := [.int x2, .ref x0]) (w' := w) (by decide +kernel) rfl ?_
  refine ok_br (P := 0 ≤ x2) (off := 7) (t := 207) (by decide +kernel : decode m_M_searches.2.1 200 = .ok ((.ifCond .ge 7), 3)) rfl rfl rfl rfl (fun c3 => ?_) (fun c3 => ?_)
  · skip
    refine ok_seg (L := [((.iconst 1), 1)]) (pc' := 208) (ls' := [some (.ref x0), y1, some (.int x2), y3, y4]) (st' := [.int 1, .ref x0]) (w' := w) (by decide +kernel) rfl ?_
    exact o_M_searches_p208 x0 1 (some (.ref x0)) y1 (some (.int x2)) y3 y4 w
  · skip
    refine ok_seg (L := [((.iconst 0), 1)]) (pc' := 204) (ls' := [some (.ref x0), y1, some (.int x2), y3, y4]) (st' := [.int 0, .ref x0]) (w' := w) (by decide +kernel) rfl ?_
    refine ok_goto (t := 208) (by decide +kernel : decode m_M_searches.2.1 204 = .ok ((.goto 4), 3)) rfl ?_
    exact o_M_searches_p208 x0 0 (some (.ref x0)) y1 (some (.int x2)) y3 y4 w
theorem o_M_searches_p195 {d : Nat} {k75 : Nat → Int32 → Int32 → am_W → Option (am_W × Unit)} (hk75 : ∀ (x0 : Nat) (x1 : Int32) (x2 : Int32) (y3 y4 : Option Value) (w : am_W), am_Ok am_jv (d + 4) m_M_searches 75 [some (.ref x0), some (.int x1), some (.int x2), y3, y4] [] w (k75 x0 x1 x2 w)) (x0 : Nat) (x1 : Int32) (x2 : Int32) (y3 y4 : Option Value) (w : am_W) : am_Ok am_jv (d + 4) m_M_searches 195 [some (.ref x0), some (.int x1), some (.int x2), y3, y4] [] w (f_M_searches_p195 k75 x0 x1 x2 w) := by
  unfold f_M_searches_p195
  refine ok_goto (t := 75) (by decide +kernel : decode m_M_searches.2.1 195 = .ok ((.goto (-120)), 3)) rfl ?_
  exact hk75 x0 x1 x2 y3 y4 w
theorem o_M_searches_p172 {d : Nat} {k75 : Nat → Int32 → Int32 → am_W → Option (am_W × Unit)} (hk75 : ∀ (x0 : Nat) (x1 : Int32) (x2 : Int32) (y3 y4 : Option Value) (w : am_W), am_Ok am_jv (d + 4) m_M_searches 75 [some (.ref x0), some (.int x1), some (.int x2), y3, y4] [] w (k75 x0 x1 x2 w)) (x0 : Nat) (x1 : Int32) (x2 : Int32) (x3 : Int32) (x4 : Int32) (w : am_W) : am_Ok am_jv (d + 4) m_M_searches 172 [some (.ref x0), some (.int x1), some (.int x2), some (.int x3), some (.int x4)] [] w (f_M_searches_p172 k75 x0 x1 x2 x3 x4 w) := by
  unfold f_M_searches_p172
  refine ok_seg (L := [((.iload 4), 2)]) (pc' := 174) (ls' := [some (.ref x0), some (.int x1), some (.int x2), some (.int x3), some (.int x4)]) (st' := [.int x4]) (w' := w) (by decide +kernel) rfl ?_
  refine ok_br (P := x4 = 0) (off := 9) (t := 183) (by decide +kernel : decode m_M_searches.2.1 174 = .ok ((.ifCond .eq 9), 3)) rfl rfl rfl rfl (fun c4 => ?_) (fun c4 => ?_)
  · skip
    refine ok_seg (L := [((.aload_n 0), 1)]) (pc' := 184) (ls' := [some (.ref x0), some (.int x1), some (.int x2), some (.int x3), some (.int x4)]) (st' := [.ref x0]) (w' := w) (by decide +kernel) rfl ?_
    refine ok_gr (by decide +kernel : decode m_M_searches.2.1 184 = .ok ((.getfield 82), 3)) rfl (by decide) (fun v5 h6 => ?_)
    refine ok_seg (L := [((.iconst 3), 1), ((.iload_n 3), 1), (.iadd, 1), ((.iconst 0), 1)]) (pc' := 191) (ls' := [some (.ref x0), some (.int x1), some (.int x2), some (.int x3), some (.int x4)]) (st' := [.int 0, .int (3 + x3), .ref v5]) (w' := w) (by decide +kernel) rfl ?_
    refine ok_si (by decide +kernel : decode m_M_searches.2.1 191 = .ok (.iastore, 1)) (fun w7 h8 => ?_)
    refine ok_seg (L := [((.iinc 2 (-1)), 3)]) (pc' := 195) (ls' := [some (.ref x0), some (.int x1), some (.int (x2 + (-1))), some (.int x3), some (.int x4)]) (st' := []) (w' := w7) (by decide +kernel) rfl ?_
    exact o_M_searches_p195 hk75 x0 x1 (x2 + (-1)) (some (.int x3)) (some (.int x4)) w7
  · skip
    refine ok_seg (L := [((.iinc 2 1), 3)]) (pc' := 180) (ls' := [some (.ref x0), some (.int x1), some (.int (x2 + 1)), some (.int x3), some (.int x4)]) (st' := []) (w' := w) (by decide +kernel) rfl ?_
    refine ok_goto (t := 195) (by decide +kernel : decode m_M_searches.2.1 180 = .ok ((.goto 15), 3)) rfl ?_
    exact o_M_searches_p195 hk75 x0 x1 (x2 + 1) (some (.int x3)) (some (.int x4)) w
theorem o_M_searches_p154 {d : Nat} {k75 : Nat → Int32 → Int32 → am_W → Option (am_W × Unit)} {k94 : Nat → Int32 → Int32 → Int32 → Int32 → am_W → Option (am_W × Unit)} (hk75 : ∀ (x0 : Nat) (x1 : Int32) (x2 : Int32) (y3 y4 : Option Value) (w : am_W), am_Ok am_jv (d + 4) m_M_searches 75 [some (.ref x0), some (.int x1), some (.int x2), y3, y4] [] w (k75 x0 x1 x2 w)) (hk94 : ∀ (x0 : Nat) (x1 : Int32) (x2 : Int32) (x3 : Int32) (x4 : Int32) (w : am_W), am_Ok am_jv (d + 4) m_M_searches 94 [some (.ref x0), some (.int x1), some (.int x2), some (.int x3), some (.int x4)] [] w (k94 x0 x1 x2 x3 x4 w)) (x0 : Nat) (x1 : Int32) (x2 : Int32) (x3 : Int32) (s0 : Int32) (y4 : Option Value) (w : am_W) : am_Ok am_jv (d + 4) m_M_searches 154 [some (.ref x0), some (.int x1), some (.int x2), some (.int x3), y4] [.int s0] w (f_M_searches_p154 k75 k94 x0 x1 x2 x3 s0 w) := by
  unfold f_M_searches_p154
  refine ok_seg (L := [((.istore 4), 2), ((.aload_n 0), 1)]) (pc' := 157) (ls' := [some (.ref x0), some (.int x1), some (.int x2), some (.int x3), some (.int s0)]) (st' := [.ref x0]) (w' := w) (by decide +kernel) rfl ?_
  refine ok_gi (by decide +kernel : decode m_M_searches.2.1 157 = .ok ((.getfield 227), 3)) rfl (fun v9 h10 => ?_)
  refine ok_seg (L := [((.sipush 20000), 3)]) (pc' := 163) (ls' := [some (.ref x0), some (.int x1), some (.int x2), some (.int x3), some (.int s0)]) (st' := [.int 20000, .int v9]) (w' := w) (by decide +kernel) rfl ?_
  refine ok_br (P := ¬ v9 = 20000) (off := -69) (t := 94) (by decide +kernel : decode m_M_searches.2.1 163 = .ok ((.if_icmp .ne (-69)), 3)) rfl rfl rfl rfl (fun c11 => ?_) (fun c11 => ?_)
  · skip
    exact hk94 x0 x1 x2 x3 s0 w
  · skip
    refine ok_seg (L := [((.aload_n 0), 1), ((.iconst 2), 1)]) (pc' := 168) (ls' := [some (.ref x0), some (.int x1), some (.int x2), some (.int x3), some (.int s0)]) (st' := [.int 2, .ref x0]) (w' := w) (by decide +kernel) rfl ?_
    refine ok_pi (by decide +kernel : decode m_M_searches.2.1 168 = .ok ((.putfield 230), 3)) rfl (fun w12 h13 => ?_)
    exact ok_ret (v := ()) (by decide +kernel : decode m_M_searches.2.1 171 = .ok (.return_, 1)) rfl
theorem o_M_searches_p94 {d : Nat} {k75 : Nat → Int32 → Int32 → am_W → Option (am_W × Unit)} (hk75 : ∀ (x0 : Nat) (x1 : Int32) (x2 : Int32) (y3 y4 : Option Value) (w : am_W), am_Ok am_jv (d + 4) m_M_searches 75 [some (.ref x0), some (.int x1), some (.int x2), y3, y4] [] w (k75 x0 x1 x2 w)) : ∀ (n : Nat) (x0 : Nat) (x1 : Int32) (x2 : Int32) (x3 : Int32) (x4 : Int32) (w : am_W), am_Ok am_jv (d + 4) m_M_searches 94 [some (.ref x0), some (.int x1), some (.int x2), some (.int x3), some (.int x4)] [] w (f_M_searches_p94 k75 n x0 x1 x2 x3 x4 w) := by
  intro n
  induction n with
  | zero => intros; exact ok_none
  | succ n ih =>
    intro x0 x1 x2 x3 x4 w
    unfold f_M_searches_p94
    refine ok_seg (L := [((.iload 4), 2)]) (pc' := 96) (ls' := [some (.ref x0), some (.int x1), some (.int x2), some (.int x3), some (.int x4)]) (st' := [.int x4]) (w' := w) (by decide +kernel) rfl ?_
    refine ok_br (P := ¬ x4 = 0) (off := 76) (t := 172) (by decide +kernel : decode m_M_searches.2.1 96 = .ok ((.ifCond .ne 76), 3)) rfl rfl rfl rfl (fun c14 => ?_) (fun c14 => ?_)
    · skip
      exact o_M_searches_p172 hk75 x0 x1 x2 x3 x4 w
    · skip
      refine ok_seg (L := [((.aload_n 0), 1)]) (pc' := 100) (ls' := [some (.ref x0), some (.int x1), some (.int x2), some (.int x3), some (.int x4)]) (st' := [.ref x0]) (w' := w) (by decide +kernel) rfl ?_
      refine ok_gr (by decide +kernel : decode m_M_searches.2.1 100 = .ok ((.getfield 82), 3)) rfl (by decide) (fun v15 h16 => ?_)
      refine ok_seg (L := [((.iconst 3), 1), ((.iload_n 3), 1), (.iadd, 1)]) (pc' := 106) (ls' := [some (.ref x0), some (.int x1), some (.int x2), some (.int x3), some (.int x4)]) (st' := [.int (3 + x3), .ref v15]) (w' := w) (by decide +kernel) rfl ?_
      refine ok_ai (by decide +kernel : decode m_M_searches.2.1 106 = .ok (.iaload, 1)) (fun v17 h18 => ?_)
      refine ok_seg (L := [((.aload_n 0), 1)]) (pc' := 108) (ls' := [some (.ref x0), some (.int x1), some (.int x2), some (.int x3), some (.int x4)]) (st' := [.ref x0, .int v17]) (w' := w) (by decide +kernel) rfl ?_
      refine ok_gr (by decide +kernel : decode m_M_searches.2.1 108 = .ok ((.getfield 64), 3)) rfl (by decide) (fun v19 h20 => ?_)
      refine ok_seg (L := [((.iconst 2), 1)]) (pc' := 112) (ls' := [some (.ref x0), some (.int x1), some (.int x2), some (.int x3), some (.int x4)]) (st' := [.int 2, .ref v19, .int v17]) (w' := w) (by decide +kernel) rfl ?_
      refine ok_ai (by decide +kernel : decode m_M_searches.2.1 112 = .ok (.iaload, 1)) (fun v21 h22 => ?_)
      refine ok_br (P := v21 ≤ v17) (off := 59) (t := 172) (by decide +kernel : decode m_M_searches.2.1 113 = .ok ((.if_icmp .ge 59), 3)) rfl rfl rfl rfl (fun c23 => ?_) (fun c23 => ?_)
      · skip
        exact o_M_searches_p172 hk75 x0 x1 x2 x3 x4 w
      · skip
        refine ok_seg (L := [((.aload_n 0), 1)]) (pc' := 117) (ls' := [some (.ref x0), some (.int x1), some (.int x2), some (.int x3), some (.int x4)]) (st' := [.ref x0]) (w' := w) (by decide +kernel) rfl ?_
        refine ok_gr (by decide +kernel : decode m_M_searches.2.1 117 = .ok ((.getfield 82), 3)) rfl (by decide) (fun v24 h25 => ?_)
        refine ok_seg (L := [((.iconst 3), 1), ((.iload_n 3), 1), (.iadd, 1), (.dup2, 1)]) (pc' := 124) (ls' := [some (.ref x0), some (.int x1), some (.int x2), some (.int x3), some (.int x4)]) (st' := [.int (3 + x3), .ref v24, .int (3 + x3), .ref v24]) (w' := w) (by decide +kernel) rfl ?_
        refine ok_ai (by decide +kernel : decode m_M_searches.2.1 124 = .ok (.iaload, 1)) (fun v26 h27 => ?_)
        refine ok_seg (L := [((.iconst 1), 1), (.iadd, 1)]) (pc' := 127) (ls' := [some (.ref x0), some (.int x1), some (.int x2), some (.int x3), some (.int x4)]) (st' := [.int (v26 + 1), .int (3 + x3), .ref v24]) (w' := w) (by decide +kernel) rfl ?_
        refine ok_si (by decide +kernel : decode m_M_searches.2.1 127 = .ok (.iastore, 1)) (fun w28 h29 => ?_)
        refine ok_seg (L := [((.aload_n 0), 1), (.dup, 1)]) (pc' := 130) (ls' := [some (.ref x0), some (.int x1), some (.int x2), some (.int x3), some (.int x4)]) (st' := [.ref x0, .ref x0]) (w' := w28) (by decide +kernel) rfl ?_
        refine ok_gi (by decide +kernel : decode m_M_searches.2.1 130 = .ok ((.getfield 227), 3)) rfl (fun v30 h31 => ?_)
        refine ok_seg (L := [((.iconst 1), 1), (.iadd, 1)]) (pc' := 135) (ls' := [some (.ref x0), some (.int x1), some (.int x2), some (.int x3), some (.int x4)]) (st' := [.int (v30 + 1), .ref x0]) (w' := w28) (by decide +kernel) rfl ?_
        refine ok_pi (by decide +kernel : decode m_M_searches.2.1 135 = .ok ((.putfield 227), 3)) rfl (fun w32 h33 => ?_)
        refine ok_seg (L := [((.aload_n 0), 1)]) (pc' := 139) (ls' := [some (.ref x0), some (.int x1), some (.int x2), some (.int x3), some (.int x4)]) (st' := [.ref x0]) (w' := w32) (by decide +kernel) rfl ?_
        refine ok_gr (by decide +kernel : decode m_M_searches.2.1 139 = .ok ((.getfield 82), 3)) rfl (by decide) (fun v34 h35 => ?_)
        refine ok_seg (L := [((.iload_n 3), 1)]) (pc' := 143) (ls' := [some (.ref x0), some (.int x1), some (.int x2), some (.int x3), some (.int x4)]) (st' := [.int x3, .ref v34]) (w' := w32) (by decide +kernel) rfl ?_
        refine ok_call0 (inj' := am_ji) (by decide +kernel : decode m_M_searches.2.1 143 = .ok ((.invokestatic 208), 3)) rfl (fun _ _ => rfl) (o_M_through_1 (d + 1) (v34) (x3) w32) (fun _ _ => rfl) (fun r36 h37 => ?_)
        refine ok_br (P := ¬ r36.2 = 0) (off := 7) (t := 153) (by decide +kernel : decode m_M_searches.2.1 146 = .ok ((.ifCond .ne 7), 3)) rfl rfl rfl rfl (fun c38 => ?_) (fun c38 => ?_)
        · skip
          refine ok_seg (L := [((.iconst 0), 1)]) (pc' := 154) (ls' := [some (.ref x0), some (.int x1), some (.int x2), some (.int x3), some (.int x4)]) (st' := [.int 0]) (w' := r36.1) (by decide +kernel) rfl ?_
          exact o_M_searches_p154 hk75 ih x0 x1 x2 x3 0 (some (.int x4)) r36.1
        · skip
          refine ok_seg (L := [((.iconst 1), 1)]) (pc' := 150) (ls' := [some (.ref x0), some (.int x1), some (.int x2), some (.int x3), some (.int x4)]) (st' := [.int 1]) (w' := r36.1) (by decide +kernel) rfl ?_
          refine ok_goto (t := 154) (by decide +kernel : decode m_M_searches.2.1 150 = .ok ((.goto 4), 3)) rfl ?_
          exact o_M_searches_p154 hk75 ih x0 x1 x2 x3 1 (some (.int x4)) r36.1
theorem o_M_searches_p75 {d : Nat} : ∀ (n : Nat) (x0 : Nat) (x1 : Int32) (x2 : Int32) (y3 y4 : Option Value) (w : am_W), am_Ok am_jv (d + 4) m_M_searches 75 [some (.ref x0), some (.int x1), some (.int x2), y3, y4] [] w (f_M_searches_p75 n x0 x1 x2 w) := by
  intro n
  induction n with
  | zero => intros; exact ok_none
  | succ n ih =>
    intro x0 x1 x2 y3 y4 w
    unfold f_M_searches_p75
    refine ok_seg (L := [((.iload_n 2), 1)]) (pc' := 76) (ls' := [some (.ref x0), some (.int x1), some (.int x2), y3, y4]) (st' := [.int x2]) (w' := w) (by decide +kernel) rfl ?_
    refine ok_br (P := x2 < 0) (off := 122) (t := 198) (by decide +kernel : decode m_M_searches.2.1 76 = .ok ((.ifCond .lt 122), 3)) rfl rfl rfl rfl (fun c39 => ?_) (fun c39 => ?_)
    · skip
      exact o_M_searches_p198 x0 x2 (some (.int x1)) y3 y4 w
    · skip
      refine ok_seg (L := [((.iload_n 2), 1), ((.iload_n 1), 1)]) (pc' := 81) (ls' := [some (.ref x0), some (.int x1), some (.int x2), y3, y4]) (st' := [.int x1, .int x2]) (w' := w) (by decide +kernel) rfl ?_
      refine ok_br (P := x1 ≤ x2) (off := 117) (t := 198) (by decide +kernel : decode m_M_searches.2.1 81 = .ok ((.if_icmp .ge 117), 3)) rfl rfl rfl rfl (fun c40 => ?_) (fun c40 => ?_)
      · skip
        exact o_M_searches_p198 x0 x2 (some (.int x1)) y3 y4 w
      · skip
        refine ok_seg (L := [((.aload_n 0), 1)]) (pc' := 85) (ls' := [some (.ref x0), some (.int x1), some (.int x2), y3, y4]) (st' := [.ref x0]) (w' := w) (by decide +kernel) rfl ?_
        refine ok_gr (by decide +kernel : decode m_M_searches.2.1 85 = .ok ((.getfield 106), 3)) rfl (by decide) (fun v41 h42 => ?_)
        refine ok_seg (L := [((.iload_n 2), 1)]) (pc' := 89) (ls' := [some (.ref x0), some (.int x1), some (.int x2), y3, y4]) (st' := [.int x2, .ref v41]) (w' := w) (by decide +kernel) rfl ?_
        refine ok_ai (by decide +kernel : decode m_M_searches.2.1 89 = .ok (.iaload, 1)) (fun v43 h44 => ?_)
        refine ok_seg (L := [((.istore_n 3), 1), ((.iconst 0), 1), ((.istore 4), 2)]) (pc' := 94) (ls' := [some (.ref x0), some (.int x1), some (.int x2), some (.int v43), some (.int 0)]) (st' := []) (w' := w) (by decide +kernel) rfl ?_
        exact o_M_searches_p94 ih am_N x0 x1 x2 v43 0 w
theorem o_M_searches_p67 {d : Nat} {k35 : Nat → Int32 → Int32 → am_W → Option (am_W × Unit)} (hk35 : ∀ (x0 : Nat) (x1 : Int32) (x2 : Int32) (y3 y4 : Option Value) (w : am_W), am_Ok am_jv (d + 4) m_M_searches 35 [some (.ref x0), some (.int x1), some (.int x2), y3, y4] [] w (k35 x0 x1 x2 w)) (x0 : Nat) (x1 : Int32) (x2 : Int32) (y3 y4 : Option Value) (w : am_W) : am_Ok am_jv (d + 4) m_M_searches 67 [some (.ref x0), some (.int x1), some (.int x2), y3, y4] [] w (f_M_searches_p67 k35 x0 x1 x2 w) := by
  unfold f_M_searches_p67
  refine ok_seg (L := [((.iinc 2 1), 3)]) (pc' := 70) (ls' := [some (.ref x0), some (.int x1), some (.int (x2 + 1)), y3, y4]) (st' := []) (w' := w) (by decide +kernel) rfl ?_
  refine ok_goto (t := 35) (by decide +kernel : decode m_M_searches.2.1 70 = .ok ((.goto (-35)), 3)) rfl ?_
  exact hk35 x0 x1 (x2 + 1) y3 y4 w
theorem o_M_searches_p35 {d : Nat} : ∀ (n : Nat) (x0 : Nat) (x1 : Int32) (x2 : Int32) (y3 y4 : Option Value) (w : am_W), am_Ok am_jv (d + 4) m_M_searches 35 [some (.ref x0), some (.int x1), some (.int x2), y3, y4] [] w (f_M_searches_p35 n x0 x1 x2 w) := by
  intro n
  induction n with
  | zero => intros; exact ok_none
  | succ n ih =>
    intro x0 x1 x2 y3 y4 w
    unfold f_M_searches_p35
    refine ok_seg (L := [((.iload_n 2), 1), ((.aload_n 0), 1)]) (pc' := 37) (ls' := [some (.ref x0), some (.int x1), some (.int x2), y3, y4]) (st' := [.ref x0, .int x2]) (w' := w) (by decide +kernel) rfl ?_
    refine ok_call0 (inj' := am_ji) (by decide +kernel : decode m_M_searches.2.1 37 = .ok ((.invokevirtual 170), 3)) rfl (fun q hq => am_iv0 (am_self_eq hq).1 rfl rfl rfl) (o_M_cellMany (d + 2) (x0) w) (fun _ _ => rfl) (fun r45 h46 => ?_)
    refine ok_br (P := r45.2 ≤ x2) (off := 33) (t := 73) (by decide +kernel : decode m_M_searches.2.1 40 = .ok ((.if_icmp .ge 33), 3)) rfl rfl rfl rfl (fun c47 => ?_) (fun c47 => ?_)
    · skip
      refine ok_seg (L := [((.iconst 0), 1), ((.istore_n 2), 1)]) (pc' := 75) (ls' := [some (.ref x0), some (.int x1), some (.int 0), y3, y4]) (st' := []) (w' := r45.1) (by decide +kernel) rfl ?_
      exact o_M_searches_p75 am_N x0 x1 0 y3 y4 r45.1
    · skip
      refine ok_seg (L := [((.aload_n 0), 1)]) (pc' := 44) (ls' := [some (.ref x0), some (.int x1), some (.int x2), y3, y4]) (st' := [.ref x0]) (w' := r45.1) (by decide +kernel) rfl ?_
      refine ok_gr (by decide +kernel : decode m_M_searches.2.1 44 = .ok ((.getfield 64), 3)) rfl (by decide) (fun v48 h49 => ?_)
      refine ok_seg (L := [((.iconst 3), 1), ((.iload_n 2), 1), (.iadd, 1)]) (pc' := 50) (ls' := [some (.ref x0), some (.int x1), some (.int x2), y3, y4]) (st' := [.int (3 + x2), .ref v48]) (w' := r45.1) (by decide +kernel) rfl ?_
      refine ok_ai (by decide +kernel : decode m_M_searches.2.1 50 = .ok (.iaload, 1)) (fun v50 h51 => ?_)
      refine ok_br (P := v50 = 0) (off := 6) (t := 57) (by decide +kernel : decode m_M_searches.2.1 51 = .ok ((.ifCond .eq 6), 3)) rfl rfl rfl rfl (fun c52 => ?_) (fun c52 => ?_)
      · skip
        refine ok_seg (L := [((.aload_n 0), 1)]) (pc' := 58) (ls' := [some (.ref x0), some (.int x1), some (.int x2), y3, y4]) (st' := [.ref x0]) (w' := r45.1) (by decide +kernel) rfl ?_
        refine ok_gr (by decide +kernel : decode m_M_searches.2.1 58 = .ok ((.getfield 106), 3)) rfl (by decide) (fun v53 h54 => ?_)
        refine ok_seg (L := [((.iload_n 1), 1), ((.iload_n 2), 1)]) (pc' := 63) (ls' := [some (.ref x0), some (.int x1), some (.int x2), y3, y4]) (st' := [.int x2, .int x1, .ref v53]) (w' := r45.1) (by decide +kernel) rfl ?_
        refine ok_si (by decide +kernel : decode m_M_searches.2.1 63 = .ok (.iastore, 1)) (fun w55 h56 => ?_)
        refine ok_seg (L := [((.iinc 1 1), 3)]) (pc' := 67) (ls' := [some (.ref x0), some (.int (x1 + 1)), some (.int x2), y3, y4]) (st' := []) (w' := w55) (by decide +kernel) rfl ?_
        exact o_M_searches_p67 ih x0 (x1 + 1) x2 y3 y4 w55
      · skip
        refine ok_goto (t := 67) (by decide +kernel : decode m_M_searches.2.1 54 = .ok ((.goto 13), 3)) rfl ?_
        exact o_M_searches_p67 ih x0 x1 x2 y3 y4 r45.1
theorem o_M_searches (d : Nat) (x0 : Nat) (w : am_W) : am_Ok am_jv (d + 4) m_M_searches 0 (am_en m_M_searches [.ref x0]) [] w (f_M_searches x0 w) := by
  show am_Ok _ _ _ 0 [some (.ref x0), none, none, none, none] [] w _
  unfold f_M_searches
  refine ok_self ?_
  unfold e_M_searches
  refine ok_seg (L := [((.aload_n 0), 1)]) (pc' := 1) (ls' := [some (.ref x0), none, none, none, none]) (st' := [.ref x0]) (w' := w) (by decide +kernel) rfl ?_
  refine ok_gr (by decide +kernel : decode m_M_searches.2.1 1 = .ok ((.getfield 64), 3)) rfl (by decide) (fun v57 h58 => ?_)
  refine ok_seg (L := [((.iconst 0), 1), ((.aload_n 0), 1)]) (pc' := 6) (ls' := [some (.ref x0), none, none, none, none]) (st' := [.ref x0, .int 0, .ref v57]) (w' := w) (by decide +kernel) rfl ?_
  refine ok_gr (by decide +kernel : decode m_M_searches.2.1 6 = .ok ((.getfield 82), 3)) rfl (by decide) (fun v59 h60 => ?_)
  refine ok_seg (L := [((.iconst 0), 1)]) (pc' := 10) (ls' := [some (.ref x0), none, none, none, none]) (st' := [.int 0, .ref v59, .int 0, .ref v57]) (w' := w) (by decide +kernel) rfl ?_
  refine ok_call0 (inj' := am_jv) (by decide +kernel : decode m_M_searches.2.1 10 = .ok ((.invokestatic 156), 3)) rfl (fun _ _ => rfl) (o_M_copy (d + 3) (v57) (0) (v59) (0) w) (fun _ _ => rfl) (fun r61 h62 => ?_)
  refine ok_seg (L := [((.aload_n 0), 1), ((.iconst 0), 1)]) (pc' := 15) (ls' := [some (.ref x0), none, none, none, none]) (st' := [.int 0, .ref x0]) (w' := r61.1) (by decide +kernel) rfl ?_
  refine ok_pi (by decide +kernel : decode m_M_searches.2.1 15 = .ok ((.putfield 227), 3)) rfl (fun w63 h64 => ?_)
  refine ok_seg (L := [((.aload_n 0), 1), ((.iconst 0), 1)]) (pc' := 20) (ls' := [some (.ref x0), none, none, none, none]) (st' := [.int 0, .ref x0]) (w' := w63) (by decide +kernel) rfl ?_
  refine ok_pi (by decide +kernel : decode m_M_searches.2.1 20 = .ok ((.putfield 230), 3)) rfl (fun w65 h66 => ?_)
  refine ok_seg (L := [((.aload_n 0), 1)]) (pc' := 24) (ls' := [some (.ref x0), none, none, none, none]) (st' := [.ref x0]) (w' := w65) (by decide +kernel) rfl ?_
  refine ok_call0 (inj' := am_ji) (by decide +kernel : decode m_M_searches.2.1 24 = .ok ((.invokevirtual 195), 3)) rfl (fun q hq => am_iv0 (am_self_eq hq).1 rfl rfl rfl) (o_M_isGood (d + 0) (x0) w65) (fun _ _ => rfl) (fun r67 h68 => ?_)
  refine ok_br (P := ¬ r67.2 = 0) (off := 4) (t := 31) (by decide +kernel : decode m_M_searches.2.1 27 = .ok ((.ifCond .ne 4), 3)) rfl rfl rfl rfl (fun c69 => ?_) (fun c69 => ?_)
  · skip
    refine ok_seg (L := [((.iconst 0), 1), ((.istore_n 1), 1), ((.iconst 0), 1), ((.istore_n 2), 1)]) (pc' := 35) (ls' := [some (.ref x0), some (.int 0), some (.int 0), none, none]) (st' := []) (w' := r67.1) (by decide +kernel) rfl ?_
    exact o_M_searches_p35 am_N x0 0 0 none none r67.1
  · skip
    exact ok_ret (v := ()) (by decide +kernel : decode m_M_searches.2.1 30 = .ok (.return_, 1)) rfl
-- m_M_search
def f_M_search_p21 (w : am_W) : Option (am_W × Int32) := (some (w, (-1)))
def f_M_search_p42 (s0 : Int32) (w : am_W) : Option (am_W × Int32) := (some (w, s0))
def e_M_search (x0 : Nat) (x1 : Int32) (w : am_W) : Option (am_W × Int32) := ((am_pv w x0 7 0 (.int 0)).bind fun w1 => ((f_M_high (x0) w1).bind fun r3 => (if r3.2 = 0 then (f_M_search_p21 r3.1) else ((f_M_isIn (x1) (0) (1) r3.1).bind fun r6 => (if ¬ r6.2 = 0 then ((f_M_searches (x0) r6.1).bind fun r9 => (if ¬ x1 = 0 then ((am_gi r9.1 x0 7 29).bind fun v12 => (f_M_search_p42 v12 r9.1)) else ((am_gi r9.1 x0 7 28).bind fun v14 => (f_M_search_p42 v14 r9.1)))) else (f_M_search_p21 r6.1))))))
def f_M_search (x0 : Nat) (x1 : Int32) (w : am_W) : Option (am_W × Int32) := am_self w x0 7 (e_M_search x0 x1 w)
theorem o_M_search_p21 {d : Nat} (y0 y1 : Option Value) (w : am_W) : am_Ok am_ji (d + 5) m_M_search 21 [y0, y1] [] w (f_M_search_p21 w) := by
  unfold f_M_search_p21
  refine ok_seg (L := [((.iconst (-1)), 1)]) (pc' := 22) (ls' := [y0, y1]) (st' := [.int (-1)]) (w' := w) (by decide +kernel) rfl ?_
  exact ok_ret (v := (-1)) (by decide +kernel : decode m_M_search.2.1 22 = .ok (.ireturn, 1)) rfl
theorem o_M_search_p42 {d : Nat} (s0 : Int32) (y0 y1 : Option Value) (w : am_W) : am_Ok am_ji (d + 5) m_M_search 42 [y0, y1] [.int s0] w (f_M_search_p42 s0 w) := by
  unfold f_M_search_p42
  exact ok_ret (v := s0) (by decide +kernel : decode m_M_search.2.1 42 = .ok (.ireturn, 1)) rfl
theorem o_M_search (d : Nat) (x0 : Nat) (x1 : Int32) (w : am_W) : am_Ok am_ji (d + 5) m_M_search 0 (am_en m_M_search [.ref x0, .int x1]) [] w (f_M_search x0 x1 w) := by
  show am_Ok _ _ _ 0 [some (.ref x0), some (.int x1)] [] w _
  unfold f_M_search
  refine ok_self ?_
  unfold e_M_search
  refine ok_seg (L := [((.aload_n 0), 1), ((.iconst 0), 1)]) (pc' := 2) (ls' := [some (.ref x0), some (.int x1)]) (st' := [.int 0, .ref x0]) (w' := w) (by decide +kernel) rfl ?_
  refine ok_pi (by decide +kernel : decode m_M_search.2.1 2 = .ok ((.putfield 1), 3)) rfl (fun w1 h2 => ?_)
  refine ok_seg (L := [((.aload_n 0), 1)]) (pc' := 6) (ls' := [some (.ref x0), some (.int x1)]) (st' := [.ref x0]) (w' := w1) (by decide +kernel) rfl ?_
  refine ok_call0 (inj' := am_ji) (by decide +kernel : decode m_M_search.2.1 6 = .ok ((.invokevirtual 163), 3)) rfl (fun q hq => am_iv0 (am_self_eq hq).1 rfl rfl rfl) (o_M_high (d + 4) (x0) w1) (fun _ _ => rfl) (fun r3 h4 => ?_)
  refine ok_br (P := r3.2 = 0) (off := 12) (t := 21) (by decide +kernel : decode m_M_search.2.1 9 = .ok ((.ifCond .eq 12), 3)) rfl rfl rfl rfl (fun c5 => ?_) (fun c5 => ?_)
  · skip
    exact o_M_search_p21 (some (.ref x0)) (some (.int x1)) r3.1
  · skip
    refine ok_seg (L := [((.iload_n 1), 1), ((.iconst 0), 1), ((.iconst 1), 1)]) (pc' := 15) (ls' := [some (.ref x0), some (.int x1)]) (st' := [.int 1, .int 0, .int x1]) (w' := r3.1) (by decide +kernel) rfl ?_
    refine ok_call0 (inj' := am_ji) (by decide +kernel : decode m_M_search.2.1 15 = .ok ((.invokestatic 121), 3)) rfl (fun _ _ => rfl) (o_M_isIn (d + 4) (x1) (0) (1) r3.1) (fun _ _ => rfl) (fun r6 h7 => ?_)
    refine ok_br (P := ¬ r6.2 = 0) (off := 5) (t := 23) (by decide +kernel : decode m_M_search.2.1 18 = .ok ((.ifCond .ne 5), 3)) rfl rfl rfl rfl (fun c8 => ?_) (fun c8 => ?_)
    · skip
      refine ok_seg (L := [((.aload_n 0), 1)]) (pc' := 24) (ls' := [some (.ref x0), some (.int x1)]) (st' := [.ref x0]) (w' := r6.1) (by decide +kernel) rfl ?_
      refine ok_call0 (inj' := am_jv) (by decide +kernel : decode m_M_search.2.1 24 = .ok ((.invokevirtual 233), 3)) rfl (fun q hq => am_iv0 (am_self_eq hq).1 rfl rfl rfl) (o_M_searches (d + 0) (x0) r6.1) (fun _ _ => rfl) (fun r9 h10 => ?_)
      refine ok_seg (L := [((.iload_n 1), 1)]) (pc' := 28) (ls' := [some (.ref x0), some (.int x1)]) (st' := [.int x1]) (w' := r9.1) (by decide +kernel) rfl ?_
      refine ok_br (P := ¬ x1 = 0) (off := 10) (t := 38) (by decide +kernel : decode m_M_search.2.1 28 = .ok ((.ifCond .ne 10), 3)) rfl rfl rfl rfl (fun c11 => ?_) (fun c11 => ?_)
      · skip
        refine ok_seg (L := [((.aload_n 0), 1)]) (pc' := 39) (ls' := [some (.ref x0), some (.int x1)]) (st' := [.ref x0]) (w' := r9.1) (by decide +kernel) rfl ?_
        refine ok_gi (by decide +kernel : decode m_M_search.2.1 39 = .ok ((.getfield 230), 3)) rfl (fun v12 h13 => ?_)
        exact o_M_search_p42 v12 (some (.ref x0)) (some (.int x1)) r9.1
      · skip
        refine ok_seg (L := [((.aload_n 0), 1)]) (pc' := 32) (ls' := [some (.ref x0), some (.int x1)]) (st' := [.ref x0]) (w' := r9.1) (by decide +kernel) rfl ?_
        refine ok_gi (by decide +kernel : decode m_M_search.2.1 32 = .ok ((.getfield 227), 3)) rfl (fun v14 h15 => ?_)
        refine ok_goto (t := 42) (by decide +kernel : decode m_M_search.2.1 35 = .ok ((.goto 7), 3)) rfl ?_
        exact o_M_search_p42 v14 (some (.ref x0)) (some (.int x1)) r9.1
    · skip
      exact o_M_search_p21 (some (.ref x0)) (some (.int x1)) r6.1
-- m_M_found
def f_M_found_p39 (s0 : Int32) (w : am_W) : Option (am_W × Int32) := (some (w, s0))
def e_M_found (x0 : Nat) (x1 : Int32) (w : am_W) : Option (am_W × Int32) := ((am_pv w x0 7 0 (.int 0)).bind fun w1 => ((f_M_isCell (x0) (x1) w1).bind fun r3 => (if ¬ r3.2 = 0 then ((f_M_searches (x0) r3.1).bind fun r6 => ((am_gi r6.1 x0 7 29).bind fun v8 => (if ¬ v8 = 1 then (f_M_found_p39 (-1) r6.1) else ((am_gr r6.1 x0 7 17).bind fun v11 => ((am_ai r6.1 v11 (3 + x1)).bind fun v13 => (f_M_found_p39 v13 r6.1)))))) else (some (r3.1, (-1))))))
def f_M_found (x0 : Nat) (x1 : Int32) (w : am_W) : Option (am_W × Int32) := am_self w x0 7 (e_M_found x0 x1 w)
theorem o_M_found_p39 {d : Nat} (s0 : Int32) (y0 y1 : Option Value) (w : am_W) : am_Ok am_ji (d + 5) m_M_found 39 [y0, y1] [.int s0] w (f_M_found_p39 s0 w) := by
  unfold f_M_found_p39
  exact ok_ret (v := s0) (by decide +kernel : decode m_M_found.2.1 39 = .ok (.ireturn, 1)) rfl
theorem o_M_found (d : Nat) (x0 : Nat) (x1 : Int32) (w : am_W) : am_Ok am_ji (d + 5) m_M_found 0 (am_en m_M_found [.ref x0, .int x1]) [] w (f_M_found x0 x1 w) := by
  show am_Ok _ _ _ 0 [some (.ref x0), some (.int x1)] [] w _
  unfold f_M_found
  refine ok_self ?_
  unfold e_M_found
  refine ok_seg (L := [((.aload_n 0), 1), ((.iconst 0), 1)]) (pc' := 2) (ls' := [some (.ref x0), some (.int x1)]) (st' := [.int 0, .ref x0]) (w' := w) (by decide +kernel) rfl ?_
  refine ok_pi (by decide +kernel : decode m_M_found.2.1 2 = .ok ((.putfield 1), 3)) rfl (fun w1 h2 => ?_)
  refine ok_seg (L := [((.aload_n 0), 1), ((.iload_n 1), 1)]) (pc' := 7) (ls' := [some (.ref x0), some (.int x1)]) (st' := [.int x1, .ref x0]) (w' := w1) (by decide +kernel) rfl ?_
  refine ok_call0 (inj' := am_ji) (by decide +kernel : decode m_M_found.2.1 7 = .ok ((.invokevirtual 198), 3)) rfl (fun q hq => am_iv0 (am_self_eq hq).1 rfl rfl rfl) (o_M_isCell (d + 2) (x0) (x1) w1) (fun _ _ => rfl) (fun r3 h4 => ?_)
  refine ok_br (P := ¬ r3.2 = 0) (off := 5) (t := 15) (by decide +kernel : decode m_M_found.2.1 10 = .ok ((.ifCond .ne 5), 3)) rfl rfl rfl rfl (fun c5 => ?_) (fun c5 => ?_)
  · skip
    refine ok_seg (L := [((.aload_n 0), 1)]) (pc' := 16) (ls' := [some (.ref x0), some (.int x1)]) (st' := [.ref x0]) (w' := r3.1) (by decide +kernel) rfl ?_
    refine ok_call0 (inj' := am_jv) (by decide +kernel : decode m_M_found.2.1 16 = .ok ((.invokevirtual 233), 3)) rfl (fun q hq => am_iv0 (am_self_eq hq).1 rfl rfl rfl) (o_M_searches (d + 0) (x0) r3.1) (fun _ _ => rfl) (fun r6 h7 => ?_)
    refine ok_seg (L := [((.aload_n 0), 1)]) (pc' := 20) (ls' := [some (.ref x0), some (.int x1)]) (st' := [.ref x0]) (w' := r6.1) (by decide +kernel) rfl ?_
    refine ok_gi (by decide +kernel : decode m_M_found.2.1 20 = .ok ((.getfield 230), 3)) rfl (fun v8 h9 => ?_)
    refine ok_seg (L := [((.iconst 1), 1)]) (pc' := 24) (ls' := [some (.ref x0), some (.int x1)]) (st' := [.int 1, .int v8]) (w' := r6.1) (by decide +kernel) rfl ?_
    refine ok_br (P := ¬ v8 = 1) (off := 14) (t := 38) (by decide +kernel : decode m_M_found.2.1 24 = .ok ((.if_icmp .ne 14), 3)) rfl rfl rfl rfl (fun c10 => ?_) (fun c10 => ?_)
    · skip
      refine ok_seg (L := [((.iconst (-1)), 1)]) (pc' := 39) (ls' := [some (.ref x0), some (.int x1)]) (st' := [.int (-1)]) (w' := r6.1) (by decide +kernel) rfl ?_
      exact o_M_found_p39 (-1) (some (.ref x0)) (some (.int x1)) r6.1
    · skip
      refine ok_seg (L := [((.aload_n 0), 1)]) (pc' := 28) (ls' := [some (.ref x0), some (.int x1)]) (st' := [.ref x0]) (w' := r6.1) (by decide +kernel) rfl ?_
      refine ok_gr (by decide +kernel : decode m_M_found.2.1 28 = .ok ((.getfield 82), 3)) rfl (by decide) (fun v11 h12 => ?_)
      refine ok_seg (L := [((.iconst 3), 1), ((.iload_n 1), 1), (.iadd, 1)]) (pc' := 34) (ls' := [some (.ref x0), some (.int x1)]) (st' := [.int (3 + x1), .ref v11]) (w' := r6.1) (by decide +kernel) rfl ?_
      refine ok_ai (by decide +kernel : decode m_M_found.2.1 34 = .ok (.iaload, 1)) (fun v13 h14 => ?_)
      refine ok_goto (t := 39) (by decide +kernel : decode m_M_found.2.1 35 = .ok ((.goto 4), 3)) rfl ?_
      exact o_M_found_p39 v13 (some (.ref x0)) (some (.int x1)) r6.1
  · skip
    refine ok_seg (L := [((.iconst (-1)), 1)]) (pc' := 14) (ls' := [some (.ref x0), some (.int x1)]) (st' := [.int (-1)]) (w' := r3.1) (by decide +kernel) rfl ?_
    exact ok_ret (v := (-1)) (by decide +kernel : decode m_M_found.2.1 14 = .ok (.ireturn, 1)) rfl
-- m_M_snap
def f_M_snap_p49 (x0 : Nat) (w : am_W) : Option (am_W × Unit) := ((am_gr w x0 7 11).bind fun v1 => ((am_gr w x0 7 14).bind fun v3 => ((am_gi w x0 7 19).bind fun v5 => ((f_M_copy (v1) (0) (v3) ((67 * v5)) w).bind fun r7 => ((am_gi r7.1 x0 7 19).bind fun v9 => ((am_pv r7.1 x0 7 19 (.int (v9 + 1))).bind fun w11 => (some (w11, ()))))))))
def f_M_snap_p11 : Nat → Nat → Int32 → am_W → Option (am_W × Unit)
  | 0, _, _, _ => none
  | n + 1, x0, x1, w => (if 469 ≤ x1 then ((am_gi w x0 7 19).bind fun v14 => ((am_pv w x0 7 19 (.int (v14 - 1))).bind fun w16 => (f_M_snap_p49 x0 w16))) else ((am_gr w x0 7 14).bind fun v18 => ((am_gr w x0 7 14).bind fun v20 => ((am_ai w v20 (x1 + 67)).bind fun v22 => ((am_si w v18 x1 v22).bind fun w24 => (f_M_snap_p11 n x0 (x1 + 1) w24))))))
def e_M_snap (x0 : Nat) (w : am_W) : Option (am_W × Unit) := ((am_gi w x0 7 19).bind fun v26 => (if ¬ v26 = 8 then (f_M_snap_p49 x0 w) else (f_M_snap_p11 am_N x0 0 w)))
def f_M_snap (x0 : Nat) (w : am_W) : Option (am_W × Unit) := am_self w x0 7 (e_M_snap x0 w)
theorem o_M_snap_p49 {d : Nat} (x0 : Nat) (y1 : Option Value) (w : am_W) : am_Ok am_jv (d + 1) m_M_snap 49 [some (.ref x0), y1] [] w (f_M_snap_p49 x0 w) := by
  unfold f_M_snap_p49
  refine ok_seg (L := [((.aload_n 0), 1)]) (pc' := 50) (ls' := [some (.ref x0), y1]) (st' := [.ref x0]) (w' := w) (by decide +kernel) rfl ?_
  refine ok_gr (by decide +kernel : decode m_M_snap.2.1 50 = .ok ((.getfield 64), 3)) rfl (by decide) (fun v1 h2 => ?_)
  refine ok_seg (L := [((.iconst 0), 1), ((.aload_n 0), 1)]) (pc' := 55) (ls' := [some (.ref x0), y1]) (st' := [.ref x0, .int 0, .ref v1]) (w' := w) (by decide +kernel) rfl ?_
  refine ok_gr (by decide +kernel : decode m_M_snap.2.1 55 = .ok ((.getfield 73), 3)) rfl (by decide) (fun v3 h4 => ?_)
  refine ok_seg (L := [((.bipush 67), 2), ((.aload_n 0), 1)]) (pc' := 61) (ls' := [some (.ref x0), y1]) (st' := [.ref x0, .int 67, .ref v3, .int 0, .ref v1]) (w' := w) (by decide +kernel) rfl ?_
  refine ok_gi (by decide +kernel : decode m_M_snap.2.1 61 = .ok ((.getfield 160), 3)) rfl (fun v5 h6 => ?_)
  refine ok_seg (L := [(.imul, 1)]) (pc' := 65) (ls' := [some (.ref x0), y1]) (st' := [.int (67 * v5), .ref v3, .int 0, .ref v1]) (w' := w) (by decide +kernel) rfl ?_
  refine ok_call0 (inj' := am_jv) (by decide +kernel : decode m_M_snap.2.1 65 = .ok ((.invokestatic 156), 3)) rfl (fun _ _ => rfl) (o_M_copy (d + 0) (v1) (0) (v3) ((67 * v5)) w) (fun _ _ => rfl) (fun r7 h8 => ?_)
  refine ok_seg (L := [((.aload_n 0), 1), (.dup, 1)]) (pc' := 70) (ls' := [some (.ref x0), y1]) (st' := [.ref x0, .ref x0]) (w' := r7.1) (by decide +kernel) rfl ?_
  refine ok_gi (by decide +kernel : decode m_M_snap.2.1 70 = .ok ((.getfield 160), 3)) rfl (fun v9 h10 => ?_)
  refine ok_seg (L := [((.iconst 1), 1), (.iadd, 1)]) (pc' := 75) (ls' := [some (.ref x0), y1]) (st' := [.int (v9 + 1), .ref x0]) (w' := r7.1) (by decide +kernel) rfl ?_
  refine ok_pi (by decide +kernel : decode m_M_snap.2.1 75 = .ok ((.putfield 160), 3)) rfl (fun w11 h12 => ?_)
  exact ok_ret (v := ()) (by decide +kernel : decode m_M_snap.2.1 78 = .ok (.return_, 1)) rfl
theorem o_M_snap_p11 {d : Nat} : ∀ (n : Nat) (x0 : Nat) (x1 : Int32) (w : am_W), am_Ok am_jv (d + 1) m_M_snap 11 [some (.ref x0), some (.int x1)] [] w (f_M_snap_p11 n x0 x1 w) := by
  intro n
  induction n with
  | zero => intros; exact ok_none
  | succ n ih =>
    intro x0 x1 w
    unfold f_M_snap_p11
    refine ok_seg (L := [((.iload_n 1), 1), ((.sipush 469), 3)]) (pc' := 15) (ls' := [some (.ref x0), some (.int x1)]) (st' := [.int 469, .int x1]) (w' := w) (by decide +kernel) rfl ?_
    refine ok_br (P := 469 ≤ x1) (off := 24) (t := 39) (by decide +kernel : decode m_M_snap.2.1 15 = .ok ((.if_icmp .ge 24), 3)) rfl rfl rfl rfl (fun c13 => ?_) (fun c13 => ?_)
    · skip
      refine ok_seg (L := [((.aload_n 0), 1), (.dup, 1)]) (pc' := 41) (ls' := [some (.ref x0), some (.int x1)]) (st' := [.ref x0, .ref x0]) (w' := w) (by decide +kernel) rfl ?_
      refine ok_gi (by decide +kernel : decode m_M_snap.2.1 41 = .ok ((.getfield 160), 3)) rfl (fun v14 h15 => ?_)
      refine ok_seg (L := [((.iconst 1), 1), (.isub, 1)]) (pc' := 46) (ls' := [some (.ref x0), some (.int x1)]) (st' := [.int (v14 - 1), .ref x0]) (w' := w) (by decide +kernel) rfl ?_
      refine ok_pi (by decide +kernel : decode m_M_snap.2.1 46 = .ok ((.putfield 160), 3)) rfl (fun w16 h17 => ?_)
      exact o_M_snap_p49 x0 (some (.int x1)) w16
    · skip
      refine ok_seg (L := [((.aload_n 0), 1)]) (pc' := 19) (ls' := [some (.ref x0), some (.int x1)]) (st' := [.ref x0]) (w' := w) (by decide +kernel) rfl ?_
      refine ok_gr (by decide +kernel : decode m_M_snap.2.1 19 = .ok ((.getfield 73), 3)) rfl (by decide) (fun v18 h19 => ?_)
      refine ok_seg (L := [((.iload_n 1), 1), ((.aload_n 0), 1)]) (pc' := 24) (ls' := [some (.ref x0), some (.int x1)]) (st' := [.ref x0, .int x1, .ref v18]) (w' := w) (by decide +kernel) rfl ?_
      refine ok_gr (by decide +kernel : decode m_M_snap.2.1 24 = .ok ((.getfield 73), 3)) rfl (by decide) (fun v20 h21 => ?_)
      refine ok_seg (L := [((.iload_n 1), 1), ((.bipush 67), 2), (.iadd, 1)]) (pc' := 31) (ls' := [some (.ref x0), some (.int x1)]) (st' := [.int (x1 + 67), .ref v20, .int x1, .ref v18]) (w' := w) (by decide +kernel) rfl ?_
      refine ok_ai (by decide +kernel : decode m_M_snap.2.1 31 = .ok (.iaload, 1)) (fun v22 h23 => ?_)
      refine ok_si (by decide +kernel : decode m_M_snap.2.1 32 = .ok (.iastore, 1)) (fun w24 h25 => ?_)
      refine ok_seg (L := [((.iinc 1 1), 3)]) (pc' := 36) (ls' := [some (.ref x0), some (.int (x1 + 1))]) (st' := []) (w' := w24) (by decide +kernel) rfl ?_
      refine ok_goto (t := 11) (by decide +kernel : decode m_M_snap.2.1 36 = .ok ((.goto (-25)), 3)) rfl ?_
      exact ih x0 (x1 + 1) w24
theorem o_M_snap (d : Nat) (x0 : Nat) (w : am_W) : am_Ok am_jv (d + 1) m_M_snap 0 (am_en m_M_snap [.ref x0]) [] w (f_M_snap x0 w) := by
  show am_Ok _ _ _ 0 [some (.ref x0), none] [] w _
  unfold f_M_snap
  refine ok_self ?_
  unfold e_M_snap
  refine ok_seg (L := [((.aload_n 0), 1)]) (pc' := 1) (ls' := [some (.ref x0), none]) (st' := [.ref x0]) (w' := w) (by decide +kernel) rfl ?_
  refine ok_gi (by decide +kernel : decode m_M_snap.2.1 1 = .ok ((.getfield 160), 3)) rfl (fun v26 h27 => ?_)
  refine ok_seg (L := [((.bipush 8), 2)]) (pc' := 6) (ls' := [some (.ref x0), none]) (st' := [.int 8, .int v26]) (w' := w) (by decide +kernel) rfl ?_
  refine ok_br (P := ¬ v26 = 8) (off := 43) (t := 49) (by decide +kernel : decode m_M_snap.2.1 6 = .ok ((.if_icmp .ne 43), 3)) rfl rfl rfl rfl (fun c28 => ?_) (fun c28 => ?_)
  · skip
    exact o_M_snap_p49 x0 none w
  · skip
    refine ok_seg (L := [((.iconst 0), 1), ((.istore_n 1), 1)]) (pc' := 11) (ls' := [some (.ref x0), some (.int 0)]) (st' := []) (w' := w) (by decide +kernel) rfl ?_
    exact o_M_snap_p11 am_N x0 0 w
-- m_M_fill
def e_M_fill (x0 : Nat) (w : am_W) : Option (am_W × Int32) := ((am_pv w x0 7 0 (.int 0)).bind fun w1 => ((f_M_high (x0) w1).bind fun r3 => (if ¬ r3.2 = 0 then ((f_M_searches (x0) r3.1).bind fun r6 => ((am_gi r6.1 x0 7 29).bind fun v8 => (if v8 = 1 then ((am_gr r6.1 x0 7 11).bind fun v11 => ((f_M_blanks (x0) (v11) r6.1).bind fun r13 => ((f_M_snap (x0) r13.1).bind fun r15 => ((am_gr r15.1 x0 7 17).bind fun v17 => ((am_gr r15.1 x0 7 11).bind fun v19 => ((f_M_copy (v17) (0) (v19) (0) r15.1).bind fun r21 => (some (r21.1, r13.2)))))))) else (some (r6.1, (-1)))))) else (some (r3.1, (-1))))))
def f_M_fill (x0 : Nat) (w : am_W) : Option (am_W × Int32) := am_self w x0 7 (e_M_fill x0 w)
theorem o_M_fill (d : Nat) (x0 : Nat) (w : am_W) : am_Ok am_ji (d + 5) m_M_fill 0 (am_en m_M_fill [.ref x0]) [] w (f_M_fill x0 w) := by
  show am_Ok _ _ _ 0 [some (.ref x0), none] [] w _
  unfold f_M_fill
  refine ok_self ?_
  unfold e_M_fill
  refine ok_seg (L := [((.aload_n 0), 1), ((.iconst 0), 1)]) (pc' := 2) (ls' := [some (.ref x0), none]) (st' := [.int 0, .ref x0]) (w' := w) (by decide +kernel) rfl ?_
  refine ok_pi (by decide +kernel : decode m_M_fill.2.1 2 = .ok ((.putfield 1), 3)) rfl (fun w1 h2 => ?_)
  refine ok_seg (L := [((.aload_n 0), 1)]) (pc' := 6) (ls' := [some (.ref x0), none]) (st' := [.ref x0]) (w' := w1) (by decide +kernel) rfl ?_
  refine ok_call0 (inj' := am_ji) (by decide +kernel : decode m_M_fill.2.1 6 = .ok ((.invokevirtual 163), 3)) rfl (fun q hq => am_iv0 (am_self_eq hq).1 rfl rfl rfl) (o_M_high (d + 4) (x0) w1) (fun _ _ => rfl) (fun r3 h4 => ?_)
  refine ok_br (P := ¬ r3.2 = 0) (off := 5) (t := 14) (by decide +kernel : decode m_M_fill.2.1 9 = .ok ((.ifCond .ne 5), 3)) rfl rfl rfl rfl (fun c5 => ?_) (fun c5 => ?_)
  · skip
    refine ok_seg (L := [((.aload_n 0), 1)]) (pc' := 15) (ls' := [some (.ref x0), none]) (st' := [.ref x0]) (w' := r3.1) (by decide +kernel) rfl ?_
    refine ok_call0 (inj' := am_jv) (by decide +kernel : decode m_M_fill.2.1 15 = .ok ((.invokevirtual 233), 3)) rfl (fun q hq => am_iv0 (am_self_eq hq).1 rfl rfl rfl) (o_M_searches (d + 0) (x0) r3.1) (fun _ _ => rfl) (fun r6 h7 => ?_)
    refine ok_seg (L := [((.aload_n 0), 1)]) (pc' := 19) (ls' := [some (.ref x0), none]) (st' := [.ref x0]) (w' := r6.1) (by decide +kernel) rfl ?_
    refine ok_gi (by decide +kernel : decode m_M_fill.2.1 19 = .ok ((.getfield 230), 3)) rfl (fun v8 h9 => ?_)
    refine ok_seg (L := [((.iconst 1), 1)]) (pc' := 23) (ls' := [some (.ref x0), none]) (st' := [.int 1, .int v8]) (w' := r6.1) (by decide +kernel) rfl ?_
    refine ok_br (P := v8 = 1) (off := 5) (t := 28) (by decide +kernel : decode m_M_fill.2.1 23 = .ok ((.if_icmp .eq 5), 3)) rfl rfl rfl rfl (fun c10 => ?_) (fun c10 => ?_)
    · skip
      refine ok_seg (L := [((.aload_n 0), 1), ((.aload_n 0), 1)]) (pc' := 30) (ls' := [some (.ref x0), none]) (st' := [.ref x0, .ref x0]) (w' := r6.1) (by decide +kernel) rfl ?_
      refine ok_gr (by decide +kernel : decode m_M_fill.2.1 30 = .ok ((.getfield 64), 3)) rfl (by decide) (fun v11 h12 => ?_)
      refine ok_call0 (inj' := am_ji) (by decide +kernel : decode m_M_fill.2.1 33 = .ok ((.invokevirtual 191), 3)) rfl (fun q hq => am_iv0 (am_self_eq hq).1 rfl rfl rfl) (o_M_blanks (d + 4) (x0) (v11) r6.1) (fun _ _ => rfl) (fun r13 h14 => ?_)
      refine ok_seg (L := [((.istore_n 1), 1), ((.aload_n 0), 1)]) (pc' := 38) (ls' := [some (.ref x0), some (.int r13.2)]) (st' := [.ref x0]) (w' := r13.1) (by decide +kernel) rfl ?_
      refine ok_call0 (inj' := am_jv) (by decide +kernel : decode m_M_fill.2.1 38 = .ok ((.invokevirtual 236), 3)) rfl (fun q hq => am_iv0 (am_self_eq hq).1 rfl rfl rfl) (o_M_snap (d + 3) (x0) r13.1) (fun _ _ => rfl) (fun r15 h16 => ?_)
      refine ok_seg (L := [((.aload_n 0), 1)]) (pc' := 42) (ls' := [some (.ref x0), some (.int r13.2)]) (st' := [.ref x0]) (w' := r15.1) (by decide +kernel) rfl ?_
      refine ok_gr (by decide +kernel : decode m_M_fill.2.1 42 = .ok ((.getfield 82), 3)) rfl (by decide) (fun v17 h18 => ?_)
      refine ok_seg (L := [((.iconst 0), 1), ((.aload_n 0), 1)]) (pc' := 47) (ls' := [some (.ref x0), some (.int r13.2)]) (st' := [.ref x0, .int 0, .ref v17]) (w' := r15.1) (by decide +kernel) rfl ?_
      refine ok_gr (by decide +kernel : decode m_M_fill.2.1 47 = .ok ((.getfield 64), 3)) rfl (by decide) (fun v19 h20 => ?_)
      refine ok_seg (L := [((.iconst 0), 1)]) (pc' := 51) (ls' := [some (.ref x0), some (.int r13.2)]) (st' := [.int 0, .ref v19, .int 0, .ref v17]) (w' := r15.1) (by decide +kernel) rfl ?_
      refine ok_call0 (inj' := am_jv) (by decide +kernel : decode m_M_fill.2.1 51 = .ok ((.invokestatic 156), 3)) rfl (fun _ _ => rfl) (o_M_copy (d + 4) (v17) (0) (v19) (0) r15.1) (fun _ _ => rfl) (fun r21 h22 => ?_)
      refine ok_seg (L := [((.iload_n 1), 1)]) (pc' := 55) (ls' := [some (.ref x0), some (.int r13.2)]) (st' := [.int r13.2]) (w' := r21.1) (by decide +kernel) rfl ?_
      exact ok_ret (v := r13.2) (by decide +kernel : decode m_M_fill.2.1 55 = .ok (.ireturn, 1)) rfl
    · skip
      refine ok_seg (L := [((.iconst (-1)), 1)]) (pc' := 27) (ls' := [some (.ref x0), none]) (st' := [.int (-1)]) (w' := r6.1) (by decide +kernel) rfl ?_
      exact ok_ret (v := (-1)) (by decide +kernel : decode m_M_fill.2.1 27 = .ok (.ireturn, 1)) rfl
  · skip
    refine ok_seg (L := [((.iconst (-1)), 1)]) (pc' := 13) (ls' := [some (.ref x0), none]) (st' := [.int (-1)]) (w' := r3.1) (by decide +kernel) rfl ?_
    exact ok_ret (v := (-1)) (by decide +kernel : decode m_M_fill.2.1 13 = .ok (.ireturn, 1)) rfl
-- m_M_isLike
def f_M_isLike_p126 (k30 : Nat → Int32 → am_W → Option (am_W × Int32)) (k40 : Nat → Int32 → Int32 → am_W → Option (am_W × Int32)) (x0 : Nat) (x1 : Int32) (x2 : Int32) (x3 : Int32) (x4 : Int32) (w : am_W) : Option (am_W × Int32) := ((am_gr w x0 7 32).bind fun v1 => ((am_ai w v1 x3).bind fun v3 => (if v3 = x4 then (k40 x0 x1 (x2 + 1) w) else (some (w, 0)))))
def f_M_isLike_p92 (k30 : Nat → Int32 → am_W → Option (am_W × Int32)) (k40 : Nat → Int32 → Int32 → am_W → Option (am_W × Int32)) : Nat → Nat → Int32 → Int32 → Int32 → Int32 → Int32 → am_W → Option (am_W × Int32)
  | 0, _, _, _, _, _, _, _ => none
  | n + 1, x0, x1, x2, x3, x4, x5, w => (if 5 ≤ x5 then ((am_gr w x0 7 32).bind fun v7 => ((am_si w v7 x3 x4).bind fun w9 => (f_M_isLike_p126 k30 k40 x0 x1 x2 x3 x4 w9))) else ((am_gr w x0 7 32).bind fun v11 => ((am_ai w v11 x5).bind fun v13 => (if ¬ v13 = x4 then (f_M_isLike_p92 k30 k40 n x0 x1 x2 x3 x4 (x5 + 1) w) else (some (w, 0))))))
def f_M_isLike_p40 (k30 : Nat → Int32 → am_W → Option (am_W × Int32)) : Nat → Nat → Int32 → Int32 → am_W → Option (am_W × Int32)
  | 0, _, _, _, _ => none
  | n + 1, x0, x1, x2, w => ((f_M_broad (x0) w).bind fun r16 => (if r16.2 ≤ x2 then (k30 x0 (x1 + 1) r16.1) else ((am_gr r16.1 x0 7 11).bind fun v19 => ((f_M_colourAt (v19) (x1) (x2) r16.1).bind fun r21 => ((am_gr r21.1 x0 7 11).bind fun v23 => ((am_gr r21.1 x0 7 30).bind fun v25 => ((am_ai r21.1 v25 x1).bind fun v27 => ((am_gr r21.1 x0 7 31).bind fun v29 => ((am_ai r21.1 v29 x2).bind fun v31 => ((f_M_colourAt (v23) (v27) (v31) r21.1).bind fun r33 => ((am_gr r33.1 x0 7 32).bind fun v35 => ((am_ai r33.1 v35 r21.2).bind fun v37 => (if ¬ v37 = (-1) then (f_M_isLike_p126 k30 (f_M_isLike_p40 k30 n) x0 x1 x2 r21.2 r33.2 r33.1) else (f_M_isLike_p92 k30 (f_M_isLike_p40 k30 n) am_N x0 x1 x2 r21.2 r33.2 0 r33.1))))))))))))))
def f_M_isLike_p30 : Nat → Nat → Int32 → am_W → Option (am_W × Int32)
  | 0, _, _, _ => none
  | n + 1, x0, x1, w => ((f_M_high (x0) w).bind fun r40 => (if r40.2 ≤ x1 then (some (r40.1, 1)) else (f_M_isLike_p40 (f_M_isLike_p30 n) am_N x0 x1 0 r40.1)))
def f_M_isLike_p21 (k2 : Nat → Int32 → am_W → Option (am_W × Int32)) (x0 : Nat) (x1 : Int32) (s0 : Nat) (s1 : Int32) (s2 : Int32) (w : am_W) : Option (am_W × Int32) := ((am_si w s0 s1 s2).bind fun w43 => (k2 x0 (x1 + 1) w43))
def f_M_isLike_p2 : Nat → Nat → Int32 → am_W → Option (am_W × Int32)
  | 0, _, _, _ => none
  | n + 1, x0, x1, w => (if 5 ≤ x1 then (f_M_isLike_p30 am_N x0 0 w) else ((am_gr w x0 7 32).bind fun v46 => (if ¬ x1 = 0 then (f_M_isLike_p21 (f_M_isLike_p2 n) x0 x1 v46 x1 (-1) w) else (f_M_isLike_p21 (f_M_isLike_p2 n) x0 x1 v46 x1 0 w))))
def e_M_isLike (x0 : Nat) (w : am_W) : Option (am_W × Int32) := (f_M_isLike_p2 am_N x0 0 w)
def f_M_isLike (x0 : Nat) (w : am_W) : Option (am_W × Int32) := am_self w x0 7 (e_M_isLike x0 w)
theorem o_M_isLike_p126 {d : Nat} {k30 : Nat → Int32 → am_W → Option (am_W × Int32)} {k40 : Nat → Int32 → Int32 → am_W → Option (am_W × Int32)} (hk30 : ∀ (x0 : Nat) (x1 : Int32) (y2 y3 y4 y5 : Option Value) (w : am_W), am_Ok am_ji (d + 1) m_M_isLike 30 [some (.ref x0), some (.int x1), y2, y3, y4, y5] [] w (k30 x0 x1 w)) (hk40 : ∀ (x0 : Nat) (x1 : Int32) (x2 : Int32) (y3 y4 y5 : Option Value) (w : am_W), am_Ok am_ji (d + 1) m_M_isLike 40 [some (.ref x0), some (.int x1), some (.int x2), y3, y4, y5] [] w (k40 x0 x1 x2 w)) (x0 : Nat) (x1 : Int32) (x2 : Int32) (x3 : Int32) (x4 : Int32) (y5 : Option Value) (w : am_W) : am_Ok am_ji (d + 1) m_M_isLike 126 [some (.ref x0), some (.int x1), some (.int x2), some (.int x3), some (.int x4), y5] [] w (f_M_isLike_p126 k30 k40 x0 x1 x2 x3 x4 w) := by
  unfold f_M_isLike_p126
  refine ok_seg (L := [((.aload_n 0), 1)]) (pc' := 127) (ls' := [some (.ref x0), some (.int x1), some (.int x2), some (.int x3), some (.int x4), y5]) (st' := [.ref x0]) (w' := w) (by decide +kernel) rfl ?_
  refine ok_gr (by decide +kernel : decode m_M_isLike.2.1 127 = .ok ((.getfield 115), 3)) rfl (by decide) (fun v1 h2 => ?_)
  refine ok_seg (L := [((.iload_n 3), 1)]) (pc' := 131) (ls' := [some (.ref x0), some (.int x1), some (.int x2), some (.int x3), some (.int x4), y5]) (st' := [.int x3, .ref v1]) (w' := w) (by decide +kernel) rfl ?_
  refine ok_ai (by decide +kernel : decode m_M_isLike.2.1 131 = .ok (.iaload, 1)) (fun v3 h4 => ?_)
  refine ok_seg (L := [((.iload 4), 2)]) (pc' := 134) (ls' := [some (.ref x0), some (.int x1), some (.int x2), some (.int x3), some (.int x4), y5]) (st' := [.int x4, .int v3]) (w' := w) (by decide +kernel) rfl ?_
  refine ok_br (P := v3 = x4) (off := 5) (t := 139) (by decide +kernel : decode m_M_isLike.2.1 134 = .ok ((.if_icmp .eq 5), 3)) rfl rfl rfl rfl (fun c5 => ?_) (fun c5 => ?_)
  · skip
    refine ok_seg (L := [((.iinc 2 1), 3)]) (pc' := 142) (ls' := [some (.ref x0), some (.int x1), some (.int (x2 + 1)), some (.int x3), some (.int x4), y5]) (st' := []) (w' := w) (by decide +kernel) rfl ?_
    refine ok_goto (t := 40) (by decide +kernel : decode m_M_isLike.2.1 142 = .ok ((.goto (-102)), 3)) rfl ?_
    exact hk40 x0 x1 (x2 + 1) (some (.int x3)) (some (.int x4)) y5 w
  · skip
    refine ok_seg (L := [((.iconst 0), 1)]) (pc' := 138) (ls' := [some (.ref x0), some (.int x1), some (.int x2), some (.int x3), some (.int x4), y5]) (st' := [.int 0]) (w' := w) (by decide +kernel) rfl ?_
    exact ok_ret (v := 0) (by decide +kernel : decode m_M_isLike.2.1 138 = .ok (.ireturn, 1)) rfl
theorem o_M_isLike_p92 {d : Nat} {k30 : Nat → Int32 → am_W → Option (am_W × Int32)} {k40 : Nat → Int32 → Int32 → am_W → Option (am_W × Int32)} (hk30 : ∀ (x0 : Nat) (x1 : Int32) (y2 y3 y4 y5 : Option Value) (w : am_W), am_Ok am_ji (d + 1) m_M_isLike 30 [some (.ref x0), some (.int x1), y2, y3, y4, y5] [] w (k30 x0 x1 w)) (hk40 : ∀ (x0 : Nat) (x1 : Int32) (x2 : Int32) (y3 y4 y5 : Option Value) (w : am_W), am_Ok am_ji (d + 1) m_M_isLike 40 [some (.ref x0), some (.int x1), some (.int x2), y3, y4, y5] [] w (k40 x0 x1 x2 w)) : ∀ (n : Nat) (x0 : Nat) (x1 : Int32) (x2 : Int32) (x3 : Int32) (x4 : Int32) (x5 : Int32) (w : am_W), am_Ok am_ji (d + 1) m_M_isLike 92 [some (.ref x0), some (.int x1), some (.int x2), some (.int x3), some (.int x4), some (.int x5)] [] w (f_M_isLike_p92 k30 k40 n x0 x1 x2 x3 x4 x5 w) := by
  intro n
  induction n with
  | zero => intros; exact ok_none
  | succ n ih =>
    intro x0 x1 x2 x3 x4 x5 w
    unfold f_M_isLike_p92
    refine ok_seg (L := [((.iload 5), 2), ((.iconst 5), 1)]) (pc' := 95) (ls' := [some (.ref x0), some (.int x1), some (.int x2), some (.int x3), some (.int x4), some (.int x5)]) (st' := [.int 5, .int x5]) (w' := w) (by decide +kernel) rfl ?_
    refine ok_br (P := 5 ≤ x5) (off := 23) (t := 118) (by decide +kernel : decode m_M_isLike.2.1 95 = .ok ((.if_icmp .ge 23), 3)) rfl rfl rfl rfl (fun c6 => ?_) (fun c6 => ?_)
    · skip
      refine ok_seg (L := [((.aload_n 0), 1)]) (pc' := 119) (ls' := [some (.ref x0), some (.int x1), some (.int x2), some (.int x3), some (.int x4), some (.int x5)]) (st' := [.ref x0]) (w' := w) (by decide +kernel) rfl ?_
      refine ok_gr (by decide +kernel : decode m_M_isLike.2.1 119 = .ok ((.getfield 115), 3)) rfl (by decide) (fun v7 h8 => ?_)
      refine ok_seg (L := [((.iload_n 3), 1), ((.iload 4), 2)]) (pc' := 125) (ls' := [some (.ref x0), some (.int x1), some (.int x2), some (.int x3), some (.int x4), some (.int x5)]) (st' := [.int x4, .int x3, .ref v7]) (w' := w) (by decide +kernel) rfl ?_
      refine ok_si (by decide +kernel : decode m_M_isLike.2.1 125 = .ok (.iastore, 1)) (fun w9 h10 => ?_)
      exact o_M_isLike_p126 hk30 hk40 x0 x1 x2 x3 x4 (some (.int x5)) w9
    · skip
      refine ok_seg (L := [((.aload_n 0), 1)]) (pc' := 99) (ls' := [some (.ref x0), some (.int x1), some (.int x2), some (.int x3), some (.int x4), some (.int x5)]) (st' := [.ref x0]) (w' := w) (by decide +kernel) rfl ?_
      refine ok_gr (by decide +kernel : decode m_M_isLike.2.1 99 = .ok ((.getfield 115), 3)) rfl (by decide) (fun v11 h12 => ?_)
      refine ok_seg (L := [((.iload 5), 2)]) (pc' := 104) (ls' := [some (.ref x0), some (.int x1), some (.int x2), some (.int x3), some (.int x4), some (.int x5)]) (st' := [.int x5, .ref v11]) (w' := w) (by decide +kernel) rfl ?_
      refine ok_ai (by decide +kernel : decode m_M_isLike.2.1 104 = .ok (.iaload, 1)) (fun v13 h14 => ?_)
      refine ok_seg (L := [((.iload 4), 2)]) (pc' := 107) (ls' := [some (.ref x0), some (.int x1), some (.int x2), some (.int x3), some (.int x4), some (.int x5)]) (st' := [.int x4, .int v13]) (w' := w) (by decide +kernel) rfl ?_
      refine ok_br (P := ¬ v13 = x4) (off := 5) (t := 112) (by decide +kernel : decode m_M_isLike.2.1 107 = .ok ((.if_icmp .ne 5), 3)) rfl rfl rfl rfl (fun c15 => ?_) (fun c15 => ?_)
      · skip
        refine ok_seg (L := [((.iinc 5 1), 3)]) (pc' := 115) (ls' := [some (.ref x0), some (.int x1), some (.int x2), some (.int x3), some (.int x4), some (.int (x5 + 1))]) (st' := []) (w' := w) (by decide +kernel) rfl ?_
        refine ok_goto (t := 92) (by decide +kernel : decode m_M_isLike.2.1 115 = .ok ((.goto (-23)), 3)) rfl ?_
        exact ih x0 x1 x2 x3 x4 (x5 + 1) w
      · skip
        refine ok_seg (L := [((.iconst 0), 1)]) (pc' := 111) (ls' := [some (.ref x0), some (.int x1), some (.int x2), some (.int x3), some (.int x4), some (.int x5)]) (st' := [.int 0]) (w' := w) (by decide +kernel) rfl ?_
        exact ok_ret (v := 0) (by decide +kernel : decode m_M_isLike.2.1 111 = .ok (.ireturn, 1)) rfl
theorem o_M_isLike_p40 {d : Nat} {k30 : Nat → Int32 → am_W → Option (am_W × Int32)} (hk30 : ∀ (x0 : Nat) (x1 : Int32) (y2 y3 y4 y5 : Option Value) (w : am_W), am_Ok am_ji (d + 1) m_M_isLike 30 [some (.ref x0), some (.int x1), y2, y3, y4, y5] [] w (k30 x0 x1 w)) : ∀ (n : Nat) (x0 : Nat) (x1 : Int32) (x2 : Int32) (y3 y4 y5 : Option Value) (w : am_W), am_Ok am_ji (d + 1) m_M_isLike 40 [some (.ref x0), some (.int x1), some (.int x2), y3, y4, y5] [] w (f_M_isLike_p40 k30 n x0 x1 x2 w) := by
  intro n
  induction n with
  | zero => intros; exact ok_none
  | succ n ih =>
    intro x0 x1 x2 y3 y4 y5 w
    unfold f_M_isLike_p40
    refine ok_seg (L := [((.iload_n 2), 1), ((.aload_n 0), 1)]) (pc' := 42) (ls' := [some (.ref x0), some (.int x1), some (.int x2), y3, y4, y5]) (st' := [.ref x0, .int x2]) (w' := w) (by decide +kernel) rfl ?_
    refine ok_call0 (inj' := am_ji) (by decide +kernel : decode m_M_isLike.2.1 42 = .ok ((.invokevirtual 167), 3)) rfl (fun q hq => am_iv0 (am_self_eq hq).1 rfl rfl rfl) (o_M_broad (d + 0) (x0) w) (fun _ _ => rfl) (fun r16 h17 => ?_)
    refine ok_br (P := r16.2 ≤ x2) (off := 100) (t := 145) (by decide +kernel : decode m_M_isLike.2.1 45 = .ok ((.if_icmp .ge 100), 3)) rfl rfl rfl rfl (fun c18 => ?_) (fun c18 => ?_)
    · skip
      refine ok_seg (L := [((.iinc 1 1), 3)]) (pc' := 148) (ls' := [some (.ref x0), some (.int (x1 + 1)), some (.int x2), y3, y4, y5]) (st' := []) (w' := r16.1) (by decide +kernel) rfl ?_
      refine ok_goto (t := 30) (by decide +kernel : decode m_M_isLike.2.1 148 = .ok ((.goto (-118)), 3)) rfl ?_
      exact hk30 x0 (x1 + 1) (some (.int x2)) y3 y4 y5 r16.1
    · skip
      refine ok_seg (L := [((.aload_n 0), 1)]) (pc' := 49) (ls' := [some (.ref x0), some (.int x1), some (.int x2), y3, y4, y5]) (st' := [.ref x0]) (w' := r16.1) (by decide +kernel) rfl ?_
      refine ok_gr (by decide +kernel : decode m_M_isLike.2.1 49 = .ok ((.getfield 64), 3)) rfl (by decide) (fun v19 h20 => ?_)
      refine ok_seg (L := [((.iload_n 1), 1), ((.iload_n 2), 1)]) (pc' := 54) (ls' := [some (.ref x0), some (.int x1), some (.int x2), y3, y4, y5]) (st' := [.int x2, .int x1, .ref v19]) (w' := r16.1) (by decide +kernel) rfl ?_
      refine ok_call0 (inj' := am_ji) (by decide +kernel : decode m_M_isLike.2.1 54 = .ok ((.invokestatic 173), 3)) rfl (fun _ _ => rfl) (o_M_colourAt (d + 0) (v19) (x1) (x2) r16.1) (fun _ _ => rfl) (fun r21 h22 => ?_)
      refine ok_seg (L := [((.istore_n 3), 1), ((.aload_n 0), 1)]) (pc' := 59) (ls' := [some (.ref x0), some (.int x1), some (.int x2), some (.int r21.2), y4, y5]) (st' := [.ref x0]) (w' := r21.1) (by decide +kernel) rfl ?_
      refine ok_gr (by decide +kernel : decode m_M_isLike.2.1 59 = .ok ((.getfield 64), 3)) rfl (by decide) (fun v23 h24 => ?_)
      refine ok_seg (L := [((.aload_n 0), 1)]) (pc' := 63) (ls' := [some (.ref x0), some (.int x1), some (.int x2), some (.int r21.2), y4, y5]) (st' := [.ref x0, .ref v23]) (w' := r21.1) (by decide +kernel) rfl ?_
      refine ok_gr (by decide +kernel : decode m_M_isLike.2.1 63 = .ok ((.getfield 109), 3)) rfl (by decide) (fun v25 h26 => ?_)
      refine ok_seg (L := [((.iload_n 1), 1)]) (pc' := 67) (ls' := [some (.ref x0), some (.int x1), some (.int x2), some (.int r21.2), y4, y5]) (st' := [.int x1, .ref v25, .ref v23]) (w' := r21.1) (by decide +kernel) rfl ?_
      refine ok_ai (by decide +kernel : decode m_M_isLike.2.1 67 = .ok (.iaload, 1)) (fun v27 h28 => ?_)
      refine ok_seg (L := [((.aload_n 0), 1)]) (pc' := 69) (ls' := [some (.ref x0), some (.int x1), some (.int x2), some (.int r21.2), y4, y5]) (st' := [.ref x0, .int v27, .ref v23]) (w' := r21.1) (by decide +kernel) rfl ?_
      refine ok_gr (by decide +kernel : decode m_M_isLike.2.1 69 = .ok ((.getfield 112), 3)) rfl (by decide) (fun v29 h30 => ?_)
      refine ok_seg (L := [((.iload_n 2), 1)]) (pc' := 73) (ls' := [some (.ref x0), some (.int x1), some (.int x2), some (.int r21.2), y4, y5]) (st' := [.int x2, .ref v29, .int v27, .ref v23]) (w' := r21.1) (by decide +kernel) rfl ?_
      refine ok_ai (by decide +kernel : decode m_M_isLike.2.1 73 = .ok (.iaload, 1)) (fun v31 h32 => ?_)
      refine ok_call0 (inj' := am_ji) (by decide +kernel : decode m_M_isLike.2.1 74 = .ok ((.invokestatic 173), 3)) rfl (fun _ _ => rfl) (o_M_colourAt (d + 0) (v23) (v27) (v31) r21.1) (fun _ _ => rfl) (fun r33 h34 => ?_)
      refine ok_seg (L := [((.istore 4), 2), ((.aload_n 0), 1)]) (pc' := 80) (ls' := [some (.ref x0), some (.int x1), some (.int x2), some (.int r21.2), some (.int r33.2), y5]) (st' := [.ref x0]) (w' := r33.1) (by decide +kernel) rfl ?_
      refine ok_gr (by decide +kernel : decode m_M_isLike.2.1 80 = .ok ((.getfield 115), 3)) rfl (by decide) (fun v35 h36 => ?_)
      refine ok_seg (L := [((.iload_n 3), 1)]) (pc' := 84) (ls' := [some (.ref x0), some (.int x1), some (.int x2), some (.int r21.2), some (.int r33.2), y5]) (st' := [.int r21.2, .ref v35]) (w' := r33.1) (by decide +kernel) rfl ?_
      refine ok_ai (by decide +kernel : decode m_M_isLike.2.1 84 = .ok (.iaload, 1)) (fun v37 h38 => ?_)
      refine ok_seg (L := [((.iconst (-1)), 1)]) (pc' := 86) (ls' := [some (.ref x0), some (.int x1), some (.int x2), some (.int r21.2), some (.int r33.2), y5]) (st' := [.int (-1), .int v37]) (w' := r33.1) (by decide +kernel) rfl ?_
      refine ok_br (P := ¬ v37 = (-1)) (off := 40) (t := 126) (by decide +kernel : decode m_M_isLike.2.1 86 = .ok ((.if_icmp .ne 40), 3)) rfl rfl rfl rfl (fun c39 => ?_) (fun c39 => ?_)
      · skip
        exact o_M_isLike_p126 hk30 ih x0 x1 x2 r21.2 r33.2 y5 r33.1
      · skip
        refine ok_seg (L := [((.iconst 0), 1), ((.istore 5), 2)]) (pc' := 92) (ls' := [some (.ref x0), some (.int x1), some (.int x2), some (.int r21.2), some (.int r33.2), some (.int 0)]) (st' := []) (w' := r33.1) (by decide +kernel) rfl ?_
        exact o_M_isLike_p92 hk30 ih am_N x0 x1 x2 r21.2 r33.2 0 r33.1
theorem o_M_isLike_p30 {d : Nat} : ∀ (n : Nat) (x0 : Nat) (x1 : Int32) (y2 y3 y4 y5 : Option Value) (w : am_W), am_Ok am_ji (d + 1) m_M_isLike 30 [some (.ref x0), some (.int x1), y2, y3, y4, y5] [] w (f_M_isLike_p30 n x0 x1 w) := by
  intro n
  induction n with
  | zero => intros; exact ok_none
  | succ n ih =>
    intro x0 x1 y2 y3 y4 y5 w
    unfold f_M_isLike_p30
    refine ok_seg (L := [((.iload_n 1), 1), ((.aload_n 0), 1)]) (pc' := 32) (ls' := [some (.ref x0), some (.int x1), y2, y3, y4, y5]) (st' := [.ref x0, .int x1]) (w' := w) (by decide +kernel) rfl ?_
    refine ok_call0 (inj' := am_ji) (by decide +kernel : decode m_M_isLike.2.1 32 = .ok ((.invokevirtual 163), 3)) rfl (fun q hq => am_iv0 (am_self_eq hq).1 rfl rfl rfl) (o_M_high (d + 0) (x0) w) (fun _ _ => rfl) (fun r40 h41 => ?_)
    refine ok_br (P := r40.2 ≤ x1) (off := 116) (t := 151) (by decide +kernel : decode m_M_isLike.2.1 35 = .ok ((.if_icmp .ge 116), 3)) rfl rfl rfl rfl (fun c42 => ?_) (fun c42 => ?_)
    · skip
      refine ok_seg (L := [((.iconst 1), 1)]) (pc' := 152) (ls' := [some (.ref x0), some (.int x1), y2, y3, y4, y5]) (st' := [.int 1]) (w' := r40.1) (by decide +kernel) rfl ?_
      exact ok_ret (v := 1) (by decide +kernel : decode m_M_isLike.2.1 152 = .ok (.ireturn, 1)) rfl
    · skip
      refine ok_seg (L := [((.iconst 0), 1), ((.istore_n 2), 1)]) (pc' := 40) (ls' := [some (.ref x0), some (.int x1), some (.int 0), y3, y4, y5]) (st' := []) (w' := r40.1) (by decide +kernel) rfl ?_
      exact o_M_isLike_p40 ih am_N x0 x1 0 y3 y4 y5 r40.1
theorem o_M_isLike_p21 {d : Nat} {k2 : Nat → Int32 → am_W → Option (am_W × Int32)} (hk2 : ∀ (x0 : Nat) (x1 : Int32) (y2 y3 y4 y5 : Option Value) (w : am_W), am_Ok am_ji (d + 1) m_M_isLike 2 [some (.ref x0), some (.int x1), y2, y3, y4, y5] [] w (k2 x0 x1 w)) (x0 : Nat) (x1 : Int32) (s0 : Nat) (s1 : Int32) (s2 : Int32) (y2 y3 y4 y5 : Option Value) (w : am_W) : am_Ok am_ji (d + 1) m_M_isLike 21 [some (.ref x0), some (.int x1), y2, y3, y4, y5] [.int s2, .int s1, .ref s0] w (f_M_isLike_p21 k2 x0 x1 s0 s1 s2 w) := by
  unfold f_M_isLike_p21
  refine ok_si (by decide +kernel : decode m_M_isLike.2.1 21 = .ok (.iastore, 1)) (fun w43 h44 => ?_)
  refine ok_seg (L := [((.iinc 1 1), 3)]) (pc' := 25) (ls' := [some (.ref x0), some (.int (x1 + 1)), y2, y3, y4, y5]) (st' := []) (w' := w43) (by decide +kernel) rfl ?_
  refine ok_goto (t := 2) (by decide +kernel : decode m_M_isLike.2.1 25 = .ok ((.goto (-23)), 3)) rfl ?_
  exact hk2 x0 (x1 + 1) y2 y3 y4 y5 w43
theorem o_M_isLike_p2 {d : Nat} : ∀ (n : Nat) (x0 : Nat) (x1 : Int32) (y2 y3 y4 y5 : Option Value) (w : am_W), am_Ok am_ji (d + 1) m_M_isLike 2 [some (.ref x0), some (.int x1), y2, y3, y4, y5] [] w (f_M_isLike_p2 n x0 x1 w) := by
  intro n
  induction n with
  | zero => intros; exact ok_none
  | succ n ih =>
    intro x0 x1 y2 y3 y4 y5 w
    unfold f_M_isLike_p2
    refine ok_seg (L := [((.iload_n 1), 1), ((.iconst 5), 1)]) (pc' := 4) (ls' := [some (.ref x0), some (.int x1), y2, y3, y4, y5]) (st' := [.int 5, .int x1]) (w' := w) (by decide +kernel) rfl ?_
    refine ok_br (P := 5 ≤ x1) (off := 24) (t := 28) (by decide +kernel : decode m_M_isLike.2.1 4 = .ok ((.if_icmp .ge 24), 3)) rfl rfl rfl rfl (fun c45 => ?_) (fun c45 => ?_)
    · skip
      refine ok_seg (L := [((.iconst 0), 1), ((.istore_n 1), 1)]) (pc' := 30) (ls' := [some (.ref x0), some (.int 0), y2, y3, y4, y5]) (st' := []) (w' := w) (by decide +kernel) rfl ?_
      exact o_M_isLike_p30 am_N x0 0 y2 y3 y4 y5 w
    · skip
      refine ok_seg (L := [((.aload_n 0), 1)]) (pc' := 8) (ls' := [some (.ref x0), some (.int x1), y2, y3, y4, y5]) (st' := [.ref x0]) (w' := w) (by decide +kernel) rfl ?_
      refine ok_gr (by decide +kernel : decode m_M_isLike.2.1 8 = .ok ((.getfield 115), 3)) rfl (by decide) (fun v46 h47 => ?_)
      refine ok_seg (L := [((.iload_n 1), 1), ((.iload_n 1), 1)]) (pc' := 13) (ls' := [some (.ref x0), some (.int x1), y2, y3, y4, y5]) (st' := [.int x1, .int x1, .ref v46]) (w' := w) (by decide +kernel) rfl ?_
      refine ok_br (P := ¬ x1 = 0) (off := 7) (t := 20) (by decide +kernel : decode m_M_isLike.2.1 13 = .ok ((.ifCond .ne 7), 3)) rfl rfl rfl rfl (fun c48 => ?_) (fun c48 => ?_)
      · skip
        refine ok_seg (L := [((.iconst (-1)), 1)]) (pc' := 21) (ls' := [some (.ref x0), some (.int x1), y2, y3, y4, y5]) (st' := [.int (-1), .int x1, .ref v46]) (w' := w) (by decide +kernel) rfl ?_
        exact o_M_isLike_p21 ih x0 x1 v46 x1 (-1) y2 y3 y4 y5 w
      · skip
        refine ok_seg (L := [((.iconst 0), 1)]) (pc' := 17) (ls' := [some (.ref x0), some (.int x1), y2, y3, y4, y5]) (st' := [.int 0, .int x1, .ref v46]) (w' := w) (by decide +kernel) rfl ?_
        refine ok_goto (t := 21) (by decide +kernel : decode m_M_isLike.2.1 17 = .ok ((.goto 4), 3)) rfl ?_
        exact o_M_isLike_p21 ih x0 x1 v46 x1 0 y2 y3 y4 y5 w
theorem o_M_isLike (d : Nat) (x0 : Nat) (w : am_W) : am_Ok am_ji (d + 1) m_M_isLike 0 (am_en m_M_isLike [.ref x0]) [] w (f_M_isLike x0 w) := by
  show am_Ok _ _ _ 0 [some (.ref x0), none, none, none, none, none] [] w _
  unfold f_M_isLike
  refine ok_self ?_
  unfold e_M_isLike
  refine ok_seg (L := [((.iconst 0), 1), ((.istore_n 1), 1)]) (pc' := 2) (ls' := [some (.ref x0), some (.int 0), none, none, none, none]) (st' := []) (w' := w) (by decide +kernel) rfl ?_
  exact o_M_isLike_p2 am_N x0 0 none none none none w
-- m_M_ordersOn
def f_M_ordersOn_p118 (rc : Nat → Int32 → Int32 → Int32 → am_W → Option (am_W × Int32)) (k56 : Nat → Int32 → Int32 → Int32 → Int32 → Int32 → Int32 → am_W → Option (am_W × Int32)) (x0 : Nat) (x1 : Int32) (x2 : Int32) (x3 : Int32) (x4 : Int32) (x5 : Int32) (x6 : Int32) (w : am_W) : Option (am_W × Int32) := (k56 x0 x1 x2 x3 x4 x5 (x6 + 1) w)
def f_M_ordersOn_p99 (rc : Nat → Int32 → Int32 → Int32 → am_W → Option (am_W × Int32)) (k56 : Nat → Int32 → Int32 → Int32 → Int32 → Int32 → Int32 → am_W → Option (am_W × Int32)) (x0 : Nat) (x1 : Int32) (x2 : Int32) (x3 : Int32) (x4 : Int32) (x5 : Int32) (x6 : Int32) (w : am_W) : Option (am_W × Int32) := ((rc (x0) ((x1 + 1)) (x2) ((x3 ||| (1 <<< (x6 &&& 31)))) w).bind fun r1 => (f_M_ordersOn_p118 rc k56 x0 x1 x2 x3 x4 (x5 + r1.2) x6 r1.1))
def f_M_ordersOn_p56 (rc : Nat → Int32 → Int32 → Int32 → am_W → Option (am_W × Int32)) : Nat → Nat → Int32 → Int32 → Int32 → Int32 → Int32 → Int32 → am_W → Option (am_W × Int32)
  | 0, _, _, _, _, _, _, _, _ => none
  | n + 1, x0, x1, x2, x3, x4, x5, x6, w => (if x4 ≤ x6 then (some (w, x5)) else (if ¬ ((x3 >>> (x6 &&& 31)) &&& 1) = 1 then (if x2 = 0 then ((am_gr w x0 7 31).bind fun v6 => ((am_si w v6 x1 x6).bind fun w8 => (f_M_ordersOn_p99 rc (f_M_ordersOn_p56 rc n) x0 x1 x2 x3 x4 x5 x6 w8))) else ((am_gr w x0 7 30).bind fun v10 => ((am_si w v10 x1 x6).bind fun w12 => (f_M_ordersOn_p99 rc (f_M_ordersOn_p56 rc n) x0 x1 x2 x3 x4 x5 x6 w12)))) else (f_M_ordersOn_p118 rc (f_M_ordersOn_p56 rc n) x0 x1 x2 x3 x4 x5 x6 w)))
def f_M_ordersOn_p49 (rc : Nat → Int32 → Int32 → Int32 → am_W → Option (am_W × Int32)) (s0 : Int32) (w : am_W) : Option (am_W × Int32) := (some (w, s0))
def f_M_ordersOn_p15 (rc : Nat → Int32 → Int32 → Int32 → am_W → Option (am_W × Int32)) (x0 : Nat) (x1 : Int32) (x2 : Int32) (x3 : Int32) (s0 : Int32) (w : am_W) : Option (am_W × Int32) := (if ¬ x1 = s0 then (f_M_ordersOn_p56 rc am_N x0 x1 x2 x3 s0 0 0 w) else (if x2 = 0 then ((f_M_isLike (x0) w).bind fun r16 => (if r16.2 = 0 then (f_M_ordersOn_p49 rc 0 r16.1) else (f_M_ordersOn_p49 rc 1 r16.1))) else ((rc (x0) (0) (0) (0) w).bind fun r19 => (f_M_ordersOn_p49 rc r19.2 r19.1))))
def e_M_ordersOn (rc : Nat → Int32 → Int32 → Int32 → am_W → Option (am_W × Int32)) (x0 : Nat) (x1 : Int32) (x2 : Int32) (x3 : Int32) (w : am_W) : Option (am_W × Int32) := (if x2 = 0 then ((f_M_broad (x0) w).bind fun r22 => (f_M_ordersOn_p15 rc x0 x1 x2 x3 r22.2 r22.1)) else ((f_M_high (x0) w).bind fun r24 => (f_M_ordersOn_p15 rc x0 x1 x2 x3 r24.2 r24.1)))
def f_M_ordersOn : Nat → Nat → Int32 → Int32 → Int32 → am_W → Option (am_W × Int32)
  | 0, _, _, _, _, _ => none
  | n + 1, x0, x1, x2, x3, w => am_self w x0 7 (e_M_ordersOn (f_M_ordersOn n) x0 x1 x2 x3 w)
theorem o_M_ordersOn_p118 {d : Nat} {rc : Nat → Int32 → Int32 → Int32 → am_W → Option (am_W × Int32)} (hrc : ∀ (x0 : Nat) (x1 : Int32) (x2 : Int32) (x3 : Int32) (w : am_W), am_Ok am_ji (d + 1) m_M_ordersOn 0 (am_en m_M_ordersOn [.ref x0, .int x1, .int x2, .int x3]) [] w (rc x0 x1 x2 x3 w)) (hrs : ∀ (x0 : Nat) (x1 : Int32) (x2 : Int32) (x3 : Int32) (w : am_W) (r : am_W × Int32), rc x0 x1 x2 x3 w = some r → am_is w x0 7 = true) {k56 : Nat → Int32 → Int32 → Int32 → Int32 → Int32 → Int32 → am_W → Option (am_W × Int32)} (hk56 : ∀ (x0 : Nat) (x1 : Int32) (x2 : Int32) (x3 : Int32) (x4 : Int32) (x5 : Int32) (x6 : Int32) (w : am_W), am_Ok am_ji (d + 2) m_M_ordersOn 56 [some (.ref x0), some (.int x1), some (.int x2), some (.int x3), some (.int x4), some (.int x5), some (.int x6)] [] w (k56 x0 x1 x2 x3 x4 x5 x6 w)) (x0 : Nat) (x1 : Int32) (x2 : Int32) (x3 : Int32) (x4 : Int32) (x5 : Int32) (x6 : Int32) (w : am_W) : am_Ok am_ji (d + 2) m_M_ordersOn 118 [some (.ref x0), some (.int x1), some (.int x2), some (.int x3), some (.int x4), some (.int x5), some (.int x6)] [] w (f_M_ordersOn_p118 rc k56 x0 x1 x2 x3 x4 x5 x6 w) := by
  unfold f_M_ordersOn_p118
  refine ok_seg (L := [((.iinc 6 1), 3)]) (pc' := 121) (ls' := [some (.ref x0), some (.int x1), some (.int x2), some (.int x3), some (.int x4), some (.int x5), some (.int (x6 + 1))]) (st' := []) (w' := w) (by decide +kernel) rfl ?_
  refine ok_goto (t := 56) (by decide +kernel : decode m_M_ordersOn.2.1 121 = .ok ((.goto (-65)), 3)) rfl ?_
  exact hk56 x0 x1 x2 x3 x4 x5 (x6 + 1) w
theorem o_M_ordersOn_p99 {d : Nat} {rc : Nat → Int32 → Int32 → Int32 → am_W → Option (am_W × Int32)} (hrc : ∀ (x0 : Nat) (x1 : Int32) (x2 : Int32) (x3 : Int32) (w : am_W), am_Ok am_ji (d + 1) m_M_ordersOn 0 (am_en m_M_ordersOn [.ref x0, .int x1, .int x2, .int x3]) [] w (rc x0 x1 x2 x3 w)) (hrs : ∀ (x0 : Nat) (x1 : Int32) (x2 : Int32) (x3 : Int32) (w : am_W) (r : am_W × Int32), rc x0 x1 x2 x3 w = some r → am_is w x0 7 = true) {k56 : Nat → Int32 → Int32 → Int32 → Int32 → Int32 → Int32 → am_W → Option (am_W × Int32)} (hk56 : ∀ (x0 : Nat) (x1 : Int32) (x2 : Int32) (x3 : Int32) (x4 : Int32) (x5 : Int32) (x6 : Int32) (w : am_W), am_Ok am_ji (d + 2) m_M_ordersOn 56 [some (.ref x0), some (.int x1), some (.int x2), some (.int x3), some (.int x4), some (.int x5), some (.int x6)] [] w (k56 x0 x1 x2 x3 x4 x5 x6 w)) (x0 : Nat) (x1 : Int32) (x2 : Int32) (x3 : Int32) (x4 : Int32) (x5 : Int32) (x6 : Int32) (w : am_W) : am_Ok am_ji (d + 2) m_M_ordersOn 99 [some (.ref x0), some (.int x1), some (.int x2), some (.int x3), some (.int x4), some (.int x5), some (.int x6)] [] w (f_M_ordersOn_p99 rc k56 x0 x1 x2 x3 x4 x5 x6 w) := by
  unfold f_M_ordersOn_p99
  refine ok_seg (L := [((.iload 5), 2), ((.aload_n 0), 1), ((.iload_n 1), 1), ((.iconst 1), 1), (.iadd, 1), ((.iload_n 2), 1), ((.iload_n 3), 1), ((.iconst 1), 1), ((.iload 6), 2), (.ishl, 1), (.ior, 1)]) (pc' := 112) (ls' := [some (.ref x0), some (.int x1), some (.int x2), some (.int x3), some (.int x4), some (.int x5), some (.int x6)]) (st' := [.int (x3 ||| (1 <<< (x6 &&& 31))), .int x2, .int (x1 + 1), .ref x0, .int x5]) (w' := w) (by decide +kernel) rfl ?_
  refine ok_call0 (inj' := am_ji) (by decide +kernel : decode m_M_ordersOn.2.1 112 = .ok ((.invokevirtual 239), 3)) rfl (fun q hq => am_iv0 (hrs _ _ _ _ _ q hq) rfl rfl rfl) (hrc (x0) ((x1 + 1)) (x2) ((x3 ||| (1 <<< (x6 &&& 31)))) w) (fun _ _ => rfl) (fun r1 h2 => ?_)
  refine ok_seg (L := [(.iadd, 1), ((.istore 5), 2)]) (pc' := 118) (ls' := [some (.ref x0), some (.int x1), some (.int x2), some (.int x3), some (.int x4), some (.int (x5 + r1.2)), some (.int x6)]) (st' := []) (w' := r1.1) (by decide +kernel) rfl ?_
  exact o_M_ordersOn_p118 hrc hrs hk56 x0 x1 x2 x3 x4 (x5 + r1.2) x6 r1.1
theorem o_M_ordersOn_p56 {d : Nat} {rc : Nat → Int32 → Int32 → Int32 → am_W → Option (am_W × Int32)} (hrc : ∀ (x0 : Nat) (x1 : Int32) (x2 : Int32) (x3 : Int32) (w : am_W), am_Ok am_ji (d + 1) m_M_ordersOn 0 (am_en m_M_ordersOn [.ref x0, .int x1, .int x2, .int x3]) [] w (rc x0 x1 x2 x3 w)) (hrs : ∀ (x0 : Nat) (x1 : Int32) (x2 : Int32) (x3 : Int32) (w : am_W) (r : am_W × Int32), rc x0 x1 x2 x3 w = some r → am_is w x0 7 = true) : ∀ (n : Nat) (x0 : Nat) (x1 : Int32) (x2 : Int32) (x3 : Int32) (x4 : Int32) (x5 : Int32) (x6 : Int32) (w : am_W), am_Ok am_ji (d + 2) m_M_ordersOn 56 [some (.ref x0), some (.int x1), some (.int x2), some (.int x3), some (.int x4), some (.int x5), some (.int x6)] [] w (f_M_ordersOn_p56 rc n x0 x1 x2 x3 x4 x5 x6 w) := by
  intro n
  induction n with
  | zero => intros; exact ok_none
  | succ n ih =>
    intro x0 x1 x2 x3 x4 x5 x6 w
    unfold f_M_ordersOn_p56
    refine ok_seg (L := [((.iload 6), 2), ((.iload 4), 2)]) (pc' := 60) (ls' := [some (.ref x0), some (.int x1), some (.int x2), some (.int x3), some (.int x4), some (.int x5), some (.int x6)]) (st' := [.int x4, .int x6]) (w' := w) (by decide +kernel) rfl ?_
    refine ok_br (P := x4 ≤ x6) (off := 64) (t := 124) (by decide +kernel : decode m_M_ordersOn.2.1 60 = .ok ((.if_icmp .ge 64), 3)) rfl rfl rfl rfl (fun c3 => ?_) (fun c3 => ?_)
    · skip
      refine ok_seg (L := [((.iload 5), 2)]) (pc' := 126) (ls' := [some (.ref x0), some (.int x1), some (.int x2), some (.int x3), some (.int x4), some (.int x5), some (.int x6)]) (st' := [.int x5]) (w' := w) (by decide +kernel) rfl ?_
      exact ok_ret (v := x5) (by decide +kernel : decode m_M_ordersOn.2.1 126 = .ok (.ireturn, 1)) rfl
    · skip
      refine ok_seg (L := [((.iload_n 3), 1), ((.iload 6), 2), (.ishr, 1), ((.iconst 1), 1), (.iand, 1), ((.iconst 1), 1)]) (pc' := 70) (ls' := [some (.ref x0), some (.int x1), some (.int x2), some (.int x3), some (.int x4), some (.int x5), some (.int x6)]) (st' := [.int 1, .int ((x3 >>> (x6 &&& 31)) &&& 1)]) (w' := w) (by decide +kernel) rfl ?_
      refine ok_br (P := ¬ ((x3 >>> (x6 &&& 31)) &&& 1) = 1) (off := 6) (t := 76) (by decide +kernel : decode m_M_ordersOn.2.1 70 = .ok ((.if_icmp .ne 6), 3)) rfl rfl rfl rfl (fun c4 => ?_) (fun c4 => ?_)
      · skip
        refine ok_seg (L := [((.iload_n 2), 1)]) (pc' := 77) (ls' := [some (.ref x0), some (.int x1), some (.int x2), some (.int x3), some (.int x4), some (.int x5), some (.int x6)]) (st' := [.int x2]) (w' := w) (by decide +kernel) rfl ?_
        refine ok_br (P := x2 = 0) (off := 14) (t := 91) (by decide +kernel : decode m_M_ordersOn.2.1 77 = .ok ((.ifCond .eq 14), 3)) rfl rfl rfl rfl (fun c5 => ?_) (fun c5 => ?_)
        · skip
          refine ok_seg (L := [((.aload_n 0), 1)]) (pc' := 92) (ls' := [some (.ref x0), some (.int x1), some (.int x2), some (.int x3), some (.int x4), some (.int x5), some (.int x6)]) (st' := [.ref x0]) (w' := w) (by decide +kernel) rfl ?_
          refine ok_gr (by decide +kernel : decode m_M_ordersOn.2.1 92 = .ok ((.getfield 112), 3)) rfl (by decide) (fun v6 h7 => ?_)
          refine ok_seg (L := [((.iload_n 1), 1), ((.iload 6), 2)]) (pc' := 98) (ls' := [some (.ref x0), some (.int x1), some (.int x2), some (.int x3), some (.int x4), some (.int x5), some (.int x6)]) (st' := [.int x6, .int x1, .ref v6]) (w' := w) (by decide +kernel) rfl ?_
          refine ok_si (by decide +kernel : decode m_M_ordersOn.2.1 98 = .ok (.iastore, 1)) (fun w8 h9 => ?_)
          exact o_M_ordersOn_p99 hrc hrs ih x0 x1 x2 x3 x4 x5 x6 w8
        · skip
          refine ok_seg (L := [((.aload_n 0), 1)]) (pc' := 81) (ls' := [some (.ref x0), some (.int x1), some (.int x2), some (.int x3), some (.int x4), some (.int x5), some (.int x6)]) (st' := [.ref x0]) (w' := w) (by decide +kernel) rfl ?_
          refine ok_gr (by decide +kernel : decode m_M_ordersOn.2.1 81 = .ok ((.getfield 109), 3)) rfl (by decide) (fun v10 h11 => ?_)
          refine ok_seg (L := [((.iload_n 1), 1), ((.iload 6), 2)]) (pc' := 87) (ls' := [some (.ref x0), some (.int x1), some (.int x2), some (.int x3), some (.int x4), some (.int x5), some (.int x6)]) (st' := [.int x6, .int x1, .ref v10]) (w' := w) (by decide +kernel) rfl ?_
          refine ok_si (by decide +kernel : decode m_M_ordersOn.2.1 87 = .ok (.iastore, 1)) (fun w12 h13 => ?_)
          refine ok_goto (t := 99) (by decide +kernel : decode m_M_ordersOn.2.1 88 = .ok ((.goto 11), 3)) rfl ?_
          exact o_M_ordersOn_p99 hrc hrs ih x0 x1 x2 x3 x4 x5 x6 w12
      · skip
        refine ok_goto (t := 118) (by decide +kernel : decode m_M_ordersOn.2.1 73 = .ok ((.goto 45), 3)) rfl ?_
        exact o_M_ordersOn_p118 hrc hrs ih x0 x1 x2 x3 x4 x5 x6 w
theorem o_M_ordersOn_p49 {d : Nat} {rc : Nat → Int32 → Int32 → Int32 → am_W → Option (am_W × Int32)} (hrc : ∀ (x0 : Nat) (x1 : Int32) (x2 : Int32) (x3 : Int32) (w : am_W), am_Ok am_ji (d + 1) m_M_ordersOn 0 (am_en m_M_ordersOn [.ref x0, .int x1, .int x2, .int x3]) [] w (rc x0 x1 x2 x3 w)) (hrs : ∀ (x0 : Nat) (x1 : Int32) (x2 : Int32) (x3 : Int32) (w : am_W) (r : am_W × Int32), rc x0 x1 x2 x3 w = some r → am_is w x0 7 = true) (s0 : Int32) (y0 y1 y2 y3 y4 y5 y6 : Option Value) (w : am_W) : am_Ok am_ji (d + 2) m_M_ordersOn 49 [y0, y1, y2, y3, y4, y5, y6] [.int s0] w (f_M_ordersOn_p49 rc s0 w) := by
  unfold f_M_ordersOn_p49
  exact ok_ret (v := s0) (by decide +kernel : decode m_M_ordersOn.2.1 49 = .ok (.ireturn, 1)) rfl
theorem o_M_ordersOn_p15 {d : Nat} {rc : Nat → Int32 → Int32 → Int32 → am_W → Option (am_W × Int32)} (hrc : ∀ (x0 : Nat) (x1 : Int32) (x2 : Int32) (x3 : Int32) (w : am_W), am_Ok am_ji (d + 1) m_M_ordersOn 0 (am_en m_M_ordersOn [.ref x0, .int x1, .int x2, .int x3]) [] w (rc x0 x1 x2 x3 w)) (hrs : ∀ (x0 : Nat) (x1 : Int32) (x2 : Int32) (x3 : Int32) (w : am_W) (r : am_W × Int32), rc x0 x1 x2 x3 w = some r → am_is w x0 7 = true) (x0 : Nat) (x1 : Int32) (x2 : Int32) (x3 : Int32) (s0 : Int32) (y4 y5 y6 : Option Value) (w : am_W) : am_Ok am_ji (d + 2) m_M_ordersOn 15 [some (.ref x0), some (.int x1), some (.int x2), some (.int x3), y4, y5, y6] [.int s0] w (f_M_ordersOn_p15 rc x0 x1 x2 x3 s0 w) := by
  unfold f_M_ordersOn_p15
  refine ok_seg (L := [((.istore 4), 2), ((.iload_n 1), 1), ((.iload 4), 2)]) (pc' := 20) (ls' := [some (.ref x0), some (.int x1), some (.int x2), some (.int x3), some (.int s0), y5, y6]) (st' := [.int s0, .int x1]) (w' := w) (by decide +kernel) rfl ?_
  refine ok_br (P := ¬ x1 = s0) (off := 30) (t := 50) (by decide +kernel : decode m_M_ordersOn.2.1 20 = .ok ((.if_icmp .ne 30), 3)) rfl rfl rfl rfl (fun c14 => ?_) (fun c14 => ?_)
  · skip
    refine ok_seg (L := [((.iconst 0), 1), ((.istore 5), 2), ((.iconst 0), 1), ((.istore 6), 2)]) (pc' := 56) (ls' := [some (.ref x0), some (.int x1), some (.int x2), some (.int x3), some (.int s0), some (.int 0), some (.int 0)]) (st' := []) (w' := w) (by decide +kernel) rfl ?_
    exact o_M_ordersOn_p56 hrc hrs am_N x0 x1 x2 x3 s0 0 0 w
  · skip
    refine ok_seg (L := [((.iload_n 2), 1)]) (pc' := 24) (ls' := [some (.ref x0), some (.int x1), some (.int x2), some (.int x3), some (.int s0), y5, y6]) (st' := [.int x2]) (w' := w) (by decide +kernel) rfl ?_
    refine ok_br (P := x2 = 0) (off := 13) (t := 37) (by decide +kernel : decode m_M_ordersOn.2.1 24 = .ok ((.ifCond .eq 13), 3)) rfl rfl rfl rfl (fun c15 => ?_) (fun c15 => ?_)
    · skip
      refine ok_seg (L := [((.aload_n 0), 1)]) (pc' := 38) (ls' := [some (.ref x0), some (.int x1), some (.int x2), some (.int x3), some (.int s0), y5, y6]) (st' := [.ref x0]) (w' := w) (by decide +kernel) rfl ?_
      refine ok_call0 (inj' := am_ji) (by decide +kernel : decode m_M_ordersOn.2.1 38 = .ok ((.invokevirtual 243), 3)) rfl (fun q hq => am_iv0 (am_self_eq hq).1 rfl rfl rfl) (o_M_isLike (d + 0) (x0) w) (fun _ _ => rfl) (fun r16 h17 => ?_)
      refine ok_br (P := r16.2 = 0) (off := 7) (t := 48) (by decide +kernel : decode m_M_ordersOn.2.1 41 = .ok ((.ifCond .eq 7), 3)) rfl rfl rfl rfl (fun c18 => ?_) (fun c18 => ?_)
      · skip
        refine ok_seg (L := [((.iconst 0), 1)]) (pc' := 49) (ls' := [some (.ref x0), some (.int x1), some (.int x2), some (.int x3), some (.int s0), y5, y6]) (st' := [.int 0]) (w' := r16.1) (by decide +kernel) rfl ?_
        exact o_M_ordersOn_p49 hrc hrs 0 (some (.ref x0)) (some (.int x1)) (some (.int x2)) (some (.int x3)) (some (.int s0)) y5 y6 r16.1
      · skip
        refine ok_seg (L := [((.iconst 1), 1)]) (pc' := 45) (ls' := [some (.ref x0), some (.int x1), some (.int x2), some (.int x3), some (.int s0), y5, y6]) (st' := [.int 1]) (w' := r16.1) (by decide +kernel) rfl ?_
        refine ok_goto (t := 49) (by decide +kernel : decode m_M_ordersOn.2.1 45 = .ok ((.goto 4), 3)) rfl ?_
        exact o_M_ordersOn_p49 hrc hrs 1 (some (.ref x0)) (some (.int x1)) (some (.int x2)) (some (.int x3)) (some (.int s0)) y5 y6 r16.1
    · skip
      refine ok_seg (L := [((.aload_n 0), 1), ((.iconst 0), 1), ((.iconst 0), 1), ((.iconst 0), 1)]) (pc' := 31) (ls' := [some (.ref x0), some (.int x1), some (.int x2), some (.int x3), some (.int s0), y5, y6]) (st' := [.int 0, .int 0, .int 0, .ref x0]) (w' := w) (by decide +kernel) rfl ?_
      refine ok_call0 (inj' := am_ji) (by decide +kernel : decode m_M_ordersOn.2.1 31 = .ok ((.invokevirtual 239), 3)) rfl (fun q hq => am_iv0 (hrs _ _ _ _ _ q hq) rfl rfl rfl) (hrc (x0) (0) (0) (0) w) (fun _ _ => rfl) (fun r19 h20 => ?_)
      refine ok_goto (t := 49) (by decide +kernel : decode m_M_ordersOn.2.1 34 = .ok ((.goto 15), 3)) rfl ?_
      exact o_M_ordersOn_p49 hrc hrs r19.2 (some (.ref x0)) (some (.int x1)) (some (.int x2)) (some (.int x3)) (some (.int s0)) y5 y6 r19.1
theorem s_M_ordersOn (n : Nat) (x0 : Nat) (x1 : Int32) (x2 : Int32) (x3 : Int32) (w : am_W) (r : am_W × Int32) (h : f_M_ordersOn n x0 x1 x2 x3 w = some r) : am_is w x0 7 = true := by
  cases n with
  | zero => cases h
  | succ n => exact (am_self_eq h).1
theorem o_M_ordersOn_e {d : Nat} {rc : Nat → Int32 → Int32 → Int32 → am_W → Option (am_W × Int32)} (hrc : ∀ (x0 : Nat) (x1 : Int32) (x2 : Int32) (x3 : Int32) (w : am_W), am_Ok am_ji (d + 1) m_M_ordersOn 0 (am_en m_M_ordersOn [.ref x0, .int x1, .int x2, .int x3]) [] w (rc x0 x1 x2 x3 w)) (hrs : ∀ (x0 : Nat) (x1 : Int32) (x2 : Int32) (x3 : Int32) (w : am_W) (r : am_W × Int32), rc x0 x1 x2 x3 w = some r → am_is w x0 7 = true) (x0 : Nat) (x1 : Int32) (x2 : Int32) (x3 : Int32) (w : am_W) : am_Ok am_ji (d + 2) m_M_ordersOn 0 (am_en m_M_ordersOn [.ref x0, .int x1, .int x2, .int x3]) [] w (e_M_ordersOn rc x0 x1 x2 x3 w) := by
  show am_Ok _ _ _ 0 [some (.ref x0), some (.int x1), some (.int x2), some (.int x3), none, none, none] [] w _
  unfold e_M_ordersOn
  refine ok_seg (L := [((.iload_n 2), 1)]) (pc' := 1) (ls' := [some (.ref x0), some (.int x1), some (.int x2), some (.int x3), none, none, none]) (st' := [.int x2]) (w' := w) (by decide +kernel) rfl ?_
  refine ok_br (P := x2 = 0) (off := 10) (t := 11) (by decide +kernel : decode m_M_ordersOn.2.1 1 = .ok ((.ifCond .eq 10), 3)) rfl rfl rfl rfl (fun c21 => ?_) (fun c21 => ?_)
  · skip
    refine ok_seg (L := [((.aload_n 0), 1)]) (pc' := 12) (ls' := [some (.ref x0), some (.int x1), some (.int x2), some (.int x3), none, none, none]) (st' := [.ref x0]) (w' := w) (by decide +kernel) rfl ?_
    refine ok_call0 (inj' := am_ji) (by decide +kernel : decode m_M_ordersOn.2.1 12 = .ok ((.invokevirtual 167), 3)) rfl (fun q hq => am_iv0 (am_self_eq hq).1 rfl rfl rfl) (o_M_broad (d + 1) (x0) w) (fun _ _ => rfl) (fun r22 h23 => ?_)
    exact o_M_ordersOn_p15 hrc hrs x0 x1 x2 x3 r22.2 none none none r22.1
  · skip
    refine ok_seg (L := [((.aload_n 0), 1)]) (pc' := 5) (ls' := [some (.ref x0), some (.int x1), some (.int x2), some (.int x3), none, none, none]) (st' := [.ref x0]) (w' := w) (by decide +kernel) rfl ?_
    refine ok_call0 (inj' := am_ji) (by decide +kernel : decode m_M_ordersOn.2.1 5 = .ok ((.invokevirtual 163), 3)) rfl (fun q hq => am_iv0 (am_self_eq hq).1 rfl rfl rfl) (o_M_high (d + 1) (x0) w) (fun _ _ => rfl) (fun r24 h25 => ?_)
    refine ok_goto (t := 15) (by decide +kernel : decode m_M_ordersOn.2.1 8 = .ok ((.goto 7), 3)) rfl ?_
    exact o_M_ordersOn_p15 hrc hrs x0 x1 x2 x3 r24.2 none none none r24.1
theorem o_M_ordersOn (n : Nat) : ∀ (d : Nat) (x0 : Nat) (x1 : Int32) (x2 : Int32) (x3 : Int32) (w : am_W), am_Ok am_ji (d + n + 2) m_M_ordersOn 0 (am_en m_M_ordersOn [.ref x0, .int x1, .int x2, .int x3]) [] w (f_M_ordersOn n x0 x1 x2 x3 w) := by
  induction n with
  | zero => intros; exact ok_none
  | succ n ih =>
    intro d x0 x1 x2 x3 w
    unfold f_M_ordersOn
    refine ok_self ?_
    exact o_M_ordersOn_e (d := d + (n + 1)) (ih d) (s_M_ordersOn n) x0 x1 x2 x3 w
-- m_M_likes
def f_M_likes_p39 (s0 : Int32) (w : am_W) : Option (am_W × Int32) := (some (w, s0))
def f_M_likes_p28 (w : am_W) : Option (am_W × Int32) := (f_M_likes_p39 (-1) w)
def e_M_likes (x0 : Nat) (w : am_W) : Option (am_W × Int32) := ((am_pv w x0 7 0 (.int 0)).bind fun w1 => ((f_M_high (x0) w1).bind fun r3 => (if r3.2 = 0 then (f_M_likes_p28 r3.1) else ((f_M_high (x0) r3.1).bind fun r6 => (if 4 < r6.2 then (f_M_likes_p28 r6.1) else ((f_M_broad (x0) r6.1).bind fun r9 => (if r9.2 ≤ 4 then ((f_M_ordersOn 12 (x0) (0) (1) (0) r9.1).bind fun r12 => (f_M_likes_p39 r12.2 r12.1)) else (f_M_likes_p28 r9.1))))))))
def f_M_likes (x0 : Nat) (w : am_W) : Option (am_W × Int32) := am_self w x0 7 (e_M_likes x0 w)
theorem o_M_likes_p39 {d : Nat} (s0 : Int32) (y0 : Option Value) (w : am_W) : am_Ok am_ji (d + 15) m_M_likes 39 [y0] [.int s0] w (f_M_likes_p39 s0 w) := by
  unfold f_M_likes_p39
  exact ok_ret (v := s0) (by decide +kernel : decode m_M_likes.2.1 39 = .ok (.ireturn, 1)) rfl
theorem o_M_likes_p28 {d : Nat} (y0 : Option Value) (w : am_W) : am_Ok am_ji (d + 15) m_M_likes 28 [y0] [] w (f_M_likes_p28 w) := by
  unfold f_M_likes_p28
  refine ok_seg (L := [((.iconst (-1)), 1)]) (pc' := 29) (ls' := [y0]) (st' := [.int (-1)]) (w' := w) (by decide +kernel) rfl ?_
  refine ok_goto (t := 39) (by decide +kernel : decode m_M_likes.2.1 29 = .ok ((.goto 10), 3)) rfl ?_
  exact o_M_likes_p39 (-1) y0 w
theorem o_M_likes (d : Nat) (x0 : Nat) (w : am_W) : am_Ok am_ji (d + 15) m_M_likes 0 (am_en m_M_likes [.ref x0]) [] w (f_M_likes x0 w) := by
  show am_Ok _ _ _ 0 [some (.ref x0)] [] w _
  unfold f_M_likes
  refine ok_self ?_
  unfold e_M_likes
  refine ok_seg (L := [((.aload_n 0), 1), ((.iconst 0), 1)]) (pc' := 2) (ls' := [some (.ref x0)]) (st' := [.int 0, .ref x0]) (w' := w) (by decide +kernel) rfl ?_
  refine ok_pi (by decide +kernel : decode m_M_likes.2.1 2 = .ok ((.putfield 1), 3)) rfl (fun w1 h2 => ?_)
  refine ok_seg (L := [((.aload_n 0), 1)]) (pc' := 6) (ls' := [some (.ref x0)]) (st' := [.ref x0]) (w' := w1) (by decide +kernel) rfl ?_
  refine ok_call0 (inj' := am_ji) (by decide +kernel : decode m_M_likes.2.1 6 = .ok ((.invokevirtual 163), 3)) rfl (fun q hq => am_iv0 (am_self_eq hq).1 rfl rfl rfl) (o_M_high (d + 14) (x0) w1) (fun _ _ => rfl) (fun r3 h4 => ?_)
  refine ok_br (P := r3.2 = 0) (off := 19) (t := 28) (by decide +kernel : decode m_M_likes.2.1 9 = .ok ((.ifCond .eq 19), 3)) rfl rfl rfl rfl (fun c5 => ?_) (fun c5 => ?_)
  · skip
    exact o_M_likes_p28 (some (.ref x0)) r3.1
  · skip
    refine ok_seg (L := [((.aload_n 0), 1)]) (pc' := 13) (ls' := [some (.ref x0)]) (st' := [.ref x0]) (w' := r3.1) (by decide +kernel) rfl ?_
    refine ok_call0 (inj' := am_ji) (by decide +kernel : decode m_M_likes.2.1 13 = .ok ((.invokevirtual 163), 3)) rfl (fun q hq => am_iv0 (am_self_eq hq).1 rfl rfl rfl) (o_M_high (d + 14) (x0) r3.1) (fun _ _ => rfl) (fun r6 h7 => ?_)
    refine ok_seg (L := [((.iconst 4), 1)]) (pc' := 17) (ls' := [some (.ref x0)]) (st' := [.int 4, .int r6.2]) (w' := r6.1) (by decide +kernel) rfl ?_
    refine ok_br (P := 4 < r6.2) (off := 11) (t := 28) (by decide +kernel : decode m_M_likes.2.1 17 = .ok ((.if_icmp .gt 11), 3)) rfl rfl rfl rfl (fun c8 => ?_) (fun c8 => ?_)
    · skip
      exact o_M_likes_p28 (some (.ref x0)) r6.1
    · skip
      refine ok_seg (L := [((.aload_n 0), 1)]) (pc' := 21) (ls' := [some (.ref x0)]) (st' := [.ref x0]) (w' := r6.1) (by decide +kernel) rfl ?_
      refine ok_call0 (inj' := am_ji) (by decide +kernel : decode m_M_likes.2.1 21 = .ok ((.invokevirtual 167), 3)) rfl (fun q hq => am_iv0 (am_self_eq hq).1 rfl rfl rfl) (o_M_broad (d + 14) (x0) r6.1) (fun _ _ => rfl) (fun r9 h10 => ?_)
      refine ok_seg (L := [((.iconst 4), 1)]) (pc' := 25) (ls' := [some (.ref x0)]) (st' := [.int 4, .int r9.2]) (w' := r9.1) (by decide +kernel) rfl ?_
      refine ok_br (P := r9.2 ≤ 4) (off := 7) (t := 32) (by decide +kernel : decode m_M_likes.2.1 25 = .ok ((.if_icmp .le 7), 3)) rfl rfl rfl rfl (fun c11 => ?_) (fun c11 => ?_)
      · skip
        refine ok_seg (L := [((.aload_n 0), 1), ((.iconst 0), 1), ((.iconst 1), 1), ((.iconst 0), 1)]) (pc' := 36) (ls' := [some (.ref x0)]) (st' := [.int 0, .int 1, .int 0, .ref x0]) (w' := r9.1) (by decide +kernel) rfl ?_
        refine ok_call0 (inj' := am_ji) (by decide +kernel : decode m_M_likes.2.1 36 = .ok ((.invokevirtual 239), 3)) rfl (fun q hq => am_iv0 (s_M_ordersOn _ _ _ _ _ _ q hq) rfl rfl rfl) (o_M_ordersOn 12 (d + 0) (x0) (0) (1) (0) r9.1) (fun _ _ => rfl) (fun r12 h13 => ?_)
        exact o_M_likes_p39 r12.2 (some (.ref x0)) r12.1
      · skip
        exact o_M_likes_p28 (some (.ref x0)) r9.1
