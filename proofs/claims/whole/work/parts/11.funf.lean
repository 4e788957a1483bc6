-- m_C_rows
def f_C_rows_p30 : Nat → Nat → Int32 → Int32 → Int32 → am_W → Option (am_W × Int32)
  | 0, _, _, _, _, _ => none
  | n + 1, x0, x1, x2, x3, w => ((am_gr w x0 0 1).bind fun v1 => ((f_G_wide (v1) w).bind fun r3 => (if r3.2 ≤ x3 then (some (r3.1, 1)) else ((am_gr r3.1 x0 0 1).bind fun v6 => ((am_gr r3.1 x0 0 1).bind fun v8 => ((f_G_cellAt (v8) (x1) (x3) r3.1).bind fun r10 => ((am_gr r10.1 x0 0 1).bind fun v12 => ((f_G_cellAt (v12) (x2) (x3) r10.1).bind fun r14 => ((f_G_exchange (v6) (r10.2) (r14.2) r14.1).bind fun r16 => (f_C_rows_p30 n x0 x1 x2 (x3 + 1) r16.1))))))))))
def e_C_rows (x0 : Nat) (x1 : Int32) (x2 : Int32) (w : am_W) : Option (am_W × Int32) := ((am_gr w x0 0 1).bind fun v18 => ((f_G_high (v18) w).bind fun r20 => ((f_C_isPairBelow (x1) (x2) (r20.2) r20.1).bind fun r22 => (if ¬ r22.2 = 0 then ((am_gr r22.1 x0 0 5).bind fun v25 => ((am_gr r22.1 x0 0 1).bind fun v27 => ((f_H_keep (v25) (v27) r22.1).bind fun r29 => (f_C_rows_p30 am_N x0 x1 x2 0 r29.1)))) else (some (r22.1, 0))))))
def f_C_rows (x0 : Nat) (x1 : Int32) (x2 : Int32) (w : am_W) : Option (am_W × Int32) := am_self w x0 0 (e_C_rows x0 x1 x2 w)
theorem o_C_rows_p30 {d : Nat} : ∀ (n : Nat) (x0 : Nat) (x1 : Int32) (x2 : Int32) (x3 : Int32) (w : am_W), am_Ok am_ji (d + 4) m_C_rows 30 [some (.ref x0), some (.int x1), some (.int x2), some (.int x3)] [] w (f_C_rows_p30 n x0 x1 x2 x3 w) := by
  intro n
  induction n with
  | zero => intros; exact ok_none
  | succ n ih =>
    intro x0 x1 x2 x3 w
    unfold f_C_rows_p30
    refine ok_seg (L := [((.iload_n 3), 1), ((.aload_n 0), 1)]) (pc' := 32) (ls' := [some (.ref x0), some (.int x1), some (.int x2), some (.int x3)]) (st' := [.ref x0, .int x3]) (w' := w) (by decide +kernel) rfl ?_
    refine ok_gr (by decide +kernel : decode m_C_rows.2.1 32 = .ok ((.getfield 19), 3)) rfl (by decide) (fun v1 h2 => ?_)
    refine ok_call0 (inj' := am_ji) (by decide +kernel : decode m_C_rows.2.1 35 = .ok ((.invokevirtual 98), 3)) rfl (fun q hq => am_iv0 (am_self_eq hq).1 rfl rfl rfl) (o_G_wide (d + 3) (v1) w) (fun _ _ => rfl) (fun r3 h4 => ?_)
    refine ok_br (P := r3.2 ≤ x3) (off := 34) (t := 72) (by decide +kernel : decode m_C_rows.2.1 38 = .ok ((.if_icmp .ge 34), 3)) rfl rfl rfl rfl (fun c5 => ?_) (fun c5 => ?_)
    · skip
      refine ok_seg (L := [((.iconst 1), 1)]) (pc' := 73) (ls' := [some (.ref x0), some (.int x1), some (.int x2), some (.int x3)]) (st' := [.int 1]) (w' := r3.1) (by decide +kernel) rfl ?_
      exact ok_ret (v := 1) (by decide +kernel : decode m_C_rows.2.1 73 = .ok (.ireturn, 1)) rfl
    · skip
      refine ok_seg (L := [((.aload_n 0), 1)]) (pc' := 42) (ls' := [some (.ref x0), some (.int x1), some (.int x2), some (.int x3)]) (st' := [.ref x0]) (w' := r3.1) (by decide +kernel) rfl ?_
      refine ok_gr (by decide +kernel : decode m_C_rows.2.1 42 = .ok ((.getfield 19), 3)) rfl (by decide) (fun v6 h7 => ?_)
      refine ok_seg (L := [((.aload_n 0), 1)]) (pc' := 46) (ls' := [some (.ref x0), some (.int x1), some (.int x2), some (.int x3)]) (st' := [.ref x0, .ref v6]) (w' := r3.1) (by decide +kernel) rfl ?_
      refine ok_gr (by decide +kernel : decode m_C_rows.2.1 46 = .ok ((.getfield 19), 3)) rfl (by decide) (fun v8 h9 => ?_)
      refine ok_seg (L := [((.iload_n 1), 1), ((.iload_n 3), 1)]) (pc' := 51) (ls' := [some (.ref x0), some (.int x1), some (.int x2), some (.int x3)]) (st' := [.int x3, .int x1, .ref v8, .ref v6]) (w' := r3.1) (by decide +kernel) rfl ?_
      refine ok_call0 (inj' := am_ji) (by decide +kernel : decode m_C_rows.2.1 51 = .ok ((.invokevirtual 214), 3)) rfl (fun q hq => am_iv0 (am_self_eq hq).1 rfl rfl rfl) (o_G_cellAt (d + 3) (v8) (x1) (x3) r3.1) (fun _ _ => rfl) (fun r10 h11 => ?_)
      refine ok_seg (L := [((.aload_n 0), 1)]) (pc' := 55) (ls' := [some (.ref x0), some (.int x1), some (.int x2), some (.int x3)]) (st' := [.ref x0, .int r10.2, .ref v6]) (w' := r10.1) (by decide +kernel) rfl ?_
      refine ok_gr (by decide +kernel : decode m_C_rows.2.1 55 = .ok ((.getfield 19), 3)) rfl (by decide) (fun v12 h13 => ?_)
      refine ok_seg (L := [((.iload_n 2), 1), ((.iload_n 3), 1)]) (pc' := 60) (ls' := [some (.ref x0), some (.int x1), some (.int x2), some (.int x3)]) (st' := [.int x3, .int x2, .ref v12, .int r10.2, .ref v6]) (w' := r10.1) (by decide +kernel) rfl ?_
      refine ok_call0 (inj' := am_ji) (by decide +kernel : decode m_C_rows.2.1 60 = .ok ((.invokevirtual 214), 3)) rfl (fun q hq => am_iv0 (am_self_eq hq).1 rfl rfl rfl) (o_G_cellAt (d + 3) (v12) (x2) (x3) r10.1) (fun _ _ => rfl) (fun r14 h15 => ?_)
      refine ok_call0 (inj' := am_jv) (by decide +kernel : decode m_C_rows.2.1 63 = .ok ((.invokevirtual 217), 3)) rfl (fun q hq => am_iv0 (am_self_eq hq).1 rfl rfl rfl) (o_G_exchange (d + 1) (v6) (r10.2) (r14.2) r14.1) (fun _ _ => rfl) (fun r16 h17 => ?_)
      refine ok_seg (L := [((.iinc 3 1), 3)]) (pc' := 69) (ls' := [some (.ref x0), some (.int x1), some (.int x2), some (.int (x3 + 1))]) (st' := []) (w' := r16.1) (by decide +kernel) rfl ?_
      refine ok_goto (t := 30) (by decide +kernel : decode m_C_rows.2.1 69 = .ok ((.goto (-39)), 3)) rfl ?_
      exact ih x0 x1 x2 (x3 + 1) r16.1
theorem o_C_rows (d : Nat) (x0 : Nat) (x1 : Int32) (x2 : Int32) (w : am_W) : am_Ok am_ji (d + 4) m_C_rows 0 (am_en m_C_rows [.ref x0, .int x1, .int x2]) [] w (f_C_rows x0 x1 x2 w) := by
  show am_Ok _ _ _ 0 [some (.ref x0), some (.int x1), some (.int x2), none] [] w _
  unfold f_C_rows
  refine ok_self ?_
  unfold e_C_rows
  refine ok_seg (L := [((.iload_n 1), 1), ((.iload_n 2), 1), ((.aload_n 0), 1)]) (pc' := 3) (ls' := [some (.ref x0), some (.int x1), some (.int x2), none]) (st' := [.ref x0, .int x2, .int x1]) (w' := w) (by decide +kernel) rfl ?_
  refine ok_gr (by decide +kernel : decode m_C_rows.2.1 3 = .ok ((.getfield 19), 3)) rfl (by decide) (fun v18 h19 => ?_)
  refine ok_call0 (inj' := am_ji) (by decide +kernel : decode m_C_rows.2.1 6 = .ok ((.invokevirtual 95), 3)) rfl (fun q hq => am_iv0 (am_self_eq hq).1 rfl rfl rfl) (o_G_high (d + 3) (v18) w) (fun _ _ => rfl) (fun r20 h21 => ?_)
  refine ok_call0 (inj' := am_ji) (by decide +kernel : decode m_C_rows.2.1 9 = .ok ((.invokestatic 210), 3)) rfl (fun _ _ => rfl) (o_C_isPairBelow (d + 3) (x1) (x2) (r20.2) r20.1) (fun _ _ => rfl) (fun r22 h23 => ?_)
  refine ok_br (P := ¬ r22.2 = 0) (off := 5) (t := 17) (by decide +kernel : decode m_C_rows.2.1 12 = .ok ((.ifCond .ne 5), 3)) rfl rfl rfl rfl (fun c24 => ?_) (fun c24 => ?_)
  · skip
    refine ok_seg (L := [((.aload_n 0), 1)]) (pc' := 18) (ls' := [some (.ref x0), some (.int x1), some (.int x2), none]) (st' := [.ref x0]) (w' := r22.1) (by decide +kernel) rfl ?_
    refine ok_gr (by decide +kernel : decode m_C_rows.2.1 18 = .ok ((.getfield 43), 3)) rfl (by decide) (fun v25 h26 => ?_)
    refine ok_seg (L := [((.aload_n 0), 1)]) (pc' := 22) (ls' := [some (.ref x0), some (.int x1), some (.int x2), none]) (st' := [.ref x0, .ref v25]) (w' := r22.1) (by decide +kernel) rfl ?_
    refine ok_gr (by decide +kernel : decode m_C_rows.2.1 22 = .ok ((.getfield 19), 3)) rfl (by decide) (fun v27 h28 => ?_)
    refine ok_call0 (inj' := am_jv) (by decide +kernel : decode m_C_rows.2.1 25 = .ok ((.invokevirtual 188), 3)) rfl (fun q hq => am_iv0 (am_self_eq hq).1 rfl rfl rfl) (o_H_keep (d + 0) (v25) (v27) r22.1) (fun _ _ => rfl) (fun r29 h30 => ?_)
    refine ok_seg (L := [((.iconst 0), 1), ((.istore_n 3), 1)]) (pc' := 30) (ls' := [some (.ref x0), some (.int x1), some (.int x2), some (.int 0)]) (st' := []) (w' := r29.1) (by decide +kernel) rfl ?_
    exact o_C_rows_p30 am_N x0 x1 x2 0 r29.1
  · skip
    refine ok_seg (L := [((.iconst 0), 1)]) (pc' := 16) (ls' := [some (.ref x0), some (.int x1), some (.int x2), none]) (st' := [.int 0]) (w' := r22.1) (by decide +kernel) rfl ?_
    exact ok_ret (v := 0) (by decide +kernel : decode m_C_rows.2.1 16 = .ok (.ireturn, 1)) rfl
-- m_C_columns
def f_C_columns_p30 : Nat → Nat → Int32 → Int32 → Int32 → am_W → Option (am_W × Int32)
  | 0, _, _, _, _, _ => none
  | n + 1, x0, x1, x2, x3, w => ((am_gr w x0 0 1).bind fun v1 => ((f_G_high (v1) w).bind fun r3 => (if r3.2 ≤ x3 then (some (r3.1, 1)) else ((am_gr r3.1 x0 0 1).bind fun v6 => ((am_gr r3.1 x0 0 1).bind fun v8 => ((f_G_cellAt (v8) (x3) (x1) r3.1).bind fun r10 => ((am_gr r10.1 x0 0 1).bind fun v12 => ((f_G_cellAt (v12) (x3) (x2) r10.1).bind fun r14 => ((f_G_exchange (v6) (r10.2) (r14.2) r14.1).bind fun r16 => (f_C_columns_p30 n x0 x1 x2 (x3 + 1) r16.1))))))))))
def e_C_columns (x0 : Nat) (x1 : Int32) (x2 : Int32) (w : am_W) : Option (am_W × Int32) := ((am_gr w x0 0 1).bind fun v18 => ((f_G_wide (v18) w).bind fun r20 => ((f_C_isPairBelow (x1) (x2) (r20.2) r20.1).bind fun r22 => (if ¬ r22.2 = 0 then ((am_gr r22.1 x0 0 5).bind fun v25 => ((am_gr r22.1 x0 0 1).bind fun v27 => ((f_H_keep (v25) (v27) r22.1).bind fun r29 => (f_C_columns_p30 am_N x0 x1 x2 0 r29.1)))) else (some (r22.1, 0))))))
def f_C_columns (x0 : Nat) (x1 : Int32) (x2 : Int32) (w : am_W) : Option (am_W × Int32) := am_self w x0 0 (e_C_columns x0 x1 x2 w)
theorem o_C_columns_p30 {d : Nat} : ∀ (n : Nat) (x0 : Nat) (x1 : Int32) (x2 : Int32) (x3 : Int32) (w : am_W), am_Ok am_ji (d + 4) m_C_columns 30 [some (.ref x0), some (.int x1), some (.int x2), some (.int x3)] [] w (f_C_columns_p30 n x0 x1 x2 x3 w) := by
  intro n
  induction n with
  | zero => intros; exact ok_none
  | succ n ih =>
    intro x0 x1 x2 x3 w
    unfold f_C_columns_p30
    refine ok_seg (L := [((.iload_n 3), 1), ((.aload_n 0), 1)]) (pc' := 32) (ls' := [some (.ref x0), some (.int x1), some (.int x2), some (.int x3)]) (st' := [.ref x0, .int x3]) (w' := w) (by decide +kernel) rfl ?_
    refine ok_gr (by decide +kernel : decode m_C_columns.2.1 32 = .ok ((.getfield 19), 3)) rfl (by decide) (fun v1 h2 => ?_)
    refine ok_call0 (inj' := am_ji) (by decide +kernel : decode m_C_columns.2.1 35 = .ok ((.invokevirtual 95), 3)) rfl (fun q hq => am_iv0 (am_self_eq hq).1 rfl rfl rfl) (o_G_high (d + 3) (v1) w) (fun _ _ => rfl) (fun r3 h4 => ?_)
    refine ok_br (P := r3.2 ≤ x3) (off := 34) (t := 72) (by decide +kernel : decode m_C_columns.2.1 38 = .ok ((.if_icmp .ge 34), 3)) rfl rfl rfl rfl (fun c5 => ?_) (fun c5 => ?_)
    · skip
      refine ok_seg (L := [((.iconst 1), 1)]) (pc' := 73) (ls' := [some (.ref x0), some (.int x1), some (.int x2), some (.int x3)]) (st' := [.int 1]) (w' := r3.1) (by decide +kernel) rfl ?_
      exact ok_ret (v := 1) (by decide +kernel : decode m_C_columns.2.1 73 = .ok (.ireturn, 1)) rfl
    · skip
      refine ok_seg (L := [((.aload_n 0), 1)]) (pc' := 42) (ls' := [some (.ref x0), some (.int x1), some (.int x2), some (.int x3)]) (st' := [.ref x0]) (w' := r3.1) (by decide +kernel) rfl ?_
      refine ok_gr (by decide +kernel : decode m_C_columns.2.1 42 = .ok ((.getfield 19), 3)) rfl (by decide) (fun v6 h7 => ?_)
      refine ok_seg (L := [((.aload_n 0), 1)]) (pc' := 46) (ls' := [some (.ref x0), some (.int x1), some (.int x2), some (.int x3)]) (st' := [.ref x0, .ref v6]) (w' := r3.1) (by decide +kernel) rfl ?_
      refine ok_gr (by decide +kernel : decode m_C_columns.2.1 46 = .ok ((.getfield 19), 3)) rfl (by decide) (fun v8 h9 => ?_)
      refine ok_seg (L := [((.iload_n 3), 1), ((.iload_n 1), 1)]) (pc' := 51) (ls' := [some (.ref x0), some (.int x1), some (.int x2), some (.int x3)]) (st' := [.int x1, .int x3, .ref v8, .ref v6]) (w' := r3.1) (by decide +kernel) rfl ?_
      refine ok_call0 (inj' := am_ji) (by decide +kernel : decode m_C_columns.2.1 51 = .ok ((.invokevirtual 214), 3)) rfl (fun q hq => am_iv0 (am_self_eq hq).1 rfl rfl rfl) (o_G_cellAt (d + 3) (v8) (x3) (x1) r3.1) (fun _ _ => rfl) (fun r10 h11 => ?_)
      refine ok_seg (L := [((.aload_n 0), 1)]) (pc' := 55) (ls' := [some (.ref x0), some (.int x1), some (.int x2), some (.int x3)]) (st' := [.ref x0, .int r10.2, .ref v6]) (w' := r10.1) (by decide +kernel) rfl ?_
      refine ok_gr (by decide +kernel : decode m_C_columns.2.1 55 = .ok ((.getfield 19), 3)) rfl (by decide) (fun v12 h13 => ?_)
      refine ok_seg (L := [((.iload_n 3), 1), ((.iload_n 2), 1)]) (pc' := 60) (ls' := [some (.ref x0), some (.int x1), some (.int x2), some (.int x3)]) (st' := [.int x2, .int x3, .ref v12, .int r10.2, .ref v6]) (w' := r10.1) (by decide +kernel) rfl ?_
      refine ok_call0 (inj' := am_ji) (by decide +kernel : decode m_C_columns.2.1 60 = .ok ((.invokevirtual 214), 3)) rfl (fun q hq => am_iv0 (am_self_eq hq).1 rfl rfl rfl) (o_G_cellAt (d + 3) (v12) (x3) (x2) r10.1) (fun _ _ => rfl) (fun r14 h15 => ?_)
      refine ok_call0 (inj' := am_jv) (by decide +kernel : decode m_C_columns.2.1 63 = .ok ((.invokevirtual 217), 3)) rfl (fun q hq => am_iv0 (am_self_eq hq).1 rfl rfl rfl) (o_G_exchange (d + 1) (v6) (r10.2) (r14.2) r14.1) (fun _ _ => rfl) (fun r16 h17 => ?_)
      refine ok_seg (L := [((.iinc 3 1), 3)]) (pc' := 69) (ls' := [some (.ref x0), some (.int x1), some (.int x2), some (.int (x3 + 1))]) (st' := []) (w' := r16.1) (by decide +kernel) rfl ?_
      refine ok_goto (t := 30) (by decide +kernel : decode m_C_columns.2.1 69 = .ok ((.goto (-39)), 3)) rfl ?_
      exact ih x0 x1 x2 (x3 + 1) r16.1
theorem o_C_columns (d : Nat) (x0 : Nat) (x1 : Int32) (x2 : Int32) (w : am_W) : am_Ok am_ji (d + 4) m_C_columns 0 (am_en m_C_columns [.ref x0, .int x1, .int x2]) [] w (f_C_columns x0 x1 x2 w) := by
  show am_Ok _ _ _ 0 [some (.ref x0), some (.int x1), some (.int x2), none] [] w _
  unfold f_C_columns
  refine ok_self ?_
  unfold e_C_columns
  refine ok_seg (L := [((.iload_n 1), 1), ((.iload_n 2), 1), ((.aload_n 0), 1)]) (pc' := 3) (ls' := [some (.ref x0), some (.int x1), some (.int x2), none]) (st' := [.ref x0, .int x2, .int x1]) (w' := w) (by decide +kernel) rfl ?_
  refine ok_gr (by decide +kernel : decode m_C_columns.2.1 3 = .ok ((.getfield 19), 3)) rfl (by decide) (fun v18 h19 => ?_)
  refine ok_call0 (inj' := am_ji) (by decide +kernel : decode m_C_columns.2.1 6 = .ok ((.invokevirtual 98), 3)) rfl (fun q hq => am_iv0 (am_self_eq hq).1 rfl rfl rfl) (o_G_wide (d + 3) (v18) w) (fun _ _ => rfl) (fun r20 h21 => ?_)
  refine ok_call0 (inj' := am_ji) (by decide +kernel : decode m_C_columns.2.1 9 = .ok ((.invokestatic 210), 3)) rfl (fun _ _ => rfl) (o_C_isPairBelow (d + 3) (x1) (x2) (r20.2) r20.1) (fun _ _ => rfl) (fun r22 h23 => ?_)
  refine ok_br (P := ¬ r22.2 = 0) (off := 5) (t := 17) (by decide +kernel : decode m_C_columns.2.1 12 = .ok ((.ifCond .ne 5), 3)) rfl rfl rfl rfl (fun c24 => ?_) (fun c24 => ?_)
  · skip
    refine ok_seg (L := [((.aload_n 0), 1)]) (pc' := 18) (ls' := [some (.ref x0), some (.int x1), some (.int x2), none]) (st' := [.ref x0]) (w' := r22.1) (by decide +kernel) rfl ?_
    refine ok_gr (by decide +kernel : decode m_C_columns.2.1 18 = .ok ((.getfield 43), 3)) rfl (by decide) (fun v25 h26 => ?_)
    refine ok_seg (L := [((.aload_n 0), 1)]) (pc' := 22) (ls' := [some (.ref x0), some (.int x1), some (.int x2), none]) (st' := [.ref x0, .ref v25]) (w' := r22.1) (by decide +kernel) rfl ?_
    refine ok_gr (by decide +kernel : decode m_C_columns.2.1 22 = .ok ((.getfield 19), 3)) rfl (by decide) (fun v27 h28 => ?_)
    refine ok_call0 (inj' := am_jv) (by decide +kernel : decode m_C_columns.2.1 25 = .ok ((.invokevirtual 188), 3)) rfl (fun q hq => am_iv0 (am_self_eq hq).1 rfl rfl rfl) (o_H_keep (d + 0) (v25) (v27) r22.1) (fun _ _ => rfl) (fun r29 h30 => ?_)
    refine ok_seg (L := [((.iconst 0), 1), ((.istore_n 3), 1)]) (pc' := 30) (ls' := [some (.ref x0), some (.int x1), some (.int x2), some (.int 0)]) (st' := []) (w' := r29.1) (by decide +kernel) rfl ?_
    exact o_C_columns_p30 am_N x0 x1 x2 0 r29.1
  · skip
    refine ok_seg (L := [((.iconst 0), 1)]) (pc' := 16) (ls' := [some (.ref x0), some (.int x1), some (.int x2), none]) (st' := [.int 0]) (w' := r22.1) (by decide +kernel) rfl ?_
    exact ok_ret (v := 0) (by decide +kernel : decode m_C_columns.2.1 16 = .ok (.ireturn, 1)) rfl
-- m_G_exchangeColours
def f_G_exchangeColours_p52 (w : am_W) : Option (am_W × Unit) := (some (w, ()))
def e_G_exchangeColours (x0 : Nat) (x1 : Int32) (x2 : Int32) (w : am_W) : Option (am_W × Unit) := (if x1 < 0 then (f_G_exchangeColours_p52 w) else ((am_gr w x0 1 0).bind fun v2 => ((am_al w v2).bind fun v4 => (if v4 ≤ x1 then (f_G_exchangeColours_p52 w) else (if x2 < 0 then (f_G_exchangeColours_p52 w) else ((am_gr w x0 1 0).bind fun v8 => ((am_al w v8).bind fun v10 => (if v10 ≤ x2 then (f_G_exchangeColours_p52 w) else ((am_gr w x0 1 0).bind fun v13 => ((am_aj w v13 x1).bind fun v15 => ((am_gr w x0 1 0).bind fun v17 => ((am_gr w x0 1 0).bind fun v19 => ((am_aj w v19 x2).bind fun v21 => ((am_sj w v17 x1 v21).bind fun w23 => ((am_gr w23 x0 1 0).bind fun v25 => ((am_sj w23 v25 x2 v15).bind fun w27 => (f_G_exchangeColours_p52 w27)))))))))))))))))
def f_G_exchangeColours (x0 : Nat) (x1 : Int32) (x2 : Int32) (w : am_W) : Option (am_W × Unit) := am_self w x0 1 (e_G_exchangeColours x0 x1 x2 w)
theorem o_G_exchangeColours_p52 {d : Nat} (y0 y1 y2 y3 y4 : Option Value) (w : am_W) : am_Ok am_jv (d + 0) m_G_exchangeColours 52 [y0, y1, y2, y3, y4] [] w (f_G_exchangeColours_p52 w) := by
  unfold f_G_exchangeColours_p52
  exact ok_ret (v := ()) (by decide +kernel : decode m_G_exchangeColours.2.1 52 = .ok (.return_, 1)) rfl
theorem o_G_exchangeColours (d : Nat) (x0 : Nat) (x1 : Int32) (x2 : Int32) (w : am_W) : am_Ok am_jv (d + 0) m_G_exchangeColours 0 (am_en m_G_exchangeColours [.ref x0, .int x1, .int x2]) [] w (f_G_exchangeColours x0 x1 x2 w) := by
  show am_Ok _ _ _ 0 [some (.ref x0), some (.int x1), some (.int x2), none, none] [] w _
  unfold f_G_exchangeColours
  refine ok_self ?_
  unfold e_G_exchangeColours
  refine ok_seg (L := [((.iload_n 1), 1)]) (pc' := 1) (ls' := [some (.ref x0), some (.int x1), some (.int x2), none, none]) (st' := [.int x1]) (w' := w) (by decide +kernel) rfl ?_
  refine ok_br (P := x1 < 0) (off := 51) (t := 52) (by decide +kernel : decode m_G_exchangeColours.2.1 1 = .ok ((.ifCond .lt 51), 3)) rfl rfl rfl rfl (fun c1 => ?_) (fun c1 => ?_)
  · skip
    exact o_G_exchangeColours_p52 (some (.ref x0)) (some (.int x1)) (some (.int x2)) none none w
  · skip
    refine ok_seg (L := [((.iload_n 1), 1), ((.aload_n 0), 1)]) (pc' := 6) (ls' := [some (.ref x0), some (.int x1), some (.int x2), none, none]) (st' := [.ref x0, .int x1]) (w' := w) (by decide +kernel) rfl ?_
    refine ok_gr (by decide +kernel : decode m_G_exchangeColours.2.1 6 = .ok ((.getfield 9), 3)) rfl (by decide) (fun v2 h3 => ?_)
    refine ok_al (by decide +kernel : decode m_G_exchangeColours.2.1 9 = .ok (.arraylength, 1)) (fun v4 h5 => ?_)
    refine ok_br (P := v4 ≤ x1) (off := 42) (t := 52) (by decide +kernel : decode m_G_exchangeColours.2.1 10 = .ok ((.if_icmp .ge 42), 3)) rfl rfl rfl rfl (fun c6 => ?_) (fun c6 => ?_)
    · skip
      exact o_G_exchangeColours_p52 (some (.ref x0)) (some (.int x1)) (some (.int x2)) none none w
    · skip
      refine ok_seg (L := [((.iload_n 2), 1)]) (pc' := 14) (ls' := [some (.ref x0), some (.int x1), some (.int x2), none, none]) (st' := [.int x2]) (w' := w) (by decide +kernel) rfl ?_
      refine ok_br (P := x2 < 0) (off := 38) (t := 52) (by decide +kernel : decode m_G_exchangeColours.2.1 14 = .ok ((.ifCond .lt 38), 3)) rfl rfl rfl rfl (fun c7 => ?_) (fun c7 => ?_)
      · skip
        exact o_G_exchangeColours_p52 (some (.ref x0)) (some (.int x1)) (some (.int x2)) none none w
      · skip
        refine ok_seg (L := [((.iload_n 2), 1), ((.aload_n 0), 1)]) (pc' := 19) (ls' := [some (.ref x0), some (.int x1), some (.int x2), none, none]) (st' := [.ref x0, .int x2]) (w' := w) (by decide +kernel) rfl ?_
        refine ok_gr (by decide +kernel : decode m_G_exchangeColours.2.1 19 = .ok ((.getfield 9), 3)) rfl (by decide) (fun v8 h9 => ?_)
        refine ok_al (by decide +kernel : decode m_G_exchangeColours.2.1 22 = .ok (.arraylength, 1)) (fun v10 h11 => ?_)
        refine ok_br (P := v10 ≤ x2) (off := 29) (t := 52) (by decide +kernel : decode m_G_exchangeColours.2.1 23 = .ok ((.if_icmp .ge 29), 3)) rfl rfl rfl rfl (fun c12 => ?_) (fun c12 => ?_)
        · skip
          exact o_G_exchangeColours_p52 (some (.ref x0)) (some (.int x1)) (some (.int x2)) none none w
        · skip
          refine ok_seg (L := [((.aload_n 0), 1)]) (pc' := 27) (ls' := [some (.ref x0), some (.int x1), some (.int x2), none, none]) (st' := [.ref x0]) (w' := w) (by decide +kernel) rfl ?_
          refine ok_gr (by decide +kernel : decode m_G_exchangeColours.2.1 27 = .ok ((.getfield 9), 3)) rfl (by decide) (fun v13 h14 => ?_)
          refine ok_seg (L := [((.iload_n 1), 1)]) (pc' := 31) (ls' := [some (.ref x0), some (.int x1), some (.int x2), none, none]) (st' := [.int x1, .ref v13]) (w' := w) (by decide +kernel) rfl ?_
          refine ok_aj (by decide +kernel : decode m_G_exchangeColours.2.1 31 = .ok (.laload, 1)) (fun v15 h16 => ?_)
          refine ok_seg (L := [((.lstore_n 3), 1), ((.aload_n 0), 1)]) (pc' := 34) (ls' := [some (.ref x0), some (.int x1), some (.int x2), some (.long v15), none]) (st' := [.ref x0]) (w' := w) (by decide +kernel) rfl ?_
          refine ok_gr (by decide +kernel : decode m_G_exchangeColours.2.1 34 = .ok ((.getfield 9), 3)) rfl (by decide) (fun v17 h18 => ?_)
          refine ok_seg (L := [((.iload_n 1), 1), ((.aload_n 0), 1)]) (pc' := 39) (ls' := [some (.ref x0), some (.int x1), some (.int x2), some (.long v15), none]) (st' := [.ref x0, .int x1, .ref v17]) (w' := w) (by decide +kernel) rfl ?_
          refine ok_gr (by decide +kernel : decode m_G_exchangeColours.2.1 39 = .ok ((.getfield 9), 3)) rfl (by decide) (fun v19 h20 => ?_)
          refine ok_seg (L := [((.iload_n 2), 1)]) (pc' := 43) (ls' := [some (.ref x0), some (.int x1), some (.int x2), some (.long v15), none]) (st' := [.int x2, .ref v19, .int x1, .ref v17]) (w' := w) (by decide +kernel) rfl ?_
          refine ok_aj (by decide +kernel : decode m_G_exchangeColours.2.1 43 = .ok (.laload, 1)) (fun v21 h22 => ?_)
          refine ok_sj (by decide +kernel : decode m_G_exchangeColours.2.1 44 = .ok (.lastore, 1)) (fun w23 h24 => ?_)
          refine ok_seg (L := [((.aload_n 0), 1)]) (pc' := 46) (ls' := [some (.ref x0), some (.int x1), some (.int x2), some (.long v15), none]) (st' := [.ref x0]) (w' := w23) (by decide +kernel) rfl ?_
          refine ok_gr (by decide +kernel : decode m_G_exchangeColours.2.1 46 = .ok ((.getfield 9), 3)) rfl (by decide) (fun v25 h26 => ?_)
          refine ok_seg (L := [((.iload_n 2), 1), ((.lload_n 3), 1)]) (pc' := 51) (ls' := [some (.ref x0), some (.int x1), some (.int x2), some (.long v15), none]) (st' := [.long v15, .int x2, .ref v25]) (w' := w23) (by decide +kernel) rfl ?_
          refine ok_sj (by decide +kernel : decode m_G_exchangeColours.2.1 51 = .ok (.lastore, 1)) (fun w27 h28 => ?_)
          exact o_G_exchangeColours_p52 (some (.ref x0)) (some (.int x1)) (some (.int x2)) (some (.long v15)) none w27
-- m_C_name
def f_C_name_p35 (w : am_W) : Option (am_W × Int32) := (some (w, (-1)))
def e_C_name (x0 : Nat) (x1 : Int32) (x2 : Int32) (w : am_W) : Option (am_W × Int32) := (if x1 = 0 then (f_C_name_p35 w) else (if x2 = 0 then (f_C_name_p35 w) else (if x1 = x2 then (f_C_name_p35 w) else ((am_gr w x0 0 1).bind fun v4 => ((f_G_hasColourOrBlank (v4) (x1) w).bind fun r6 => (if r6.2 = 0 then (f_C_name_p35 r6.1) else ((am_gr r6.1 x0 0 1).bind fun v9 => ((f_G_hasColourOrBlank (v9) (x2) r6.1).bind fun r11 => (if ¬ r11.2 = 0 then ((am_gr r11.1 x0 0 5).bind fun v14 => ((am_gr r11.1 x0 0 1).bind fun v16 => ((f_H_keep (v14) (v16) r11.1).bind fun r18 => ((am_gr r18.1 x0 0 1).bind fun v20 => ((f_G_exchangeColours (v20) (x1) (x2) r18.1).bind fun r22 => ((am_gr r22.1 x0 0 1).bind fun v24 => ((f_G_cellsOf (v24) (x1) r22.1).bind fun r26 => ((am_gr r26.1 x0 0 1).bind fun v28 => ((f_G_cellsOf (v28) (x2) r26.1).bind fun r30 => ((f_J_bitCount ((r26.2 ||| r30.2)) r30.1).bind fun r32 => (some (r32.1, r32.2)))))))))))) else (f_C_name_p35 r11.1))))))))))
def f_C_name (x0 : Nat) (x1 : Int32) (x2 : Int32) (w : am_W) : Option (am_W × Int32) := am_self w x0 0 (e_C_name x0 x1 x2 w)
theorem o_C_name_p35 {d : Nat} (y0 y1 y2 : Option Value) (w : am_W) : am_Ok am_ji (d + 4) m_C_name 35 [y0, y1, y2] [] w (f_C_name_p35 w) := by
  unfold f_C_name_p35
  refine ok_seg (L := [((.iconst (-1)), 1)]) (pc' := 36) (ls' := [y0, y1, y2]) (st' := [.int (-1)]) (w' := w) (by decide +kernel) rfl ?_
  exact ok_ret (v := (-1)) (by decide +kernel : decode m_C_name.2.1 36 = .ok (.ireturn, 1)) rfl
theorem o_C_name (d : Nat) (x0 : Nat) (x1 : Int32) (x2 : Int32) (w : am_W) : am_Ok am_ji (d + 4) m_C_name 0 (am_en m_C_name [.ref x0, .int x1, .int x2]) [] w (f_C_name x0 x1 x2 w) := by
  show am_Ok _ _ _ 0 [some (.ref x0), some (.int x1), some (.int x2)] [] w _
  unfold f_C_name
  refine ok_self ?_
  unfold e_C_name
  refine ok_seg (L := [((.iload_n 1), 1)]) (pc' := 1) (ls' := [some (.ref x0), some (.int x1), some (.int x2)]) (st' := [.int x1]) (w' := w) (by decide +kernel) rfl ?_
  refine ok_br (P := x1 = 0) (off := 34) (t := 35) (by decide +kernel : decode m_C_name.2.1 1 = .ok ((.ifCond .eq 34), 3)) rfl rfl rfl rfl (fun c1 => ?_) (fun c1 => ?_)
  · skip
    exact o_C_name_p35 (some (.ref x0)) (some (.int x1)) (some (.int x2)) w
  · skip
    refine ok_seg (L := [((.iload_n 2), 1)]) (pc' := 5) (ls' := [some (.ref x0), some (.int x1), some (.int x2)]) (st' := [.int x2]) (w' := w) (by decide +kernel) rfl ?_
    refine ok_br (P := x2 = 0) (off := 30) (t := 35) (by decide +kernel : decode m_C_name.2.1 5 = .ok ((.ifCond .eq 30), 3)) rfl rfl rfl rfl (fun c2 => ?_) (fun c2 => ?_)
    · skip
      exact o_C_name_p35 (some (.ref x0)) (some (.int x1)) (some (.int x2)) w
    · skip
      refine ok_seg (L := [((.iload_n 1), 1), ((.iload_n 2), 1)]) (pc' := 10) (ls' := [some (.ref x0), some (.int x1), some (.int x2)]) (st' := [.int x2, .int x1]) (w' := w) (by decide +kernel) rfl ?_
      refine ok_br (P := x1 = x2) (off := 25) (t := 35) (by decide +kernel : decode m_C_name.2.1 10 = .ok ((.if_icmp .eq 25), 3)) rfl rfl rfl rfl (fun c3 => ?_) (fun c3 => ?_)
      · skip
        exact o_C_name_p35 (some (.ref x0)) (some (.int x1)) (some (.int x2)) w
      · skip
        refine ok_seg (L := [((.aload_n 0), 1)]) (pc' := 14) (ls' := [some (.ref x0), some (.int x1), some (.int x2)]) (st' := [.ref x0]) (w' := w) (by decide +kernel) rfl ?_
        refine ok_gr (by decide +kernel : decode m_C_name.2.1 14 = .ok ((.getfield 19), 3)) rfl (by decide) (fun v4 h5 => ?_)
        refine ok_seg (L := [((.iload_n 1), 1)]) (pc' := 18) (ls' := [some (.ref x0), some (.int x1), some (.int x2)]) (st' := [.int x1, .ref v4]) (w' := w) (by decide +kernel) rfl ?_
        refine ok_call0 (inj' := am_ji) (by decide +kernel : decode m_C_name.2.1 18 = .ok ((.invokevirtual 128), 3)) rfl (fun q hq => am_iv0 (am_self_eq hq).1 rfl rfl rfl) (o_G_hasColourOrBlank (d + 3) (v4) (x1) w) (fun _ _ => rfl) (fun r6 h7 => ?_)
        refine ok_br (P := r6.2 = 0) (off := 14) (t := 35) (by decide +kernel : decode m_C_name.2.1 21 = .ok ((.ifCond .eq 14), 3)) rfl rfl rfl rfl (fun c8 => ?_) (fun c8 => ?_)
        · skip
          exact o_C_name_p35 (some (.ref x0)) (some (.int x1)) (some (.int x2)) r6.1
        · skip
          refine ok_seg (L := [((.aload_n 0), 1)]) (pc' := 25) (ls' := [some (.ref x0), some (.int x1), some (.int x2)]) (st' := [.ref x0]) (w' := r6.1) (by decide +kernel) rfl ?_
          refine ok_gr (by decide +kernel : decode m_C_name.2.1 25 = .ok ((.getfield 19), 3)) rfl (by decide) (fun v9 h10 => ?_)
          refine ok_seg (L := [((.iload_n 2), 1)]) (pc' := 29) (ls' := [some (.ref x0), some (.int x1), some (.int x2)]) (st' := [.int x2, .ref v9]) (w' := r6.1) (by decide +kernel) rfl ?_
          refine ok_call0 (inj' := am_ji) (by decide +kernel : decode m_C_name.2.1 29 = .ok ((.invokevirtual 128), 3)) rfl (fun q hq => am_iv0 (am_self_eq hq).1 rfl rfl rfl) (o_G_hasColourOrBlank (d + 3) (v9) (x2) r6.1) (fun _ _ => rfl) (fun r11 h12 => ?_)
          refine ok_br (P := ¬ r11.2 = 0) (off := 5) (t := 37) (by decide +kernel : decode m_C_name.2.1 32 = .ok ((.ifCond .ne 5), 3)) rfl rfl rfl rfl (fun c13 => ?_) (fun c13 => ?_)
          · skip
            refine ok_seg (L := [((.aload_n 0), 1)]) (pc' := 38) (ls' := [some (.ref x0), some (.int x1), some (.int x2)]) (st' := [.ref x0]) (w' := r11.1) (by decide +kernel) rfl ?_
            refine ok_gr (by decide +kernel : decode m_C_name.2.1 38 = .ok ((.getfield 43), 3)) rfl (by decide) (fun v14 h15 => ?_)
            refine ok_seg (L := [((.aload_n 0), 1)]) (pc' := 42) (ls' := [some (.ref x0), some (.int x1), some (.int x2)]) (st' := [.ref x0, .ref v14]) (w' := r11.1) (by decide +kernel) rfl ?_
            refine ok_gr (by decide +kernel : decode m_C_name.2.1 42 = .ok ((.getfield 19), 3)) rfl (by decide) (fun v16 h17 => ?_)
            refine ok_call0 (inj' := am_jv) (by decide +kernel : decode m_C_name.2.1 45 = .ok ((.invokevirtual 188), 3)) rfl (fun q hq => am_iv0 (am_self_eq hq).1 rfl rfl rfl) (o_H_keep (d + 0) (v14) (v16) r11.1) (fun _ _ => rfl) (fun r18 h19 => ?_)
            refine ok_seg (L := [((.aload_n 0), 1)]) (pc' := 49) (ls' := [some (.ref x0), some (.int x1), some (.int x2)]) (st' := [.ref x0]) (w' := r18.1) (by decide +kernel) rfl ?_
            refine ok_gr (by decide +kernel : decode m_C_name.2.1 49 = .ok ((.getfield 19), 3)) rfl (by decide) (fun v20 h21 => ?_)
            refine ok_seg (L := [((.iload_n 1), 1), ((.iload_n 2), 1)]) (pc' := 54) (ls' := [some (.ref x0), some (.int x1), some (.int x2)]) (st' := [.int x2, .int x1, .ref v20]) (w' := r18.1) (by decide +kernel) rfl ?_
            refine ok_call0 (inj' := am_jv) (by decide +kernel : decode m_C_name.2.1 54 = .ok ((.invokevirtual 220), 3)) rfl (fun q hq => am_iv0 (am_self_eq hq).1 rfl rfl rfl) (o_G_exchangeColours (d + 3) (v20) (x1) (x2) r18.1) (fun _ _ => rfl) (fun r22 h23 => ?_)
            refine ok_seg (L := [((.aload_n 0), 1)]) (pc' := 58) (ls' := [some (.ref x0), some (.int x1), some (.int x2)]) (st' := [.ref x0]) (w' := r22.1) (by decide +kernel) rfl ?_
            refine ok_gr (by decide +kernel : decode m_C_name.2.1 58 = .ok ((.getfield 19), 3)) rfl (by decide) (fun v24 h25 => ?_)
            refine ok_seg (L := [((.iload_n 1), 1)]) (pc' := 62) (ls' := [some (.ref x0), some (.int x1), some (.int x2)]) (st' := [.int x1, .ref v24]) (w' := r22.1) (by decide +kernel) rfl ?_
            refine ok_call0 (inj' := am_jj) (by decide +kernel : decode m_C_name.2.1 62 = .ok ((.invokevirtual 104), 3)) rfl (fun q hq => am_iv0 (am_self_eq hq).1 rfl rfl rfl) (o_G_cellsOf (d + 3) (v24) (x1) r22.1) (fun _ _ => rfl) (fun r26 h27 => ?_)
            refine ok_seg (L := [((.aload_n 0), 1)]) (pc' := 66) (ls' := [some (.ref x0), some (.int x1), some (.int x2)]) (st' := [.ref x0, .long r26.2]) (w' := r26.1) (by decide +kernel) rfl ?_
            refine ok_gr (by decide +kernel : decode m_C_name.2.1 66 = .ok ((.getfield 19), 3)) rfl (by decide) (fun v28 h29 => ?_)
            refine ok_seg (L := [((.iload_n 2), 1)]) (pc' := 70) (ls' := [some (.ref x0), some (.int x1), some (.int x2)]) (st' := [.int x2, .ref v28, .long r26.2]) (w' := r26.1) (by decide +kernel) rfl ?_
            refine ok_call0 (inj' := am_jj) (by decide +kernel : decode m_C_name.2.1 70 = .ok ((.invokevirtual 104), 3)) rfl (fun q hq => am_iv0 (am_self_eq hq).1 rfl rfl rfl) (o_G_cellsOf (d + 3) (v28) (x2) r26.1) (fun _ _ => rfl) (fun r30 h31 => ?_)
            refine ok_seg (L := [(.lor, 1)]) (pc' := 74) (ls' := [some (.ref x0), some (.int x1), some (.int x2)]) (st' := [.long (r26.2 ||| r30.2)]) (w' := r30.1) (by decide +kernel) rfl ?_
            refine ok_call0 (inj' := am_ji) (by decide +kernel : decode m_C_name.2.1 74 = .ok ((.invokestatic 108), 3)) rfl (fun _ _ => rfl) (o_J_bitCount (d + 3) ((r26.2 ||| r30.2)) r30.1) (fun _ _ => rfl) (fun r32 h33 => ?_)
            exact ok_ret (v := r32.2) (by decide +kernel : decode m_C_name.2.1 77 = .ok (.ireturn, 1)) rfl
          · skip
            exact o_C_name_p35 (some (.ref x0)) (some (.int x1)) (some (.int x2)) r11.1
-- m_C_turn
def f_C_turn_p77 (k64 : Nat → Int32 → am_W → Option (am_W × Int32)) : Nat → Nat → Int32 → Int32 → am_W → Option (am_W × Int32)
  | 0, _, _, _, _ => none
  | n + 1, x0, x1, x2, w => ((am_gr w x0 0 2).bind fun v1 => ((f_G_wide (v1) w).bind fun r3 => (if r3.2 ≤ x2 then (k64 x0 (x1 + 1) r3.1) else ((am_gr r3.1 x0 0 1).bind fun v6 => ((am_gr r3.1 x0 0 1).bind fun v8 => ((f_G_cellAt (v8) (x2) (x1) r3.1).bind fun r10 => ((am_gr r10.1 x0 0 2).bind fun v12 => ((am_gr r10.1 x0 0 2).bind fun v14 => ((f_G_cellAt (v14) (x1) (x2) r10.1).bind fun r16 => ((f_G_colourOf (v12) (r16.2) r16.1).bind fun r18 => ((f_G_put (v6) (r10.2) (r18.2) r18.1).bind fun r20 => (f_C_turn_p77 k64 n x0 x1 (x2 + 1) r20.1))))))))))))
def f_C_turn_p64 : Nat → Nat → Int32 → am_W → Option (am_W × Int32)
  | 0, _, _, _ => none
  | n + 1, x0, x1, w => ((am_gr w x0 0 2).bind fun v22 => ((f_G_high (v22) w).bind fun r24 => (if r24.2 ≤ x1 then ((am_gr r24.1 x0 0 1).bind fun v27 => ((f_G_high (v27) r24.1).bind fun r29 => (some (r29.1, r29.2)))) else (f_C_turn_p77 (f_C_turn_p64 n) am_N x0 x1 0 r24.1))))
def e_C_turn (x0 : Nat) (w : am_W) : Option (am_W × Int32) := ((am_gr w x0 0 1).bind fun v31 => ((f_G_exists (v31) w).bind fun r33 => (if ¬ r33.2 = 0 then ((am_gr r33.1 x0 0 5).bind fun v36 => ((am_gr r33.1 x0 0 1).bind fun v38 => ((f_H_keep (v36) (v38) r33.1).bind fun r40 => ((am_gr r40.1 x0 0 2).bind fun v42 => ((am_gr r40.1 x0 0 1).bind fun v44 => ((f_G_copy (v42) (v44) r40.1).bind fun r46 => ((am_gr r46.1 x0 0 1).bind fun v48 => ((am_gr r46.1 x0 0 2).bind fun v50 => ((f_G_wide (v50) r46.1).bind fun r52 => ((am_gr r52.1 x0 0 2).bind fun v54 => ((f_G_high (v54) r52.1).bind fun r56 => ((am_gr r56.1 x0 0 2).bind fun v58 => ((f_G_shades (v58) r56.1).bind fun r60 => ((f_G_start (v48) (r52.2) (r56.2) (r60.2) r60.1).bind fun r62 => (f_C_turn_p64 am_N x0 0 r62.1))))))))))))))) else (some (r33.1, (-1))))))
def f_C_turn (x0 : Nat) (w : am_W) : Option (am_W × Int32) := am_self w x0 0 (e_C_turn x0 w)
theorem o_C_turn_p77 {d : Nat} {k64 : Nat → Int32 → am_W → Option (am_W × Int32)} (hk64 : ∀ (x0 : Nat) (x1 : Int32) (y2 : Option Value) (w : am_W), am_Ok am_ji (d + 4) m_C_turn 64 [some (.ref x0), some (.int x1), y2] [] w (k64 x0 x1 w)) : ∀ (n : Nat) (x0 : Nat) (x1 : Int32) (x2 : Int32) (w : am_W), am_Ok am_ji (d + 4) m_C_turn 77 [some (.ref x0), some (.int x1), some (.int x2)] [] w (f_C_turn_p77 k64 n x0 x1 x2 w) := by
  intro n
  induction n with
  | zero => intros; exact ok_none
  | succ n ih =>
    intro x0 x1 x2 w
    unfold f_C_turn_p77
    refine ok_seg (L := [((.iload_n 2), 1), ((.aload_n 0), 1)]) (pc' := 79) (ls' := [some (.ref x0), some (.int x1), some (.int x2)]) (st' := [.ref x0, .int x2]) (w' := w) (by decide +kernel) rfl ?_
    refine ok_gr (by decide +kernel : decode m_C_turn.2.1 79 = .ok ((.getfield 23), 3)) rfl (by decide) (fun v1 h2 => ?_)
    refine ok_call0 (inj' := am_ji) (by decide +kernel : decode m_C_turn.2.1 82 = .ok ((.invokevirtual 98), 3)) rfl (fun q hq => am_iv0 (am_self_eq hq).1 rfl rfl rfl) (o_G_wide (d + 3) (v1) w) (fun _ _ => rfl) (fun r3 h4 => ?_)
    refine ok_br (P := r3.2 ≤ x2) (off := 41) (t := 126) (by decide +kernel : decode m_C_turn.2.1 85 = .ok ((.if_icmp .ge 41), 3)) rfl rfl rfl rfl (fun c5 => ?_) (fun c5 => ?_)
    · skip
      refine ok_seg (L := [((.iinc 1 1), 3)]) (pc' := 129) (ls' := [some (.ref x0), some (.int (x1 + 1)), some (.int x2)]) (st' := []) (w' := r3.1) (by decide +kernel) rfl ?_
      refine ok_goto (t := 64) (by decide +kernel : decode m_C_turn.2.1 129 = .ok ((.goto (-65)), 3)) rfl ?_
      exact hk64 x0 (x1 + 1) (some (.int x2)) r3.1
    · skip
      refine ok_seg (L := [((.aload_n 0), 1)]) (pc' := 89) (ls' := [some (.ref x0), some (.int x1), some (.int x2)]) (st' := [.ref x0]) (w' := r3.1) (by decide +kernel) rfl ?_
      refine ok_gr (by decide +kernel : decode m_C_turn.2.1 89 = .ok ((.getfield 19), 3)) rfl (by decide) (fun v6 h7 => ?_)
      refine ok_seg (L := [((.aload_n 0), 1)]) (pc' := 93) (ls' := [some (.ref x0), some (.int x1), some (.int x2)]) (st' := [.ref x0, .ref v6]) (w' := r3.1) (by decide +kernel) rfl ?_
      refine ok_gr (by decide +kernel : decode m_C_turn.2.1 93 = .ok ((.getfield 19), 3)) rfl (by decide) (fun v8 h9 => ?_)
      refine ok_seg (L := [((.iload_n 2), 1), ((.iload_n 1), 1)]) (pc' := 98) (ls' := [some (.ref x0), some (.int x1), some (.int x2)]) (st' := [.int x1, .int x2, .ref v8, .ref v6]) (w' := r3.1) (by decide +kernel) rfl ?_
      refine ok_call0 (inj' := am_ji) (by decide +kernel : decode m_C_turn.2.1 98 = .ok ((.invokevirtual 214), 3)) rfl (fun q hq => am_iv0 (am_self_eq hq).1 rfl rfl rfl) (o_G_cellAt (d + 3) (v8) (x2) (x1) r3.1) (fun _ _ => rfl) (fun r10 h11 => ?_)
      refine ok_seg (L := [((.aload_n 0), 1)]) (pc' := 102) (ls' := [some (.ref x0), some (.int x1), some (.int x2)]) (st' := [.ref x0, .int r10.2, .ref v6]) (w' := r10.1) (by decide +kernel) rfl ?_
      refine ok_gr (by decide +kernel : decode m_C_turn.2.1 102 = .ok ((.getfield 23), 3)) rfl (by decide) (fun v12 h13 => ?_)
      refine ok_seg (L := [((.aload_n 0), 1)]) (pc' := 106) (ls' := [some (.ref x0), some (.int x1), some (.int x2)]) (st' := [.ref x0, .ref v12, .int r10.2, .ref v6]) (w' := r10.1) (by decide +kernel) rfl ?_
      refine ok_gr (by decide +kernel : decode m_C_turn.2.1 106 = .ok ((.getfield 23), 3)) rfl (by decide) (fun v14 h15 => ?_)
      refine ok_seg (L := [((.iload_n 1), 1), ((.iload_n 2), 1)]) (pc' := 111) (ls' := [some (.ref x0), some (.int x1), some (.int x2)]) (st' := [.int x2, .int x1, .ref v14, .ref v12, .int r10.2, .ref v6]) (w' := r10.1) (by decide +kernel) rfl ?_
      refine ok_call0 (inj' := am_ji) (by decide +kernel : decode m_C_turn.2.1 111 = .ok ((.invokevirtual 214), 3)) rfl (fun q hq => am_iv0 (am_self_eq hq).1 rfl rfl rfl) (o_G_cellAt (d + 3) (v14) (x1) (x2) r10.1) (fun _ _ => rfl) (fun r16 h17 => ?_)
      refine ok_call0 (inj' := am_ji) (by decide +kernel : decode m_C_turn.2.1 114 = .ok ((.invokevirtual 124), 3)) rfl (fun q hq => am_iv0 (am_self_eq hq).1 rfl rfl rfl) (o_G_colourOf (d + 2) (v12) (r16.2) r16.1) (fun _ _ => rfl) (fun r18 h19 => ?_)
      refine ok_call0 (inj' := am_jv) (by decide +kernel : decode m_C_turn.2.1 117 = .ok ((.invokevirtual 206), 3)) rfl (fun q hq => am_iv0 (am_self_eq hq).1 rfl rfl rfl) (o_G_put (d + 2) (v6) (r10.2) (r18.2) r18.1) (fun _ _ => rfl) (fun r20 h21 => ?_)
      refine ok_seg (L := [((.iinc 2 1), 3)]) (pc' := 123) (ls' := [some (.ref x0), some (.int x1), some (.int (x2 + 1))]) (st' := []) (w' := r20.1) (by decide +kernel) rfl ?_
      refine ok_goto (t := 77) (by decide +kernel : decode m_C_turn.2.1 123 = .ok ((.goto (-46)), 3)) rfl ?_
      exact ih x0 x1 (x2 + 1) r20.1
theorem o_C_turn_p64 {d : Nat} : ∀ (n : Nat) (x0 : Nat) (x1 : Int32) (y2 : Option Value) (w : am_W), am_Ok am_ji (d + 4) m_C_turn 64 [some (.ref x0), some (.int x1), y2] [] w (f_C_turn_p64 n x0 x1 w) := by
  intro n
  induction n with
  | zero => intros; exact ok_none
  | succ n ih =>
    intro x0 x1 y2 w
    unfold f_C_turn_p64
    refine ok_seg (L := [((.iload_n 1), 1), ((.aload_n 0), 1)]) (pc' := 66) (ls' := [some (.ref x0), some (.int x1), y2]) (st' := [.ref x0, .int x1]) (w' := w) (by decide +kernel) rfl ?_
    refine ok_gr (by decide +kernel : decode m_C_turn.2.1 66 = .ok ((.getfield 23), 3)) rfl (by decide) (fun v22 h23 => ?_)
    refine ok_call0 (inj' := am_ji) (by decide +kernel : decode m_C_turn.2.1 69 = .ok ((.invokevirtual 95), 3)) rfl (fun q hq => am_iv0 (am_self_eq hq).1 rfl rfl rfl) (o_G_high (d + 3) (v22) w) (fun _ _ => rfl) (fun r24 h25 => ?_)
    refine ok_br (P := r24.2 ≤ x1) (off := 60) (t := 132) (by decide +kernel : decode m_C_turn.2.1 72 = .ok ((.if_icmp .ge 60), 3)) rfl rfl rfl rfl (fun c26 => ?_) (fun c26 => ?_)
    · skip
      refine ok_seg (L := [((.aload_n 0), 1)]) (pc' := 133) (ls' := [some (.ref x0), some (.int x1), y2]) (st' := [.ref x0]) (w' := r24.1) (by decide +kernel) rfl ?_
      refine ok_gr (by decide +kernel : decode m_C_turn.2.1 133 = .ok ((.getfield 19), 3)) rfl (by decide) (fun v27 h28 => ?_)
      refine ok_call0 (inj' := am_ji) (by decide +kernel : decode m_C_turn.2.1 136 = .ok ((.invokevirtual 95), 3)) rfl (fun q hq => am_iv0 (am_self_eq hq).1 rfl rfl rfl) (o_G_high (d + 3) (v27) r24.1) (fun _ _ => rfl) (fun r29 h30 => ?_)
      exact ok_ret (v := r29.2) (by decide +kernel : decode m_C_turn.2.1 139 = .ok (.ireturn, 1)) rfl
    · skip
      refine ok_seg (L := [((.iconst 0), 1), ((.istore_n 2), 1)]) (pc' := 77) (ls' := [some (.ref x0), some (.int x1), some (.int 0)]) (st' := []) (w' := r24.1) (by decide +kernel) rfl ?_
      exact o_C_turn_p77 ih am_N x0 x1 0 r24.1
theorem o_C_turn (d : Nat) (x0 : Nat) (w : am_W) : am_Ok am_ji (d + 4) m_C_turn 0 (am_en m_C_turn [.ref x0]) [] w (f_C_turn x0 w) := by
  show am_Ok _ _ _ 0 [some (.ref x0), none, none] [] w _
  unfold f_C_turn
  refine ok_self ?_
  unfold e_C_turn
  refine ok_seg (L := [((.aload_n 0), 1)]) (pc' := 1) (ls' := [some (.ref x0), none, none]) (st' := [.ref x0]) (w' := w) (by decide +kernel) rfl ?_
  refine ok_gr (by decide +kernel : decode m_C_turn.2.1 1 = .ok ((.getfield 19), 3)) rfl (by decide) (fun v31 h32 => ?_)
  refine ok_call0 (inj' := am_ji) (by decide +kernel : decode m_C_turn.2.1 4 = .ok ((.invokevirtual 170), 3)) rfl (fun q hq => am_iv0 (am_self_eq hq).1 rfl rfl rfl) (o_G_exists (d + 3) (v31) w) (fun _ _ => rfl) (fun r33 h34 => ?_)
  refine ok_br (P := ¬ r33.2 = 0) (off := 5) (t := 12) (by decide +kernel : decode m_C_turn.2.1 7 = .ok ((.ifCond .ne 5), 3)) rfl rfl rfl rfl (fun c35 => ?_) (fun c35 => ?_)
  · skip
    refine ok_seg (L := [((.aload_n 0), 1)]) (pc' := 13) (ls' := [some (.ref x0), none, none]) (st' := [.ref x0]) (w' := r33.1) (by decide +kernel) rfl ?_
    refine ok_gr (by decide +kernel : decode m_C_turn.2.1 13 = .ok ((.getfield 43), 3)) rfl (by decide) (fun v36 h37 => ?_)
    refine ok_seg (L := [((.aload_n 0), 1)]) (pc' := 17) (ls' := [some (.ref x0), none, none]) (st' := [.ref x0, .ref v36]) (w' := r33.1) (by decide +kernel) rfl ?_
    refine ok_gr (by decide +kernel : decode m_C_turn.2.1 17 = .ok ((.getfield 19), 3)) rfl (by decide) (fun v38 h39 => ?_)
    refine ok_call0 (inj' := am_jv) (by decide +kernel : decode m_C_turn.2.1 20 = .ok ((.invokevirtual 188), 3)) rfl (fun q hq => am_iv0 (am_self_eq hq).1 rfl rfl rfl) (o_H_keep (d + 0) (v36) (v38) r33.1) (fun _ _ => rfl) (fun r40 h41 => ?_)
    refine ok_seg (L := [((.aload_n 0), 1)]) (pc' := 24) (ls' := [some (.ref x0), none, none]) (st' := [.ref x0]) (w' := r40.1) (by decide +kernel) rfl ?_
    refine ok_gr (by decide +kernel : decode m_C_turn.2.1 24 = .ok ((.getfield 23), 3)) rfl (by decide) (fun v42 h43 => ?_)
    refine ok_seg (L := [((.aload_n 0), 1)]) (pc' := 28) (ls' := [some (.ref x0), none, none]) (st' := [.ref x0, .ref v42]) (w' := r40.1) (by decide +kernel) rfl ?_
    refine ok_gr (by decide +kernel : decode m_C_turn.2.1 28 = .ok ((.getfield 19), 3)) rfl (by decide) (fun v44 h45 => ?_)
    refine ok_call0 (inj' := am_jv) (by decide +kernel : decode m_C_turn.2.1 31 = .ok ((.invokevirtual 85), 3)) rfl (fun q hq => am_iv0 (am_self_eq hq).1 rfl rfl rfl) (o_G_copy (d + 2) (v42) (v44) r40.1) (fun _ _ => rfl) (fun r46 h47 => ?_)
    refine ok_seg (L := [((.aload_n 0), 1)]) (pc' := 35) (ls' := [some (.ref x0), none, none]) (st' := [.ref x0]) (w' := r46.1) (by decide +kernel) rfl ?_
    refine ok_gr (by decide +kernel : decode m_C_turn.2.1 35 = .ok ((.getfield 19), 3)) rfl (by decide) (fun v48 h49 => ?_)
    refine ok_seg (L := [((.aload_n 0), 1)]) (pc' := 39) (ls' := [some (.ref x0), none, none]) (st' := [.ref x0, .ref v48]) (w' := r46.1) (by decide +kernel) rfl ?_
    refine ok_gr (by decide +kernel : decode m_C_turn.2.1 39 = .ok ((.getfield 23), 3)) rfl (by decide) (fun v50 h51 => ?_)
    refine ok_call0 (inj' := am_ji) (by decide +kernel : decode m_C_turn.2.1 42 = .ok ((.invokevirtual 98), 3)) rfl (fun q hq => am_iv0 (am_self_eq hq).1 rfl rfl rfl) (o_G_wide (d + 3) (v50) r46.1) (fun _ _ => rfl) (fun r52 h53 => ?_)
    refine ok_seg (L := [((.aload_n 0), 1)]) (pc' := 46) (ls' := [some (.ref x0), none, none]) (st' := [.ref x0, .int r52.2, .ref v48]) (w' := r52.1) (by decide +kernel) rfl ?_
    refine ok_gr (by decide +kernel : decode m_C_turn.2.1 46 = .ok ((.getfield 23), 3)) rfl (by decide) (fun v54 h55 => ?_)
    refine ok_call0 (inj' := am_ji) (by decide +kernel : decode m_C_turn.2.1 49 = .ok ((.invokevirtual 95), 3)) rfl (fun q hq => am_iv0 (am_self_eq hq).1 rfl rfl rfl) (o_G_high (d + 3) (v54) r52.1) (fun _ _ => rfl) (fun r56 h57 => ?_)
    refine ok_seg (L := [((.aload_n 0), 1)]) (pc' := 53) (ls' := [some (.ref x0), none, none]) (st' := [.ref x0, .int r56.2, .int r52.2, .ref v48]) (w' := r56.1) (by decide +kernel) rfl ?_
    refine ok_gr (by decide +kernel : decode m_C_turn.2.1 53 = .ok ((.getfield 23), 3)) rfl (by decide) (fun v58 h59 => ?_)
    refine ok_call0 (inj' := am_ji) (by decide +kernel : decode m_C_turn.2.1 56 = .ok ((.invokevirtual 101), 3)) rfl (fun q hq => am_iv0 (am_self_eq hq).1 rfl rfl rfl) (o_G_shades (d + 3) (v58) r56.1) (fun _ _ => rfl) (fun r60 h61 => ?_)
    refine ok_call0 (inj' := am_jv) (by decide +kernel : decode m_C_turn.2.1 59 = .ok ((.invokevirtual 223), 3)) rfl (fun q hq => am_iv0 (am_self_eq hq).1 rfl rfl rfl) (o_G_start (d + 2) (v48) (r52.2) (r56.2) (r60.2) r60.1) (fun _ _ => rfl) (fun r62 h63 => ?_)
    refine ok_seg (L := [((.iconst 0), 1), ((.istore_n 1), 1)]) (pc' := 64) (ls' := [some (.ref x0), some (.int 0), none]) (st' := []) (w' := r62.1) (by decide +kernel) rfl ?_
    exact o_C_turn_p64 am_N x0 0 none r62.1
  · skip
    refine ok_seg (L := [((.iconst (-1)), 1)]) (pc' := 11) (ls' := [some (.ref x0), none, none]) (st' := [.int (-1)]) (w' := r33.1) (by decide +kernel) rfl ?_
    exact ok_ret (v := (-1)) (by decide +kernel : decode m_C_turn.2.1 11 = .ok (.ireturn, 1)) rfl
-- m_C_drawOf
def f_C_drawOf_p14 (s0 : Int32) (w : am_W) : Option (am_W × Int32) := (some (w, s0))
def e_C_drawOf (x0 : Int32) (x1 : Int32) (w : am_W) : Option (am_W × Int32) := (if x1 ≤ 0 then (f_C_drawOf_p14 0 w) else (if x1 = 0 then none else (f_C_drawOf_p14 ((am_iu x0 8) - (am_iu x0 8) / x1 * x1) w)))
def f_C_drawOf (x0 : Int32) (x1 : Int32) (w : am_W) : Option (am_W × Int32) := e_C_drawOf x0 x1 w
theorem o_C_drawOf_p14 {d : Nat} (s0 : Int32) (y0 y1 : Option Value) (w : am_W) : am_Ok am_ji (d + 0) m_C_drawOf 14 [y0, y1] [.int s0] w (f_C_drawOf_p14 s0 w) := by
  unfold f_C_drawOf_p14
  exact ok_ret (v := s0) (by decide +kernel : decode m_C_drawOf.2.1 14 = .ok (.ireturn, 1)) rfl
theorem o_C_drawOf (d : Nat) (x0 : Int32) (x1 : Int32) (w : am_W) : am_Ok am_ji (d + 0) m_C_drawOf 0 (am_en m_C_drawOf [.int x0, .int x1]) [] w (f_C_drawOf x0 x1 w) := by
  show am_Ok _ _ _ 0 [some (.int x0), some (.int x1)] [] w _
  unfold f_C_drawOf
  unfold e_C_drawOf
  refine ok_seg (L := [((.iload_n 1), 1)]) (pc' := 1) (ls' := [some (.int x0), some (.int x1)]) (st' := [.int x1]) (w' := w) (by decide +kernel) rfl ?_
  refine ok_br (P := x1 ≤ 0) (off := 12) (t := 13) (by decide +kernel : decode m_C_drawOf.2.1 1 = .ok ((.ifCond .le 12), 3)) rfl rfl rfl rfl (fun c1 => ?_) (fun c1 => ?_)
  · skip
    refine ok_seg (L := [((.iconst 0), 1)]) (pc' := 14) (ls' := [some (.int x0), some (.int x1)]) (st' := [.int 0]) (w' := w) (by decide +kernel) rfl ?_
    exact o_C_drawOf_p14 0 (some (.int x0)) (some (.int x1)) w
  · skip
    refine ok_seg (L := [((.iload_n 0), 1), ((.bipush 8), 2), (.iushr, 1), ((.iload_n 1), 1)]) (pc' := 9) (ls' := [some (.int x0), some (.int x1)]) (st' := [.int x1, .int (am_iu x0 8)]) (w' := w) (by decide +kernel) rfl ?_
    refine ok_rem (by decide +kernel : decode m_C_drawOf.2.1 9 = .ok (.irem, 1)) (fun c2 => ?_)
    refine ok_goto (t := 14) (by decide +kernel : decode m_C_drawOf.2.1 10 = .ok ((.goto 4), 3)) rfl ?_
    exact o_C_drawOf_p14 ((am_iu x0 8) - (am_iu x0 8) / x1 * x1) (some (.int x0)) (some (.int x1)) w
-- m_C_nextState
def e_C_nextState (x0 : Int32) (w : am_W) : Option (am_W × Int32) := (some (w, ((x0 * 1103515245) + 12345)))
def f_C_nextState (x0 : Int32) (w : am_W) : Option (am_W × Int32) := e_C_nextState x0 w
theorem o_C_nextState (d : Nat) (x0 : Int32) (w : am_W) : am_Ok am_ji (d + 0) m_C_nextState 0 (am_en m_C_nextState [.int x0]) [] w (f_C_nextState x0 w) := by
  show am_Ok _ _ _ 0 [some (.int x0)] [] w _
  unfold f_C_nextState
  unfold e_C_nextState
  refine ok_seg (L := [((.iload_n 0), 1), ((.ldc_w 268), 3), (.imul, 1), ((.sipush 12345), 3), (.iadd, 1)]) (pc' := 9) (ls' := [some (.int x0)]) (st' := [.int ((x0 * 1103515245) + 12345)]) (w' := w) (by decide +kernel) rfl ?_
  exact ok_ret (v := ((x0 * 1103515245) + 12345)) (by decide +kernel : decode m_C_nextState.2.1 9 = .ok (.ireturn, 1)) rfl
-- m_C_drawOn
def f_C_drawOn_p94 (k17 : Nat → Int32 → Int32 → Int32 → Int32 → am_W → Option (am_W × Int32)) (x0 : Nat) (x1 : Int32) (x3 : Int32) (x4 : Int32) (x5 : Int32) (w : am_W) : Option (am_W × Int32) := (k17 x0 x1 x3 x4 (x5 + 1) w)
def f_C_drawOn_p17 : Nat → Nat → Int32 → Int32 → Int32 → Int32 → am_W → Option (am_W × Int32)
  | 0, _, _, _, _, _, _ => none
  | n + 1, x0, x1, x3, x4, x5, w => (if x1 ≤ x5 then (some (w, x3)) else ((f_C_nextState (x4) w).bind fun r2 => ((f_G_size (x0) r2.1).bind fun r4 => ((f_C_drawOf (r2.2) (r4.2) r4.1).bind fun r6 => ((f_C_nextState (r2.2) r6.1).bind fun r8 => ((f_G_shades (x0) r8.1).bind fun r10 => ((f_C_drawOf (r8.2) ((r10.2 + 1)) r10.1).bind fun r12 => ((f_G_colourOf (x0) (r6.2) r12.1).bind fun r14 => (if r14.2 = r12.2 then (f_C_drawOn_p94 (f_C_drawOn_p17 n) x0 x1 x3 r8.2 x5 r14.1) else ((f_G_countThrough (x0) (r6.2) (r12.2) r14.1).bind fun r17 => (if ¬ r17.2 = 0 then (f_C_drawOn_p94 (f_C_drawOn_p17 n) x0 x1 x3 r8.2 x5 r17.1) else ((f_G_put (x0) (r6.2) (r12.2) r17.1).bind fun r20 => (f_C_drawOn_p94 (f_C_drawOn_p17 n) x0 x1 (x3 + 1) r8.2 x5 r20.1)))))))))))))
def e_C_drawOn (x0 : Nat) (x1 : Int32) (x2 : Int32) (w : am_W) : Option (am_W × Int32) := ((f_G_exists (x0) w).bind fun r22 => (if ¬ r22.2 = 0 then (f_C_drawOn_p17 am_N x0 x1 0 x2 0 r22.1) else (some (r22.1, 0))))
def f_C_drawOn (x0 : Nat) (x1 : Int32) (x2 : Int32) (w : am_W) : Option (am_W × Int32) := e_C_drawOn x0 x1 x2 w
theorem o_C_drawOn_p94 {d : Nat} {k17 : Nat → Int32 → Int32 → Int32 → Int32 → am_W → Option (am_W × Int32)} (hk17 : ∀ (x0 : Nat) (x1 : Int32) (x3 : Int32) (x4 : Int32) (x5 : Int32) (y2 y6 y7 : Option Value) (w : am_W), am_Ok am_ji (d + 2) m_C_drawOn 17 [some (.ref x0), some (.int x1), y2, some (.int x3), some (.int x4), some (.int x5), y6, y7] [] w (k17 x0 x1 x3 x4 x5 w)) (x0 : Nat) (x1 : Int32) (x3 : Int32) (x4 : Int32) (x5 : Int32) (y2 y6 y7 : Option Value) (w : am_W) : am_Ok am_ji (d + 2) m_C_drawOn 94 [some (.ref x0), some (.int x1), y2, some (.int x3), some (.int x4), some (.int x5), y6, y7] [] w (f_C_drawOn_p94 k17 x0 x1 x3 x4 x5 w) := by
  unfold f_C_drawOn_p94
  refine ok_seg (L := [((.iinc 5 1), 3)]) (pc' := 97) (ls' := [some (.ref x0), some (.int x1), y2, some (.int x3), some (.int x4), some (.int (x5 + 1)), y6, y7]) (st' := []) (w' := w) (by decide +kernel) rfl ?_
  refine ok_goto (t := 17) (by decide +kernel : decode m_C_drawOn.2.1 97 = .ok ((.goto (-80)), 3)) rfl ?_
  exact hk17 x0 x1 x3 x4 (x5 + 1) y2 y6 y7 w
theorem o_C_drawOn_p17 {d : Nat} : ∀ (n : Nat) (x0 : Nat) (x1 : Int32) (x3 : Int32) (x4 : Int32) (x5 : Int32) (y2 y6 y7 : Option Value) (w : am_W), am_Ok am_ji (d + 2) m_C_drawOn 17 [some (.ref x0), some (.int x1), y2, some (.int x3), some (.int x4), some (.int x5), y6, y7] [] w (f_C_drawOn_p17 n x0 x1 x3 x4 x5 w) := by
  intro n
  induction n with
  | zero => intros; exact ok_none
  | succ n ih =>
    intro x0 x1 x3 x4 x5 y2 y6 y7 w
    unfold f_C_drawOn_p17
    refine ok_seg (L := [((.iload 5), 2), ((.iload_n 1), 1)]) (pc' := 20) (ls' := [some (.ref x0), some (.int x1), y2, some (.int x3), some (.int x4), some (.int x5), y6, y7]) (st' := [.int x1, .int x5]) (w' := w) (by decide +kernel) rfl ?_
    refine ok_br (P := x1 ≤ x5) (off := 80) (t := 100) (by decide +kernel : decode m_C_drawOn.2.1 20 = .ok ((.if_icmp .ge 80), 3)) rfl rfl rfl rfl (fun c1 => ?_) (fun c1 => ?_)
    · skip
      refine ok_seg (L := [((.iload_n 3), 1)]) (pc' := 101) (ls' := [some (.ref x0), some (.int x1), y2, some (.int x3), some (.int x4), some (.int x5), y6, y7]) (st' := [.int x3]) (w' := w) (by decide +kernel) rfl ?_
      exact ok_ret (v := x3) (by decide +kernel : decode m_C_drawOn.2.1 101 = .ok (.ireturn, 1)) rfl
    · skip
      refine ok_seg (L := [((.iload 4), 2)]) (pc' := 25) (ls' := [some (.ref x0), some (.int x1), y2, some (.int x3), some (.int x4), some (.int x5), y6, y7]) (st' := [.int x4]) (w' := w) (by decide +kernel) rfl ?_
      refine ok_call0 (inj' := am_ji) (by decide +kernel : decode m_C_drawOn.2.1 25 = .ok ((.invokestatic 262), 3)) rfl (fun _ _ => rfl) (o_C_nextState (d + 1) (x4) w) (fun _ _ => rfl) (fun r2 h3 => ?_)
      refine ok_seg (L := [((.istore 4), 2), ((.iload 4), 2), ((.aload_n 0), 1)]) (pc' := 33) (ls' := [some (.ref x0), some (.int x1), y2, some (.int x3), some (.int r2.2), some (.int x5), y6, y7]) (st' := [.ref x0, .int r2.2]) (w' := r2.1) (by decide +kernel) rfl ?_
      refine ok_call0 (inj' := am_ji) (by decide +kernel : decode m_C_drawOn.2.1 33 = .ok ((.invokevirtual 151), 3)) rfl (fun q hq => am_iv0 (am_self_eq hq).1 rfl rfl rfl) (o_G_size (d + 1) (x0) r2.1) (fun _ _ => rfl) (fun r4 h5 => ?_)
      refine ok_call0 (inj' := am_ji) (by decide +kernel : decode m_C_drawOn.2.1 36 = .ok ((.invokestatic 265), 3)) rfl (fun _ _ => rfl) (o_C_drawOf (d + 1) (r2.2) (r4.2) r4.1) (fun _ _ => rfl) (fun r6 h7 => ?_)
      refine ok_seg (L := [((.istore 6), 2), ((.iload 4), 2)]) (pc' := 43) (ls' := [some (.ref x0), some (.int x1), y2, some (.int x3), some (.int r2.2), some (.int x5), some (.int r6.2), y7]) (st' := [.int r2.2]) (w' := r6.1) (by decide +kernel) rfl ?_
      refine ok_call0 (inj' := am_ji) (by decide +kernel : decode m_C_drawOn.2.1 43 = .ok ((.invokestatic 262), 3)) rfl (fun _ _ => rfl) (o_C_nextState (d + 1) (r2.2) r6.1) (fun _ _ => rfl) (fun r8 h9 => ?_)
      refine ok_seg (L := [((.istore 4), 2), ((.iload 4), 2), ((.aload_n 0), 1)]) (pc' := 51) (ls' := [some (.ref x0), some (.int x1), y2, some (.int x3), some (.int r8.2), some (.int x5), some (.int r6.2), y7]) (st' := [.ref x0, .int r8.2]) (w' := r8.1) (by decide +kernel) rfl ?_
      refine ok_call0 (inj' := am_ji) (by decide +kernel : decode m_C_drawOn.2.1 51 = .ok ((.invokevirtual 101), 3)) rfl (fun q hq => am_iv0 (am_self_eq hq).1 rfl rfl rfl) (o_G_shades (d + 1) (x0) r8.1) (fun _ _ => rfl) (fun r10 h11 => ?_)
      refine ok_seg (L := [((.iconst 1), 1), (.iadd, 1)]) (pc' := 56) (ls' := [some (.ref x0), some (.int x1), y2, some (.int x3), some (.int r8.2), some (.int x5), some (.int r6.2), y7]) (st' := [.int (r10.2 + 1), .int r8.2]) (w' := r10.1) (by decide +kernel) rfl ?_
      refine ok_call0 (inj' := am_ji) (by decide +kernel : decode m_C_drawOn.2.1 56 = .ok ((.invokestatic 265), 3)) rfl (fun _ _ => rfl) (o_C_drawOf (d + 1) (r8.2) ((r10.2 + 1)) r10.1) (fun _ _ => rfl) (fun r12 h13 => ?_)
      refine ok_seg (L := [((.istore 7), 2), ((.aload_n 0), 1), ((.iload 6), 2)]) (pc' := 64) (ls' := [some (.ref x0), some (.int x1), y2, some (.int x3), some (.int r8.2), some (.int x5), some (.int r6.2), some (.int r12.2)]) (st' := [.int r6.2, .ref x0]) (w' := r12.1) (by decide +kernel) rfl ?_
      refine ok_call0 (inj' := am_ji) (by decide +kernel : decode m_C_drawOn.2.1 64 = .ok ((.invokevirtual 124), 3)) rfl (fun q hq => am_iv0 (am_self_eq hq).1 rfl rfl rfl) (o_G_colourOf (d + 0) (x0) (r6.2) r12.1) (fun _ _ => rfl) (fun r14 h15 => ?_)
      refine ok_seg (L := [((.iload 7), 2)]) (pc' := 69) (ls' := [some (.ref x0), some (.int x1), y2, some (.int x3), some (.int r8.2), some (.int x5), some (.int r6.2), some (.int r12.2)]) (st' := [.int r12.2, .int r14.2]) (w' := r14.1) (by decide +kernel) rfl ?_
      refine ok_br (P := r14.2 = r12.2) (off := 25) (t := 94) (by decide +kernel : decode m_C_drawOn.2.1 69 = .ok ((.if_icmp .eq 25), 3)) rfl rfl rfl rfl (fun c16 => ?_) (fun c16 => ?_)
      · skip
        exact o_C_drawOn_p94 ih x0 x1 x3 r8.2 x5 y2 (some (.int r6.2)) (some (.int r12.2)) r14.1
      · skip
        refine ok_seg (L := [((.aload_n 0), 1), ((.iload 6), 2), ((.iload 7), 2)]) (pc' := 77) (ls' := [some (.ref x0), some (.int x1), y2, some (.int x3), some (.int r8.2), some (.int x5), some (.int r6.2), some (.int r12.2)]) (st' := [.int r12.2, .int r6.2, .ref x0]) (w' := r14.1) (by decide +kernel) rfl ?_
        refine ok_call0 (inj' := am_ji) (by decide +kernel : decode m_C_drawOn.2.1 77 = .ok ((.invokevirtual 148), 3)) rfl (fun q hq => am_iv0 (am_self_eq hq).1 rfl rfl rfl) (o_G_countThrough (d + 0) (x0) (r6.2) (r12.2) r14.1) (fun _ _ => rfl) (fun r17 h18 => ?_)
        refine ok_br (P := ¬ r17.2 = 0) (off := 14) (t := 94) (by decide +kernel : decode m_C_drawOn.2.1 80 = .ok ((.ifCond .ne 14), 3)) rfl rfl rfl rfl (fun c19 => ?_) (fun c19 => ?_)
        · skip
          exact o_C_drawOn_p94 ih x0 x1 x3 r8.2 x5 y2 (some (.int r6.2)) (some (.int r12.2)) r17.1
        · skip
          refine ok_seg (L := [((.aload_n 0), 1), ((.iload 6), 2), ((.iload 7), 2)]) (pc' := 88) (ls' := [some (.ref x0), some (.int x1), y2, some (.int x3), some (.int r8.2), some (.int x5), some (.int r6.2), some (.int r12.2)]) (st' := [.int r12.2, .int r6.2, .ref x0]) (w' := r17.1) (by decide +kernel) rfl ?_
          refine ok_call0 (inj' := am_jv) (by decide +kernel : decode m_C_drawOn.2.1 88 = .ok ((.invokevirtual 206), 3)) rfl (fun q hq => am_iv0 (am_self_eq hq).1 rfl rfl rfl) (o_G_put (d + 0) (x0) (r6.2) (r12.2) r17.1) (fun _ _ => rfl) (fun r20 h21 => ?_)
          refine ok_seg (L := [((.iinc 3 1), 3)]) (pc' := 94) (ls' := [some (.ref x0), some (.int x1), y2, some (.int (x3 + 1)), some (.int r8.2), some (.int x5), some (.int r6.2), some (.int r12.2)]) (st' := []) (w' := r20.1) (by decide +kernel) rfl ?_
          exact o_C_drawOn_p94 ih x0 x1 (x3 + 1) r8.2 x5 y2 (some (.int r6.2)) (some (.int r12.2)) r20.1
theorem o_C_drawOn (d : Nat) (x0 : Nat) (x1 : Int32) (x2 : Int32) (w : am_W) : am_Ok am_ji (d + 2) m_C_drawOn 0 (am_en m_C_drawOn [.ref x0, .int x1, .int x2]) [] w (f_C_drawOn x0 x1 x2 w) := by
  show am_Ok _ _ _ 0 [some (.ref x0), some (.int x1), some (.int x2), none, none, none, none, none] [] w _
  unfold f_C_drawOn
  unfold e_C_drawOn
  refine ok_seg (L := [((.aload_n 0), 1)]) (pc' := 1) (ls' := [some (.ref x0), some (.int x1), some (.int x2), none, none, none, none, none]) (st' := [.ref x0]) (w' := w) (by decide +kernel) rfl ?_
  refine ok_call0 (inj' := am_ji) (by decide +kernel : decode m_C_drawOn.2.1 1 = .ok ((.invokevirtual 170), 3)) rfl (fun q hq => am_iv0 (am_self_eq hq).1 rfl rfl rfl) (o_G_exists (d + 1) (x0) w) (fun _ _ => rfl) (fun r22 h23 => ?_)
  refine ok_br (P := ¬ r22.2 = 0) (off := 5) (t := 9) (by decide +kernel : decode m_C_drawOn.2.1 4 = .ok ((.ifCond .ne 5), 3)) rfl rfl rfl rfl (fun c24 => ?_) (fun c24 => ?_)
  · skip
    refine ok_seg (L := [((.iconst 0), 1), ((.istore_n 3), 1), ((.iload_n 2), 1), ((.istore 4), 2), ((.iconst 0), 1), ((.istore 5), 2)]) (pc' := 17) (ls' := [some (.ref x0), some (.int x1), some (.int x2), some (.int 0), some (.int x2), some (.int 0), none, none]) (st' := []) (w' := r22.1) (by decide +kernel) rfl ?_
    exact o_C_drawOn_p17 am_N x0 x1 0 x2 0 (some (.int x2)) none none r22.1
  · skip
    refine ok_seg (L := [((.iconst 0), 1)]) (pc' := 8) (ls' := [some (.ref x0), some (.int x1), some (.int x2), none, none, none, none, none]) (st' := [.int 0]) (w' := r22.1) (by decide +kernel) rfl ?_
    exact ok_ret (v := 0) (by decide +kernel : decode m_C_drawOn.2.1 8 = .ok (.ireturn, 1)) rfl
-- m_C_drawn
def f_C_drawn_p11 (w : am_W) : Option (am_W × Int32) := (some (w, (-1)))
def f_C_drawn_p60 (x3 : Int32) (w : am_W) : Option (am_W × Int32) := (some (w, x3))
def e_C_drawn (x0 : Nat) (x1 : Int32) (x2 : Int32) (w : am_W) : Option (am_W × Int32) := (if x1 < 1 then (f_C_drawn_p11 w) else (if x1 ≤ 60 then ((am_gr w x0 0 2).bind fun v3 => ((am_gr w x0 0 1).bind fun v5 => ((f_G_copy (v3) (v5) w).bind fun r7 => ((am_gr r7.1 x0 0 2).bind fun v9 => ((f_C_drawOn (v9) (x1) (x2) r7.1).bind fun r11 => (if r11.2 ≤ 0 then (f_C_drawn_p60 r11.2 r11.1) else ((am_gr r11.1 x0 0 5).bind fun v14 => ((am_gr r11.1 x0 0 1).bind fun v16 => ((f_H_keep (v14) (v16) r11.1).bind fun r18 => ((am_gr r18.1 x0 0 1).bind fun v20 => ((am_gr r18.1 x0 0 2).bind fun v22 => ((f_G_copy (v20) (v22) r18.1).bind fun r24 => (f_C_drawn_p60 r11.2 r24.1))))))))))))) else (f_C_drawn_p11 w)))
def f_C_drawn (x0 : Nat) (x1 : Int32) (x2 : Int32) (w : am_W) : Option (am_W × Int32) := am_self w x0 0 (e_C_drawn x0 x1 x2 w)
theorem o_C_drawn_p11 {d : Nat} (y0 y1 y2 y3 : Option Value) (w : am_W) : am_Ok am_ji (d + 4) m_C_drawn 11 [y0, y1, y2, y3] [] w (f_C_drawn_p11 w) := by
  unfold f_C_drawn_p11
  refine ok_seg (L := [((.iconst (-1)), 1)]) (pc' := 12) (ls' := [y0, y1, y2, y3]) (st' := [.int (-1)]) (w' := w) (by decide +kernel) rfl ?_
  exact ok_ret (v := (-1)) (by decide +kernel : decode m_C_drawn.2.1 12 = .ok (.ireturn, 1)) rfl
theorem o_C_drawn_p60 {d : Nat} (x3 : Int32) (y0 y1 y2 : Option Value) (w : am_W) : am_Ok am_ji (d + 4) m_C_drawn 60 [y0, y1, y2, some (.int x3)] [] w (f_C_drawn_p60 x3 w) := by
  unfold f_C_drawn_p60
  refine ok_seg (L := [((.iload_n 3), 1)]) (pc' := 61) (ls' := [y0, y1, y2, some (.int x3)]) (st' := [.int x3]) (w' := w) (by decide +kernel) rfl ?_
  exact ok_ret (v := x3) (by decide +kernel : decode m_C_drawn.2.1 61 = .ok (.ireturn, 1)) rfl
theorem o_C_drawn (d : Nat) (x0 : Nat) (x1 : Int32) (x2 : Int32) (w : am_W) : am_Ok am_ji (d + 4) m_C_drawn 0 (am_en m_C_drawn [.ref x0, .int x1, .int x2]) [] w (f_C_drawn x0 x1 x2 w) := by
  show am_Ok _ _ _ 0 [some (.ref x0), some (.int x1), some (.int x2), none] [] w _
  unfold f_C_drawn
  refine ok_self ?_
  unfold e_C_drawn
  refine ok_seg (L := [((.iload_n 1), 1), ((.iconst 1), 1)]) (pc' := 2) (ls' := [some (.ref x0), some (.int x1), some (.int x2), none]) (st' := [.int 1, .int x1]) (w' := w) (by decide +kernel) rfl ?_
  refine ok_br (P := x1 < 1) (off := 9) (t := 11) (by decide +kernel : decode m_C_drawn.2.1 2 = .ok ((.if_icmp .lt 9), 3)) rfl rfl rfl rfl (fun c1 => ?_) (fun c1 => ?_)
  · skip
    exact o_C_drawn_p11 (some (.ref x0)) (some (.int x1)) (some (.int x2)) none w
  · skip
    refine ok_seg (L := [((.iload_n 1), 1), ((.bipush 60), 2)]) (pc' := 8) (ls' := [some (.ref x0), some (.int x1), some (.int x2), none]) (st' := [.int 60, .int x1]) (w' := w) (by decide +kernel) rfl ?_
    refine ok_br (P := x1 ≤ 60) (off := 5) (t := 13) (by decide +kernel : decode m_C_drawn.2.1 8 = .ok ((.if_icmp .le 5), 3)) rfl rfl rfl rfl (fun c2 => ?_) (fun c2 => ?_)
    · skip
      refine ok_seg (L := [((.aload_n 0), 1)]) (pc' := 14) (ls' := [some (.ref x0), some (.int x1), some (.int x2), none]) (st' := [.ref x0]) (w' := w) (by decide +kernel) rfl ?_
      refine ok_gr (by decide +kernel : decode m_C_drawn.2.1 14 = .ok ((.getfield 23), 3)) rfl (by decide) (fun v3 h4 => ?_)
      refine ok_seg (L := [((.aload_n 0), 1)]) (pc' := 18) (ls' := [some (.ref x0), some (.int x1), some (.int x2), none]) (st' := [.ref x0, .ref v3]) (w' := w) (by decide +kernel) rfl ?_
      refine ok_gr (by decide +kernel : decode m_C_drawn.2.1 18 = .ok ((.getfield 19), 3)) rfl (by decide) (fun v5 h6 => ?_)
      refine ok_call0 (inj' := am_jv) (by decide +kernel : decode m_C_drawn.2.1 21 = .ok ((.invokevirtual 85), 3)) rfl (fun q hq => am_iv0 (am_self_eq hq).1 rfl rfl rfl) (o_G_copy (d + 2) (v3) (v5) w) (fun _ _ => rfl) (fun r7 h8 => ?_)
      refine ok_seg (L := [((.aload_n 0), 1)]) (pc' := 25) (ls' := [some (.ref x0), some (.int x1), some (.int x2), none]) (st' := [.ref x0]) (w' := r7.1) (by decide +kernel) rfl ?_
      refine ok_gr (by decide +kernel : decode m_C_drawn.2.1 25 = .ok ((.getfield 23), 3)) rfl (by decide) (fun v9 h10 => ?_)
      refine ok_seg (L := [((.iload_n 1), 1), ((.iload_n 2), 1)]) (pc' := 30) (ls' := [some (.ref x0), some (.int x1), some (.int x2), none]) (st' := [.int x2, .int x1, .ref v9]) (w' := r7.1) (by decide +kernel) rfl ?_
      refine ok_call0 (inj' := am_ji) (by decide +kernel : decode m_C_drawn.2.1 30 = .ok ((.invokestatic 227), 3)) rfl (fun _ _ => rfl) (o_C_drawOn (d + 1) (v9) (x1) (x2) r7.1) (fun _ _ => rfl) (fun r11 h12 => ?_)
      refine ok_seg (L := [((.istore_n 3), 1), ((.iload_n 3), 1)]) (pc' := 35) (ls' := [some (.ref x0), some (.int x1), some (.int x2), some (.int r11.2)]) (st' := [.int r11.2]) (w' := r11.1) (by decide +kernel) rfl ?_
      refine ok_br (P := r11.2 ≤ 0) (off := 25) (t := 60) (by decide +kernel : decode m_C_drawn.2.1 35 = .ok ((.ifCond .le 25), 3)) rfl rfl rfl rfl (fun c13 => ?_) (fun c13 => ?_)
      · skip
        exact o_C_drawn_p60 r11.2 (some (.ref x0)) (some (.int x1)) (some (.int x2)) r11.1
      · skip
        refine ok_seg (L := [((.aload_n 0), 1)]) (pc' := 39) (ls' := [some (.ref x0), some (.int x1), some (.int x2), some (.int r11.2)]) (st' := [.ref x0]) (w' := r11.1) (by decide +kernel) rfl ?_
        refine ok_gr (by decide +kernel : decode m_C_drawn.2.1 39 = .ok ((.getfield 43), 3)) rfl (by decide) (fun v14 h15 => ?_)
        refine ok_seg (L := [((.aload_n 0), 1)]) (pc' := 43) (ls' := [some (.ref x0), some (.int x1), some (.int x2), some (.int r11.2)]) (st' := [.ref x0, .ref v14]) (w' := r11.1) (by decide +kernel) rfl ?_
        refine ok_gr (by decide +kernel : decode m_C_drawn.2.1 43 = .ok ((.getfield 19), 3)) rfl (by decide) (fun v16 h17 => ?_)
        refine ok_call0 (inj' := am_jv) (by decide +kernel : decode m_C_drawn.2.1 46 = .ok ((.invokevirtual 188), 3)) rfl (fun q hq => am_iv0 (am_self_eq hq).1 rfl rfl rfl) (o_H_keep (d + 0) (v14) (v16) r11.1) (fun _ _ => rfl) (fun r18 h19 => ?_)
        refine ok_seg (L := [((.aload_n 0), 1)]) (pc' := 50) (ls' := [some (.ref x0), some (.int x1), some (.int x2), some (.int r11.2)]) (st' := [.ref x0]) (w' := r18.1) (by decide +kernel) rfl ?_
        refine ok_gr (by decide +kernel : decode m_C_drawn.2.1 50 = .ok ((.getfield 19), 3)) rfl (by decide) (fun v20 h21 => ?_)
        refine ok_seg (L := [((.aload_n 0), 1)]) (pc' := 54) (ls' := [some (.ref x0), some (.int x1), some (.int x2), some (.int r11.2)]) (st' := [.ref x0, .ref v20]) (w' := r18.1) (by decide +kernel) rfl ?_
        refine ok_gr (by decide +kernel : decode m_C_drawn.2.1 54 = .ok ((.getfield 23), 3)) rfl (by decide) (fun v22 h23 => ?_)
        refine ok_call0 (inj' := am_jv) (by decide +kernel : decode m_C_drawn.2.1 57 = .ok ((.invokevirtual 85), 3)) rfl (fun q hq => am_iv0 (am_self_eq hq).1 rfl rfl rfl) (o_G_copy (d + 2) (v20) (v22) r18.1) (fun _ _ => rfl) (fun r24 h25 => ?_)
        exact o_C_drawn_p60 r11.2 (some (.ref x0)) (some (.int x1)) (some (.int x2)) r24.1
    · skip
      exact o_C_drawn_p11 (some (.ref x0)) (some (.int x1)) (some (.int x2)) none w
-- m_F_fetch
def f_F_fetch_p17 (w : am_W) : Option (am_W × Int32) := (some (w, 0))
def e_F_fetch (x0 : Nat) (x1 : Int32) (x2 : Nat) (w : am_W) : Option (am_W × Int32) := ((f_F_hasPlace (x0) (x1) w).bind fun r1 => (if r1.2 = 0 then (f_F_fetch_p17 r1.1) else ((am_gr r1.1 x0 5 1).bind fun v4 => ((am_az r1.1 v4 x1).bind fun v6 => (if ¬ v6 = 0 then ((am_gr r1.1 x0 5 0).bind fun v9 => ((am_ax r1.1 v9 x1).bind fun v11 => ((f_G_copy (x2) (v11) r1.1).bind fun r13 => (some (r13.1, 1))))) else (f_F_fetch_p17 r1.1))))))
def f_F_fetch (x0 : Nat) (x1 : Int32) (x2 : Nat) (w : am_W) : Option (am_W × Int32) := am_self w x0 5 (e_F_fetch x0 x1 x2 w)
theorem o_F_fetch_p17 {d : Nat} (y0 y1 y2 : Option Value) (w : am_W) : am_Ok am_ji (d + 2) m_F_fetch 17 [y0, y1, y2] [] w (f_F_fetch_p17 w) := by
  unfold f_F_fetch_p17
  refine ok_seg (L := [((.iconst 0), 1)]) (pc' := 18) (ls' := [y0, y1, y2]) (st' := [.int 0]) (w' := w) (by decide +kernel) rfl ?_
  exact ok_ret (v := 0) (by decide +kernel : decode m_F_fetch.2.1 18 = .ok (.ireturn, 1)) rfl
theorem o_F_fetch (d : Nat) (x0 : Nat) (x1 : Int32) (x2 : Nat) (w : am_W) : am_Ok am_ji (d + 2) m_F_fetch 0 (am_en m_F_fetch [.ref x0, .int x1, .ref x2]) [] w (f_F_fetch x0 x1 x2 w) := by
  show am_Ok _ _ _ 0 [some (.ref x0), some (.int x1), some (.ref x2)] [] w _
  unfold f_F_fetch
  refine ok_self ?_
  unfold e_F_fetch
  refine ok_seg (L := [((.aload_n 0), 1), ((.iload_n 1), 1)]) (pc' := 2) (ls' := [some (.ref x0), some (.int x1), some (.ref x2)]) (st' := [.int x1, .ref x0]) (w' := w) (by decide +kernel) rfl ?_
  refine ok_call0 (inj' := am_ji) (by decide +kernel : decode m_F_fetch.2.1 2 = .ok ((.invokevirtual 26), 3)) rfl (fun q hq => am_iv0 (am_self_eq hq).1 rfl rfl rfl) (o_F_hasPlace (d + 1) (x0) (x1) w) (fun _ _ => rfl) (fun r1 h2 => ?_)
  refine ok_br (P := r1.2 = 0) (off := 12) (t := 17) (by decide +kernel : decode m_F_fetch.2.1 5 = .ok ((.ifCond .eq 12), 3)) rfl rfl rfl rfl (fun c3 => ?_) (fun c3 => ?_)
  · skip
    exact o_F_fetch_p17 (some (.ref x0)) (some (.int x1)) (some (.ref x2)) r1.1
  · skip
    refine ok_seg (L := [((.aload_n 0), 1)]) (pc' := 9) (ls' := [some (.ref x0), some (.int x1), some (.ref x2)]) (st' := [.ref x0]) (w' := r1.1) (by decide +kernel) rfl ?_
    refine ok_gr (by decide +kernel : decode m_F_fetch.2.1 9 = .ok ((.getfield 21), 3)) rfl (by decide) (fun v4 h5 => ?_)
    refine ok_seg (L := [((.iload_n 1), 1)]) (pc' := 13) (ls' := [some (.ref x0), some (.int x1), some (.ref x2)]) (st' := [.int x1, .ref v4]) (w' := r1.1) (by decide +kernel) rfl ?_
    refine ok_az (by decide +kernel : decode m_F_fetch.2.1 13 = .ok (.baload, 1)) (fun v6 h7 => ?_)
    refine ok_br (P := ¬ v6 = 0) (off := 5) (t := 19) (by decide +kernel : decode m_F_fetch.2.1 14 = .ok ((.ifCond .ne 5), 3)) rfl rfl rfl rfl (fun c8 => ?_) (fun c8 => ?_)
    · skip
      refine ok_seg (L := [((.aload_n 2), 1), ((.aload_n 0), 1)]) (pc' := 21) (ls' := [some (.ref x0), some (.int x1), some (.ref x2)]) (st' := [.ref x0, .ref x2]) (w' := r1.1) (by decide +kernel) rfl ?_
      refine ok_gr (by decide +kernel : decode m_F_fetch.2.1 21 = .ok ((.getfield 15), 3)) rfl (by decide) (fun v9 h10 => ?_)
      refine ok_seg (L := [((.iload_n 1), 1)]) (pc' := 25) (ls' := [some (.ref x0), some (.int x1), some (.ref x2)]) (st' := [.int x1, .ref v9, .ref x2]) (w' := r1.1) (by decide +kernel) rfl ?_
      refine ok_ax (by decide +kernel : decode m_F_fetch.2.1 25 = .ok (.aaload, 1)) (fun v11 h12 => ?_)
      refine ok_call0 (inj' := am_jv) (by decide +kernel : decode m_F_fetch.2.1 26 = .ok ((.invokevirtual 30), 3)) rfl (fun q hq => am_iv0 (am_self_eq hq).1 rfl rfl rfl) (o_G_copy (d + 0) (x2) (v11) r1.1) (fun _ _ => rfl) (fun r13 h14 => ?_)
      refine ok_seg (L := [((.iconst 1), 1)]) (pc' := 30) (ls' := [some (.ref x0), some (.int x1), some (.ref x2)]) (st' := [.int 1]) (w' := r13.1) (by decide +kernel) rfl ?_
      exact ok_ret (v := 1) (by decide +kernel : decode m_F_fetch.2.1 30 = .ok (.ireturn, 1)) rfl
    · skip
      exact o_F_fetch_p17 (some (.ref x0)) (some (.int x1)) (some (.ref x2)) r1.1
-- m_H_takeBack
def f_H_takeBack_p22 (w : am_W) : Option (am_W × Int32) := (some (w, 0))
def e_H_takeBack (x0 : Nat) (x1 : Nat) (w : am_W) : Option (am_W × Int32) := ((am_gi w x0 2 2).bind fun v1 => (if v1 ≤ 0 then (f_H_takeBack_p22 w) else ((am_gr w x0 2 0).bind fun v4 => ((am_gi w x0 2 1).bind fun v6 => ((f_F_fetch (v4) (v6) (x1) w).bind fun r8 => (if ¬ r8.2 = 0 then ((am_gi r8.1 x0 2 1).bind fun v11 => (if 8 = 0 then none else ((am_pv r8.1 x0 2 1 (.int (((v11 + 8) - 1) - ((v11 + 8) - 1) / 8 * 8))).bind fun w14 => ((am_gi w14 x0 2 2).bind fun v16 => ((am_pv w14 x0 2 2 (.int (v16 - 1))).bind fun w18 => (some (w18, 1))))))) else (f_H_takeBack_p22 r8.1)))))))
def f_H_takeBack (x0 : Nat) (x1 : Nat) (w : am_W) : Option (am_W × Int32) := am_self w x0 2 (e_H_takeBack x0 x1 w)
theorem o_H_takeBack_p22 {d : Nat} (y0 y1 : Option Value) (w : am_W) : am_Ok am_ji (d + 3) m_H_takeBack 22 [y0, y1] [] w (f_H_takeBack_p22 w) := by
  unfold f_H_takeBack_p22
  refine ok_seg (L := [((.iconst 0), 1)]) (pc' := 23) (ls' := [y0, y1]) (st' := [.int 0]) (w' := w) (by decide +kernel) rfl ?_
  exact ok_ret (v := 0) (by decide +kernel : decode m_H_takeBack.2.1 23 = .ok (.ireturn, 1)) rfl
theorem o_H_takeBack (d : Nat) (x0 : Nat) (x1 : Nat) (w : am_W) : am_Ok am_ji (d + 3) m_H_takeBack 0 (am_en m_H_takeBack [.ref x0, .ref x1]) [] w (f_H_takeBack x0 x1 w) := by
  show am_Ok _ _ _ 0 [some (.ref x0), some (.ref x1)] [] w _
  unfold f_H_takeBack
  refine ok_self ?_
  unfold e_H_takeBack
  refine ok_seg (L := [((.aload_n 0), 1)]) (pc' := 1) (ls' := [some (.ref x0), some (.ref x1)]) (st' := [.ref x0]) (w' := w) (by decide +kernel) rfl ?_
  refine ok_gi (by decide +kernel : decode m_H_takeBack.2.1 1 = .ok ((.getfield 24), 3)) rfl (fun v1 h2 => ?_)
  refine ok_br (P := v1 ≤ 0) (off := 18) (t := 22) (by decide +kernel : decode m_H_takeBack.2.1 4 = .ok ((.ifCond .le 18), 3)) rfl rfl rfl rfl (fun c3 => ?_) (fun c3 => ?_)
  · skip
    exact o_H_takeBack_p22 (some (.ref x0)) (some (.ref x1)) w
  · skip
    refine ok_seg (L := [((.aload_n 0), 1)]) (pc' := 8) (ls' := [some (.ref x0), some (.ref x1)]) (st' := [.ref x0]) (w' := w) (by decide +kernel) rfl ?_
    refine ok_gr (by decide +kernel : decode m_H_takeBack.2.1 8 = .ok ((.getfield 14), 3)) rfl (by decide) (fun v4 h5 => ?_)
    refine ok_seg (L := [((.aload_n 0), 1)]) (pc' := 12) (ls' := [some (.ref x0), some (.ref x1)]) (st' := [.ref x0, .ref v4]) (w' := w) (by decide +kernel) rfl ?_
    refine ok_gi (by decide +kernel : decode m_H_takeBack.2.1 12 = .ok ((.getfield 20), 3)) rfl (fun v6 h7 => ?_)
    refine ok_seg (L := [((.aload_n 1), 1)]) (pc' := 16) (ls' := [some (.ref x0), some (.ref x1)]) (st' := [.ref x1, .int v6, .ref v4]) (w' := w) (by decide +kernel) rfl ?_
    refine ok_call0 (inj' := am_ji) (by decide +kernel : decode m_H_takeBack.2.1 16 = .ok ((.invokevirtual 37), 3)) rfl (fun q hq => am_iv0 (am_self_eq hq).1 rfl rfl rfl) (o_F_fetch (d + 0) (v4) (v6) (x1) w) (fun _ _ => rfl) (fun r8 h9 => ?_)
    refine ok_br (P := ¬ r8.2 = 0) (off := 5) (t := 24) (by decide +kernel : decode m_H_takeBack.2.1 19 = .ok ((.ifCond .ne 5), 3)) rfl rfl rfl rfl (fun c10 => ?_) (fun c10 => ?_)
    · skip
      refine ok_seg (L := [((.aload_n 0), 1), ((.aload_n 0), 1)]) (pc' := 26) (ls' := [some (.ref x0), some (.ref x1)]) (st' := [.ref x0, .ref x0]) (w' := r8.1) (by decide +kernel) rfl ?_
      refine ok_gi (by decide +kernel : decode m_H_takeBack.2.1 26 = .ok ((.getfield 20), 3)) rfl (fun v11 h12 => ?_)
      refine ok_seg (L := [((.bipush 8), 2), (.iadd, 1), ((.iconst 1), 1), (.isub, 1), ((.bipush 8), 2)]) (pc' := 36) (ls' := [some (.ref x0), some (.ref x1)]) (st' := [.int 8, .int ((v11 + 8) - 1), .ref x0]) (w' := r8.1) (by decide +kernel) rfl ?_
      refine ok_rem (by decide +kernel : decode m_H_takeBack.2.1 36 = .ok (.irem, 1)) (fun c13 => ?_)
      refine ok_pi (by decide +kernel : decode m_H_takeBack.2.1 37 = .ok ((.putfield 20), 3)) rfl (fun w14 h15 => ?_)
      refine ok_seg (L := [((.aload_n 0), 1), (.dup, 1)]) (pc' := 42) (ls' := [some (.ref x0), some (.ref x1)]) (st' := [.ref x0, .ref x0]) (w' := w14) (by decide +kernel) rfl ?_
      refine ok_gi (by decide +kernel : decode m_H_takeBack.2.1 42 = .ok ((.getfield 24), 3)) rfl (fun v16 h17 => ?_)
      refine ok_seg (L := [((.iconst 1), 1), (.isub, 1)]) (pc' := 47) (ls' := [some (.ref x0), some (.ref x1)]) (st' := [.int (v16 - 1), .ref x0]) (w' := w14) (by decide +kernel) rfl ?_
      refine ok_pi (by decide +kernel : decode m_H_takeBack.2.1 47 = .ok ((.putfield 24), 3)) rfl (fun w18 h19 => ?_)
      refine ok_seg (L := [((.iconst 1), 1)]) (pc' := 51) (ls' := [some (.ref x0), some (.ref x1)]) (st' := [.int 1]) (w' := w18) (by decide +kernel) rfl ?_
      exact ok_ret (v := 1) (by decide +kernel : decode m_H_takeBack.2.1 51 = .ok (.ireturn, 1)) rfl
    · skip
      exact o_H_takeBack_p22 (some (.ref x0)) (some (.ref x1)) r8.1
-- m_C_undo
def f_C_undo_p25 (s0 : Int32) (w : am_W) : Option (am_W × Int32) := (some (w, s0))
def e_C_undo (x0 : Nat) (w : am_W) : Option (am_W × Int32) := ((am_gr w x0 0 5).bind fun v1 => ((am_gr w x0 0 1).bind fun v3 => ((f_H_takeBack (v1) (v3) w).bind fun r5 => (if r5.2 = 0 then (f_C_undo_p25 (-1) r5.1) else ((am_gr r5.1 x0 0 5).bind fun v8 => ((f_H_size (v8) r5.1).bind fun r10 => (f_C_undo_p25 r10.2 r10.1)))))))
def f_C_undo (x0 : Nat) (w : am_W) : Option (am_W × Int32) := am_self w x0 0 (e_C_undo x0 w)
theorem o_C_undo_p25 {d : Nat} (s0 : Int32) (y0 : Option Value) (w : am_W) : am_Ok am_ji (d + 4) m_C_undo 25 [y0] [.int s0] w (f_C_undo_p25 s0 w) := by
  unfold f_C_undo_p25
  exact ok_ret (v := s0) (by decide +kernel : decode m_C_undo.2.1 25 = .ok (.ireturn, 1)) rfl
theorem o_C_undo (d : Nat) (x0 : Nat) (w : am_W) : am_Ok am_ji (d + 4) m_C_undo 0 (am_en m_C_undo [.ref x0]) [] w (f_C_undo x0 w) := by
  show am_Ok _ _ _ 0 [some (.ref x0)] [] w _
  unfold f_C_undo
  refine ok_self ?_
  unfold e_C_undo
  refine ok_seg (L := [((.aload_n 0), 1)]) (pc' := 1) (ls' := [some (.ref x0)]) (st' := [.ref x0]) (w' := w) (by decide +kernel) rfl ?_
  refine ok_gr (by decide +kernel : decode m_C_undo.2.1 1 = .ok ((.getfield 43), 3)) rfl (by decide) (fun v1 h2 => ?_)
  refine ok_seg (L := [((.aload_n 0), 1)]) (pc' := 5) (ls' := [some (.ref x0)]) (st' := [.ref x0, .ref v1]) (w' := w) (by decide +kernel) rfl ?_
  refine ok_gr (by decide +kernel : decode m_C_undo.2.1 5 = .ok ((.getfield 19), 3)) rfl (by decide) (fun v3 h4 => ?_)
  refine ok_call0 (inj' := am_ji) (by decide +kernel : decode m_C_undo.2.1 8 = .ok ((.invokevirtual 231), 3)) rfl (fun q hq => am_iv0 (am_self_eq hq).1 rfl rfl rfl) (o_H_takeBack (d + 0) (v1) (v3) w) (fun _ _ => rfl) (fun r5 h6 => ?_)
  refine ok_br (P := r5.2 = 0) (off := 13) (t := 24) (by decide +kernel : decode m_C_undo.2.1 11 = .ok ((.ifCond .eq 13), 3)) rfl rfl rfl rfl (fun c7 => ?_) (fun c7 => ?_)
  · skip
    refine ok_seg (L := [((.iconst (-1)), 1)]) (pc' := 25) (ls' := [some (.ref x0)]) (st' := [.int (-1)]) (w' := r5.1) (by decide +kernel) rfl ?_
    exact o_C_undo_p25 (-1) (some (.ref x0)) r5.1
  · skip
    refine ok_seg (L := [((.aload_n 0), 1)]) (pc' := 15) (ls' := [some (.ref x0)]) (st' := [.ref x0]) (w' := r5.1) (by decide +kernel) rfl ?_
    refine ok_gr (by decide +kernel : decode m_C_undo.2.1 15 = .ok ((.getfield 43), 3)) rfl (by decide) (fun v8 h9 => ?_)
    refine ok_call0 (inj' := am_ji) (by decide +kernel : decode m_C_undo.2.1 18 = .ok ((.invokevirtual 118), 3)) rfl (fun q hq => am_iv0 (am_self_eq hq).1 rfl rfl rfl) (o_H_size (d + 3) (v8) r5.1) (fun _ _ => rfl) (fun r10 h11 => ?_)
    refine ok_goto (t := 25) (by decide +kernel : decode m_C_undo.2.1 21 = .ok ((.goto 4), 3)) rfl ?_
    exact o_C_undo_p25 r10.2 (some (.ref x0)) r10.1
-- m_C_image
def e_C_image (x0 : Nat) (x1 : Int32) (w : am_W) : Option (am_W × Int32) := ((am_gr w x0 0 6).bind fun v1 => ((am_gr w x0 0 1).bind fun v3 => ((f_F_store (v1) (x1) (v3) w).bind fun r5 => (am_rb r5.1 r5.2))))
def f_C_image (x0 : Nat) (x1 : Int32) (w : am_W) : Option (am_W × Int32) := am_self w x0 0 (e_C_image x0 x1 w)
theorem o_C_image (d : Nat) (x0 : Nat) (x1 : Int32) (w : am_W) : am_Ok am_ji (d + 3) m_C_image 0 (am_en m_C_image [.ref x0, .int x1]) [] w (f_C_image x0 x1 w) := by
  show am_Ok _ _ _ 0 [some (.ref x0), some (.int x1)] [] w _
  unfold f_C_image
  refine ok_self ?_
  unfold e_C_image
  refine ok_seg (L := [((.aload_n 0), 1)]) (pc' := 1) (ls' := [some (.ref x0), some (.int x1)]) (st' := [.ref x0]) (w' := w) (by decide +kernel) rfl ?_
  refine ok_gr (by decide +kernel : decode m_C_image.2.1 1 = .ok ((.getfield 52), 3)) rfl (by decide) (fun v1 h2 => ?_)
  refine ok_seg (L := [((.iload_n 1), 1), ((.aload_n 0), 1)]) (pc' := 6) (ls' := [some (.ref x0), some (.int x1)]) (st' := [.ref x0, .int x1, .ref v1]) (w' := w) (by decide +kernel) rfl ?_
  refine ok_gr (by decide +kernel : decode m_C_image.2.1 6 = .ok ((.getfield 19), 3)) rfl (by decide) (fun v3 h4 => ?_)
  refine ok_call0 (inj' := am_ji) (by decide +kernel : decode m_C_image.2.1 9 = .ok ((.invokevirtual 235), 3)) rfl (fun q hq => am_iv0 (am_self_eq hq).1 rfl rfl rfl) (o_F_store (d + 0) (v1) (x1) (v3) w) (fun _ _ => rfl) (fun r5 h6 => ?_)
  exact ok_retb (len := 1) (by decide +kernel : decode m_C_image.2.1 12 = .ok (.ireturn, 1)) rfl
-- m_C_restore
def e_C_restore (x0 : Nat) (x1 : Int32) (w : am_W) : Option (am_W × Int32) := ((am_gr w x0 0 6).bind fun v1 => ((am_gr w x0 0 1).bind fun v3 => ((f_F_fetch (v1) (x1) (v3) w).bind fun r5 => (if ¬ r5.2 = 0 then ((am_gr r5.1 x0 0 5).bind fun v8 => ((f_H_forget (v8) r5.1).bind fun r10 => (some (r10.1, 1)))) else (some (r5.1, 0))))))
def f_C_restore (x0 : Nat) (x1 : Int32) (w : am_W) : Option (am_W × Int32) := am_self w x0 0 (e_C_restore x0 x1 w)
theorem o_C_restore (d : Nat) (x0 : Nat) (x1 : Int32) (w : am_W) : am_Ok am_ji (d + 3) m_C_restore 0 (am_en m_C_restore [.ref x0, .int x1]) [] w (f_C_restore x0 x1 w) := by
  show am_Ok _ _ _ 0 [some (.ref x0), some (.int x1)] [] w _
  unfold f_C_restore
  refine ok_self ?_
  unfold e_C_restore
  refine ok_seg (L := [((.aload_n 0), 1)]) (pc' := 1) (ls' := [some (.ref x0), some (.int x1)]) (st' := [.ref x0]) (w' := w) (by decide +kernel) rfl ?_
  refine ok_gr (by decide +kernel : decode m_C_restore.2.1 1 = .ok ((.getfield 52), 3)) rfl (by decide) (fun v1 h2 => ?_)
  refine ok_seg (L := [((.iload_n 1), 1), ((.aload_n 0), 1)]) (pc' := 6) (ls' := [some (.ref x0), some (.int x1)]) (st' := [.ref x0, .int x1, .ref v1]) (w' := w) (by decide +kernel) rfl ?_
  refine ok_gr (by decide +kernel : decode m_C_restore.2.1 6 = .ok ((.getfield 19), 3)) rfl (by decide) (fun v3 h4 => ?_)
  refine ok_call0 (inj' := am_ji) (by decide +kernel : decode m_C_restore.2.1 9 = .ok ((.invokevirtual 239), 3)) rfl (fun q hq => am_iv0 (am_self_eq hq).1 rfl rfl rfl) (o_F_fetch (d + 0) (v1) (x1) (v3) w) (fun _ _ => rfl) (fun r5 h6 => ?_)
  refine ok_br (P := ¬ r5.2 = 0) (off := 5) (t := 17) (by decide +kernel : decode m_C_restore.2.1 12 = .ok ((.ifCond .ne 5), 3)) rfl rfl rfl rfl (fun c7 => ?_) (fun c7 => ?_)
  · skip
    refine ok_seg (L := [((.aload_n 0), 1)]) (pc' := 18) (ls' := [some (.ref x0), some (.int x1)]) (st' := [.ref x0]) (w' := r5.1) (by decide +kernel) rfl ?_
    refine ok_gr (by decide +kernel : decode m_C_restore.2.1 18 = .ok ((.getfield 43), 3)) rfl (by decide) (fun v8 h9 => ?_)
    refine ok_call0 (inj' := am_jv) (by decide +kernel : decode m_C_restore.2.1 21 = .ok ((.invokevirtual 89), 3)) rfl (fun q hq => am_iv0 (am_self_eq hq).1 rfl rfl rfl) (o_H_forget (d + 2) (v8) r5.1) (fun _ _ => rfl) (fun r10 h11 => ?_)
    refine ok_seg (L := [((.iconst 1), 1)]) (pc' := 25) (ls' := [some (.ref x0), some (.int x1)]) (st' := [.int 1]) (w' := r10.1) (by decide +kernel) rfl ?_
    exact ok_ret (v := 1) (by decide +kernel : decode m_C_restore.2.1 25 = .ok (.ireturn, 1)) rfl
  · skip
    refine ok_seg (L := [((.iconst 0), 1)]) (pc' := 16) (ls' := [some (.ref x0), some (.int x1)]) (st' := [.int 0]) (w' := r5.1) (by decide +kernel) rfl ?_
    exact ok_ret (v := 0) (by decide +kernel : decode m_C_restore.2.1 16 = .ok (.ireturn, 1)) rfl
-- m_C_having
def e_C_having (x0 : Nat) (x1 : Int32) (w : am_W) : Option (am_W × Option Int64) := ((am_gr w x0 0 1).bind fun v1 => ((f_G_hasColourOrBlank (v1) (x1) w).bind fun r3 => (if ¬ r3.2 = 0 then ((am_gr r3.1 x0 0 1).bind fun v6 => ((f_G_cellsOf (v6) (x1) r3.1).bind fun r8 => (some (r8.1, some r8.2)))) else (am_thr r3.1))))
def f_C_having (x0 : Nat) (x1 : Int32) (w : am_W) : Option (am_W × Option Int64) := am_self w x0 0 (e_C_having x0 x1 w)
theorem o_C_having (d : Nat) (x0 : Nat) (x1 : Int32) (w : am_W) : am_Ok am_jx (d + 1) m_C_having 0 (am_en m_C_having [.ref x0, .int x1]) [] w (f_C_having x0 x1 w) := by
  show am_Ok _ _ _ 0 [some (.ref x0), some (.int x1)] [] w _
  unfold f_C_having
  refine ok_self ?_
  unfold e_C_having
  refine ok_seg (L := [((.aload_n 0), 1)]) (pc' := 1) (ls' := [some (.ref x0), some (.int x1)]) (st' := [.ref x0]) (w' := w) (by decide +kernel) rfl ?_
  refine ok_gr (by decide +kernel : decode m_C_having.2.1 1 = .ok ((.getfield 19), 3)) rfl (by decide) (fun v1 h2 => ?_)
  refine ok_seg (L := [((.iload_n 1), 1)]) (pc' := 5) (ls' := [some (.ref x0), some (.int x1)]) (st' := [.int x1, .ref v1]) (w' := w) (by decide +kernel) rfl ?_
  refine ok_call0 (inj' := am_ji) (by decide +kernel : decode m_C_having.2.1 5 = .ok ((.invokevirtual 128), 3)) rfl (fun q hq => am_iv0 (am_self_eq hq).1 rfl rfl rfl) (o_G_hasColourOrBlank (d + 0) (v1) (x1) w) (fun _ _ => rfl) (fun r3 h4 => ?_)
  refine ok_br (P := ¬ r3.2 = 0) (off := 13) (t := 21) (by decide +kernel : decode m_C_having.2.1 8 = .ok ((.ifCond .ne 13), 3)) rfl rfl rfl rfl (fun c5 => ?_) (fun c5 => ?_)
  · skip
    refine ok_seg (L := [((.aload_n 0), 1)]) (pc' := 22) (ls' := [some (.ref x0), some (.int x1)]) (st' := [.ref x0]) (w' := r3.1) (by decide +kernel) rfl ?_
    refine ok_gr (by decide +kernel : decode m_C_having.2.1 22 = .ok ((.getfield 19), 3)) rfl (by decide) (fun v6 h7 => ?_)
    refine ok_seg (L := [((.iload_n 1), 1)]) (pc' := 26) (ls' := [some (.ref x0), some (.int x1)]) (st' := [.int x1, .ref v6]) (w' := r3.1) (by decide +kernel) rfl ?_
    refine ok_call0 (inj' := am_jj) (by decide +kernel : decode m_C_having.2.1 26 = .ok ((.invokevirtual 104), 3)) rfl (fun q hq => am_iv0 (am_self_eq hq).1 rfl rfl rfl) (o_G_cellsOf (d + 0) (v6) (x1) r3.1) (fun _ _ => rfl) (fun r8 h9 => ?_)
    exact ok_ret (v := some (r8.2)) (by decide +kernel : decode m_C_having.2.1 29 = .ok (.lreturn, 1)) rfl
  · skip
    exact ok_ret (v := none) (by decide +kernel : decode m_C_having.2.1 11 = .ok ((.new 131), 3)) rfl
-- m_C_isLess
def f_C_isLess_p19 (s0 : Int32) (w : am_W) : Option (am_W × Int32) := (am_rb w s0)
def e_C_isLess (x0 : Int64) (x2 : Int64) (w : am_W) : Option (am_W × Int32) := (if 0 ≤ (lg_cmp (x0 ^^^ (-9223372036854775808)) (x2 ^^^ (-9223372036854775808))) then (f_C_isLess_p19 0 w) else (f_C_isLess_p19 1 w))
def f_C_isLess (x0 : Int64) (x2 : Int64) (w : am_W) : Option (am_W × Int32) := e_C_isLess x0 x2 w
theorem o_C_isLess_p19 {d : Nat} (s0 : Int32) (y0 y1 y2 y3 : Option Value) (w : am_W) : am_Ok am_ji (d + 0) m_C_isLess 19 [y0, y1, y2, y3] [.int s0] w (f_C_isLess_p19 s0 w) := by
  unfold f_C_isLess_p19
  exact ok_retb (len := 1) (by decide +kernel : decode m_C_isLess.2.1 19 = .ok (.ireturn, 1)) rfl
theorem o_C_isLess (d : Nat) (x0 : Int64) (x2 : Int64) (w : am_W) : am_Ok am_ji (d + 0) m_C_isLess 0 (am_en m_C_isLess [.long x0, .long x2]) [] w (f_C_isLess x0 x2 w) := by
  show am_Ok _ _ _ 0 [some (.long x0), none, some (.long x2), none] [] w _
  unfold f_C_isLess
  unfold e_C_isLess
  refine ok_seg (L := [((.lload_n 0), 1), ((.ldc2_w 250), 3), (.lxor, 1), ((.lload_n 2), 1), ((.ldc2_w 250), 3), (.lxor, 1), (.lcmp, 1)]) (pc' := 11) (ls' := [some (.long x0), none, some (.long x2), none]) (st' := [.int (lg_cmp (x0 ^^^ (-9223372036854775808)) (x2 ^^^ (-9223372036854775808)))]) (w' := w) (by decide +kernel) rfl ?_
  refine ok_br (P := 0 ≤ (lg_cmp (x0 ^^^ (-9223372036854775808)) (x2 ^^^ (-9223372036854775808)))) (off := 7) (t := 18) (by decide +kernel : decode m_C_isLess.2.1 11 = .ok ((.ifCond .ge 7), 3)) rfl rfl rfl rfl (fun c1 => ?_) (fun c1 => ?_)
  · skip
    refine ok_seg (L := [((.iconst 0), 1)]) (pc' := 19) (ls' := [some (.long x0), none, some (.long x2), none]) (st' := [.int 0]) (w' := w) (by decide +kernel) rfl ?_
    exact o_C_isLess_p19 0 (some (.long x0)) none (some (.long x2)) none w
  · skip
    refine ok_seg (L := [((.iconst 1), 1)]) (pc' := 15) (ls' := [some (.long x0), none, some (.long x2), none]) (st' := [.int 1]) (w' := w) (by decide +kernel) rfl ?_
    refine ok_goto (t := 19) (by decide +kernel : decode m_C_isLess.2.1 15 = .ok ((.goto 4), 3)) rfl ?_
    exact o_C_isLess_p19 1 (some (.long x0)) none (some (.long x2)) none w
-- m_C_leastMend
def f_C_leastMend_p85 (rc : Nat → Int64 → Int32 → am_W → Option (am_W × Int64)) (k32 : Nat → Int64 → Int32 → Int64 → Int64 → Int32 → am_W → Option (am_W × Int64)) (x0 : Nat) (x1 : Int64) (x3 : Int32) (x4 : Int64) (x6 : Int64) (x8 : Int32) (w : am_W) : Option (am_W × Int64) := (k32 x0 x1 x3 x4 x6 (x8 + 1) w)
def f_C_leastMend_p83 (rc : Nat → Int64 → Int32 → am_W → Option (am_W × Int64)) (k32 : Nat → Int64 → Int32 → Int64 → Int64 → Int32 → am_W → Option (am_W × Int64)) (x0 : Nat) (x1 : Int64) (x3 : Int32) (x4 : Int64) (x8 : Int32) (s0 : Int64) (w : am_W) : Option (am_W × Int64) := (f_C_leastMend_p85 rc k32 x0 x1 x3 x4 s0 x8 w)
def f_C_leastMend_p32 (rc : Nat → Int64 → Int32 → am_W → Option (am_W × Int64)) : Nat → Nat → Int64 → Int32 → Int64 → Int64 → Int32 → am_W → Option (am_W × Int64)
  | 0, _, _, _, _, _, _, _ => none
  | n + 1, x0, x1, x3, x4, x6, x8, w => (if 64 ≤ x8 then (some (w, x6)) else (if (lg_cmp ((am_lu x4 x8) &&& 1) 0) = 0 then (f_C_leastMend_p85 rc (f_C_leastMend_p32 rc n) x0 x1 x3 x4 x6 x8 w) else ((rc (x0) ((x1 ||| (1 <<< (Int32.toInt64 x8 &&& 63)))) ((x3 - 1)) w).bind fun r3 => ((f_C_isLess (r3.2) (x6) r3.1).bind fun r5 => (if r5.2 = 0 then (f_C_leastMend_p83 rc (f_C_leastMend_p32 rc n) x0 x1 x3 x4 x8 x6 r5.1) else (f_C_leastMend_p83 rc (f_C_leastMend_p32 rc n) x0 x1 x3 x4 x8 r3.2 r5.1))))))
def e_C_leastMend (rc : Nat → Int64 → Int32 → am_W → Option (am_W × Int64)) (x0 : Nat) (x1 : Int64) (x3 : Int32) (w : am_W) : Option (am_W × Int64) := ((f_G_anyRectangle (x0) (x1) w).bind fun r8 => (if ¬ (lg_cmp r8.2 0) = 0 then (if 0 < x3 then (f_C_leastMend_p32 rc am_N x0 x1 x3 r8.2 (-1) 0 r8.1) else (some (r8.1, (-1)))) else (some (r8.1, x1))))
def f_C_leastMend : Nat → Nat → Int64 → Int32 → am_W → Option (am_W × Int64)
  | 0, _, _, _, _ => none
  | n + 1, x0, x1, x3, w => e_C_leastMend (f_C_leastMend n) x0 x1 x3 w
theorem o_C_leastMend_p85 {d : Nat} {rc : Nat → Int64 → Int32 → am_W → Option (am_W × Int64)} (hrc : ∀ (x0 : Nat) (x1 : Int64) (x3 : Int32) (w : am_W), am_Ok am_jj (d + 2) m_C_leastMend 0 (am_en m_C_leastMend [.ref x0, .long x1, .int x3]) [] w (rc x0 x1 x3 w)) {k32 : Nat → Int64 → Int32 → Int64 → Int64 → Int32 → am_W → Option (am_W × Int64)} (hk32 : ∀ (x0 : Nat) (x1 : Int64) (x3 : Int32) (x4 : Int64) (x6 : Int64) (x8 : Int32) (y2 y5 y7 y9 y10 : Option Value) (w : am_W), am_Ok am_jj (d + 3) m_C_leastMend 32 [some (.ref x0), some (.long x1), y2, some (.int x3), some (.long x4), y5, some (.long x6), y7, some (.int x8), y9, y10] [] w (k32 x0 x1 x3 x4 x6 x8 w)) (x0 : Nat) (x1 : Int64) (x3 : Int32) (x4 : Int64) (x6 : Int64) (x8 : Int32) (y2 y5 y7 y9 y10 : Option Value) (w : am_W) : am_Ok am_jj (d + 3) m_C_leastMend 85 [some (.ref x0), some (.long x1), y2, some (.int x3), some (.long x4), y5, some (.long x6), y7, some (.int x8), y9, y10] [] w (f_C_leastMend_p85 rc k32 x0 x1 x3 x4 x6 x8 w) := by
  unfold f_C_leastMend_p85
  refine ok_seg (L := [((.iinc 8 1), 3)]) (pc' := 88) (ls' := [some (.ref x0), some (.long x1), y2, some (.int x3), some (.long x4), y5, some (.long x6), y7, some (.int (x8 + 1)), y9, y10]) (st' := []) (w' := w) (by decide +kernel) rfl ?_
  refine ok_goto (t := 32) (by decide +kernel : decode m_C_leastMend.2.1 88 = .ok ((.goto (-56)), 3)) rfl ?_
  exact hk32 x0 x1 x3 x4 x6 (x8 + 1) y2 y5 y7 y9 y10 w
theorem o_C_leastMend_p83 {d : Nat} {rc : Nat → Int64 → Int32 → am_W → Option (am_W × Int64)} (hrc : ∀ (x0 : Nat) (x1 : Int64) (x3 : Int32) (w : am_W), am_Ok am_jj (d + 2) m_C_leastMend 0 (am_en m_C_leastMend [.ref x0, .long x1, .int x3]) [] w (rc x0 x1 x3 w)) {k32 : Nat → Int64 → Int32 → Int64 → Int64 → Int32 → am_W → Option (am_W × Int64)} (hk32 : ∀ (x0 : Nat) (x1 : Int64) (x3 : Int32) (x4 : Int64) (x6 : Int64) (x8 : Int32) (y2 y5 y7 y9 y10 : Option Value) (w : am_W), am_Ok am_jj (d + 3) m_C_leastMend 32 [some (.ref x0), some (.long x1), y2, some (.int x3), some (.long x4), y5, some (.long x6), y7, some (.int x8), y9, y10] [] w (k32 x0 x1 x3 x4 x6 x8 w)) (x0 : Nat) (x1 : Int64) (x3 : Int32) (x4 : Int64) (x8 : Int32) (s0 : Int64) (y2 y5 y6 y7 y9 y10 : Option Value) (w : am_W) : am_Ok am_jj (d + 3) m_C_leastMend 83 [some (.ref x0), some (.long x1), y2, some (.int x3), some (.long x4), y5, y6, y7, some (.int x8), y9, y10] [.long s0] w (f_C_leastMend_p83 rc k32 x0 x1 x3 x4 x8 s0 w) := by
  unfold f_C_leastMend_p83
  refine ok_seg (L := [((.lstore 6), 2)]) (pc' := 85) (ls' := [some (.ref x0), some (.long x1), y2, some (.int x3), some (.long x4), y5, some (.long s0), none, some (.int x8), y9, y10]) (st' := []) (w' := w) (by decide +kernel) rfl ?_
  exact o_C_leastMend_p85 hrc hk32 x0 x1 x3 x4 s0 x8 y2 y5 none y9 y10 w
theorem o_C_leastMend_p32 {d : Nat} {rc : Nat → Int64 → Int32 → am_W → Option (am_W × Int64)} (hrc : ∀ (x0 : Nat) (x1 : Int64) (x3 : Int32) (w : am_W), am_Ok am_jj (d + 2) m_C_leastMend 0 (am_en m_C_leastMend [.ref x0, .long x1, .int x3]) [] w (rc x0 x1 x3 w)) : ∀ (n : Nat) (x0 : Nat) (x1 : Int64) (x3 : Int32) (x4 : Int64) (x6 : Int64) (x8 : Int32) (y2 y5 y7 y9 y10 : Option Value) (w : am_W), am_Ok am_jj (d + 3) m_C_leastMend 32 [some (.ref x0), some (.long x1), y2, some (.int x3), some (.long x4), y5, some (.long x6), y7, some (.int x8), y9, y10] [] w (f_C_leastMend_p32 rc n x0 x1 x3 x4 x6 x8 w) := by
  intro n
  induction n with
  | zero => intros; exact ok_none
  | succ n ih =>
    intro x0 x1 x3 x4 x6 x8 y2 y5 y7 y9 y10 w
    unfold f_C_leastMend_p32
    refine ok_seg (L := [((.iload 8), 2), ((.bipush 64), 2)]) (pc' := 36) (ls' := [some (.ref x0), some (.long x1), y2, some (.int x3), some (.long x4), y5, some (.long x6), y7, some (.int x8), y9, y10]) (st' := [.int 64, .int x8]) (w' := w) (by decide +kernel) rfl ?_
    refine ok_br (P := 64 ≤ x8) (off := 55) (t := 91) (by decide +kernel : decode m_C_leastMend.2.1 36 = .ok ((.if_icmp .ge 55), 3)) rfl rfl rfl rfl (fun c1 => ?_) (fun c1 => ?_)
    · skip
      refine ok_seg (L := [((.lload 6), 2)]) (pc' := 93) (ls' := [some (.ref x0), some (.long x1), y2, some (.int x3), some (.long x4), y5, some (.long x6), y7, some (.int x8), y9, y10]) (st' := [.long x6]) (w' := w) (by decide +kernel) rfl ?_
      exact ok_ret (v := x6) (by decide +kernel : decode m_C_leastMend.2.1 93 = .ok (.lreturn, 1)) rfl
    · skip
      refine ok_seg (L := [((.lload 4), 2), ((.iload 8), 2), (.lushr, 1), ((.lconst 1), 1), (.land, 1), ((.lconst 0), 1), (.lcmp, 1)]) (pc' := 48) (ls' := [some (.ref x0), some (.long x1), y2, some (.int x3), some (.long x4), y5, some (.long x6), y7, some (.int x8), y9, y10]) (st' := [.int (lg_cmp ((am_lu x4 x8) &&& 1) 0)]) (w' := w) (by decide +kernel) rfl ?_
      refine ok_br (P := (lg_cmp ((am_lu x4 x8) &&& 1) 0) = 0) (off := 37) (t := 85) (by decide +kernel : decode m_C_leastMend.2.1 48 = .ok ((.ifCond .eq 37), 3)) rfl rfl rfl rfl (fun c2 => ?_) (fun c2 => ?_)
      · skip
        exact o_C_leastMend_p85 hrc ih x0 x1 x3 x4 x6 x8 y2 y5 y7 y9 y10 w
      · skip
        refine ok_seg (L := [((.aload_n 0), 1), ((.lload_n 1), 1), ((.lconst 1), 1), ((.iload 8), 2), (.lshl, 1), (.lor, 1), ((.iload_n 3), 1), ((.iconst 1), 1), (.isub, 1)]) (pc' := 61) (ls' := [some (.ref x0), some (.long x1), y2, some (.int x3), some (.long x4), y5, some (.long x6), y7, some (.int x8), y9, y10]) (st' := [.int (x3 - 1), .long (x1 ||| (1 <<< (Int32.toInt64 x8 &&& 63))), .ref x0]) (w' := w) (by decide +kernel) rfl ?_
        refine ok_call0 (inj' := am_jj) (by decide +kernel : decode m_C_leastMend.2.1 61 = .ok ((.invokestatic 152), 3)) rfl (fun _ _ => rfl) (hrc (x0) ((x1 ||| (1 <<< (Int32.toInt64 x8 &&& 63)))) ((x3 - 1)) w) (fun _ _ => rfl) (fun r3 h4 => ?_)
        refine ok_seg (L := [((.lstore 9), 2), ((.lload 9), 2), ((.lload 6), 2)]) (pc' := 70) (ls' := [some (.ref x0), some (.long x1), y2, some (.int x3), some (.long x4), y5, some (.long x6), y7, some (.int x8), some (.long r3.2), none]) (st' := [.long x6, .long r3.2]) (w' := r3.1) (by decide +kernel) rfl ?_
        refine ok_call0 (inj' := am_ji) (by decide +kernel : decode m_C_leastMend.2.1 70 = .ok ((.invokestatic 246), 3)) rfl (fun _ _ => rfl) (o_C_isLess (d + 2) (r3.2) (x6) r3.1) (fun _ _ => rfl) (fun r5 h6 => ?_)
        refine ok_br (P := r5.2 = 0) (off := 8) (t := 81) (by decide +kernel : decode m_C_leastMend.2.1 73 = .ok ((.ifCond .eq 8), 3)) rfl rfl rfl rfl (fun c7 => ?_) (fun c7 => ?_)
        · skip
          refine ok_seg (L := [((.lload 6), 2)]) (pc' := 83) (ls' := [some (.ref x0), some (.long x1), y2, some (.int x3), some (.long x4), y5, some (.long x6), y7, some (.int x8), some (.long r3.2), none]) (st' := [.long x6]) (w' := r5.1) (by decide +kernel) rfl ?_
          exact o_C_leastMend_p83 hrc ih x0 x1 x3 x4 x8 x6 y2 y5 (some (.long x6)) y7 (some (.long r3.2)) none r5.1
        · skip
          refine ok_seg (L := [((.lload 9), 2)]) (pc' := 78) (ls' := [some (.ref x0), some (.long x1), y2, some (.int x3), some (.long x4), y5, some (.long x6), y7, some (.int x8), some (.long r3.2), none]) (st' := [.long r3.2]) (w' := r5.1) (by decide +kernel) rfl ?_
          refine ok_goto (t := 83) (by decide +kernel : decode m_C_leastMend.2.1 78 = .ok ((.goto 5), 3)) rfl ?_
          exact o_C_leastMend_p83 hrc ih x0 x1 x3 x4 x8 r3.2 y2 y5 (some (.long x6)) y7 (some (.long r3.2)) none r5.1
theorem o_C_leastMend_e {d : Nat} {rc : Nat → Int64 → Int32 → am_W → Option (am_W × Int64)} (hrc : ∀ (x0 : Nat) (x1 : Int64) (x3 : Int32) (w : am_W), am_Ok am_jj (d + 2) m_C_leastMend 0 (am_en m_C_leastMend [.ref x0, .long x1, .int x3]) [] w (rc x0 x1 x3 w)) (x0 : Nat) (x1 : Int64) (x3 : Int32) (w : am_W) : am_Ok am_jj (d + 3) m_C_leastMend 0 (am_en m_C_leastMend [.ref x0, .long x1, .int x3]) [] w (e_C_leastMend rc x0 x1 x3 w) := by
  show am_Ok _ _ _ 0 [some (.ref x0), some (.long x1), none, some (.int x3), none, none, none, none, none, none, none] [] w _
  unfold e_C_leastMend
  refine ok_seg (L := [((.aload_n 0), 1), ((.lload_n 1), 1)]) (pc' := 2) (ls' := [some (.ref x0), some (.long x1), none, some (.int x3), none, none, none, none, none, none, none]) (st' := [.long x1, .ref x0]) (w' := w) (by decide +kernel) rfl ?_
  refine ok_call0 (inj' := am_jj) (by decide +kernel : decode m_C_leastMend.2.1 2 = .ok ((.invokevirtual 242), 3)) rfl (fun q hq => am_iv0 (am_self_eq hq).1 rfl rfl rfl) (o_G_anyRectangle (d + 0) (x0) (x1) w) (fun _ _ => rfl) (fun r8 h9 => ?_)
  refine ok_seg (L := [((.lstore 4), 2), ((.lload 4), 2), ((.lconst 0), 1), (.lcmp, 1)]) (pc' := 11) (ls' := [some (.ref x0), some (.long x1), none, some (.int x3), some (.long r8.2), none, none, none, none, none, none]) (st' := [.int (lg_cmp r8.2 0)]) (w' := r8.1) (by decide +kernel) rfl ?_
  refine ok_br (P := ¬ (lg_cmp r8.2 0) = 0) (off := 5) (t := 16) (by decide +kernel : decode m_C_leastMend.2.1 11 = .ok ((.ifCond .ne 5), 3)) rfl rfl rfl rfl (fun c10 => ?_) (fun c10 => ?_)
  · skip
    refine ok_seg (L := [((.iload_n 3), 1)]) (pc' := 17) (ls' := [some (.ref x0), some (.long x1), none, some (.int x3), some (.long r8.2), none, none, none, none, none, none]) (st' := [.int x3]) (w' := r8.1) (by decide +kernel) rfl ?_
    refine ok_br (P := 0 < x3) (off := 7) (t := 24) (by decide +kernel : decode m_C_leastMend.2.1 17 = .ok ((.ifCond .gt 7), 3)) rfl rfl rfl rfl (fun c11 => ?_) (fun c11 => ?_)
    · skip
      refine ok_seg (L := [((.ldc2_w 156), 3), ((.lstore 6), 2), ((.iconst 0), 1), ((.istore 8), 2)]) (pc' := 32) (ls' := [some (.ref x0), some (.long x1), none, some (.int x3), some (.long r8.2), none, some (.long (-1)), none, some (.int 0), none, none]) (st' := []) (w' := r8.1) (by decide +kernel) rfl ?_
      exact o_C_leastMend_p32 hrc am_N x0 x1 x3 r8.2 (-1) 0 none none none none none r8.1
    · skip
      refine ok_seg (L := [((.ldc2_w 156), 3)]) (pc' := 23) (ls' := [some (.ref x0), some (.long x1), none, some (.int x3), some (.long r8.2), none, none, none, none, none, none]) (st' := [.long (-1)]) (w' := r8.1) (by decide +kernel) rfl ?_
      exact ok_ret (v := (-1)) (by decide +kernel : decode m_C_leastMend.2.1 23 = .ok (.lreturn, 1)) rfl
  · skip
    refine ok_seg (L := [((.lload_n 1), 1)]) (pc' := 15) (ls' := [some (.ref x0), some (.long x1), none, some (.int x3), some (.long r8.2), none, none, none, none, none, none]) (st' := [.long x1]) (w' := r8.1) (by decide +kernel) rfl ?_
    exact ok_ret (v := x1) (by decide +kernel : decode m_C_leastMend.2.1 15 = .ok (.lreturn, 1)) rfl
theorem o_C_leastMend (n : Nat) : ∀ (d : Nat) (x0 : Nat) (x1 : Int64) (x3 : Int32) (w : am_W), am_Ok am_jj (d + n + 3) m_C_leastMend 0 (am_en m_C_leastMend [.ref x0, .long x1, .int x3]) [] w (f_C_leastMend n x0 x1 x3 w) := by
  induction n with
  | zero => intros; exact ok_none
  | succ n ih =>
    intro d x0 x1 x3 w
    unfold f_C_leastMend
    exact o_C_leastMend_e (d := d + (n + 1)) (ih d) x0 x1 x3 w
-- m_C_mend
def f_C_mend_p2 : Nat → Nat → Int32 → am_W → Option (am_W × Option Int64)
  | 0, _, _, _ => none
  | n + 1, x0, x1, w => (if 3 < x1 then (am_thr w) else ((am_gr w x0 0 1).bind fun v2 => ((f_C_leastMend 6 (v2) (0) (x1) w).bind fun r4 => (if (lg_cmp r4.2 (-1)) = 0 then (f_C_mend_p2 n x0 (x1 + 1) r4.1) else (some (r4.1, some r4.2))))))
def e_C_mend (x0 : Nat) (w : am_W) : Option (am_W × Option Int64) := (f_C_mend_p2 am_N x0 0 w)
def f_C_mend (x0 : Nat) (w : am_W) : Option (am_W × Option Int64) := am_self w x0 0 (e_C_mend x0 w)
theorem o_C_mend_p2 {d : Nat} : ∀ (n : Nat) (x0 : Nat) (x1 : Int32) (y2 y3 : Option Value) (w : am_W), am_Ok am_jx (d + 10) m_C_mend 2 [some (.ref x0), some (.int x1), y2, y3] [] w (f_C_mend_p2 n x0 x1 w) := by
  intro n
  induction n with
  | zero => intros; exact ok_none
  | succ n ih =>
    intro x0 x1 y2 y3 w
    unfold f_C_mend_p2
    refine ok_seg (L := [((.iload_n 1), 1), ((.iconst 3), 1)]) (pc' := 4) (ls' := [some (.ref x0), some (.int x1), y2, y3]) (st' := [.int 3, .int x1]) (w' := w) (by decide +kernel) rfl ?_
    refine ok_br (P := 3 < x1) (off := 29) (t := 33) (by decide +kernel : decode m_C_mend.2.1 4 = .ok ((.if_icmp .gt 29), 3)) rfl rfl rfl rfl (fun c1 => ?_) (fun c1 => ?_)
    · skip
      exact ok_ret (v := none) (by decide +kernel : decode m_C_mend.2.1 33 = .ok ((.new 131), 3)) rfl
    · skip
      refine ok_seg (L := [((.aload_n 0), 1)]) (pc' := 8) (ls' := [some (.ref x0), some (.int x1), y2, y3]) (st' := [.ref x0]) (w' := w) (by decide +kernel) rfl ?_
      refine ok_gr (by decide +kernel : decode m_C_mend.2.1 8 = .ok ((.getfield 19), 3)) rfl (by decide) (fun v2 h3 => ?_)
      refine ok_seg (L := [((.lconst 0), 1), ((.iload_n 1), 1)]) (pc' := 13) (ls' := [some (.ref x0), some (.int x1), y2, y3]) (st' := [.int x1, .long 0, .ref v2]) (w' := w) (by decide +kernel) rfl ?_
      refine ok_call0 (inj' := am_jj) (by decide +kernel : decode m_C_mend.2.1 13 = .ok ((.invokestatic 152), 3)) rfl (fun _ _ => rfl) (o_C_leastMend 6 (d + 0) (v2) (0) (x1) w) (fun _ _ => rfl) (fun r4 h5 => ?_)
      refine ok_seg (L := [((.lstore_n 2), 1), ((.lload_n 2), 1), ((.ldc2_w 156), 3), (.lcmp, 1)]) (pc' := 22) (ls' := [some (.ref x0), some (.int x1), some (.long r4.2), none]) (st' := [.int (lg_cmp r4.2 (-1))]) (w' := r4.1) (by decide +kernel) rfl ?_
      refine ok_br (P := (lg_cmp r4.2 (-1)) = 0) (off := 5) (t := 27) (by decide +kernel : decode m_C_mend.2.1 22 = .ok ((.ifCond .eq 5), 3)) rfl rfl rfl rfl (fun c6 => ?_) (fun c6 => ?_)
      · skip
        refine ok_seg (L := [((.iinc 1 1), 3)]) (pc' := 30) (ls' := [some (.ref x0), some (.int (x1 + 1)), some (.long r4.2), none]) (st' := []) (w' := r4.1) (by decide +kernel) rfl ?_
        refine ok_goto (t := 2) (by decide +kernel : decode m_C_mend.2.1 30 = .ok ((.goto (-28)), 3)) rfl ?_
        exact ih x0 (x1 + 1) (some (.long r4.2)) none r4.1
      · skip
        refine ok_seg (L := [((.lload_n 2), 1)]) (pc' := 26) (ls' := [some (.ref x0), some (.int x1), some (.long r4.2), none]) (st' := [.long r4.2]) (w' := r4.1) (by decide +kernel) rfl ?_
        exact ok_ret (v := some (r4.2)) (by decide +kernel : decode m_C_mend.2.1 26 = .ok (.lreturn, 1)) rfl
theorem o_C_mend (d : Nat) (x0 : Nat) (w : am_W) : am_Ok am_jx (d + 10) m_C_mend 0 (am_en m_C_mend [.ref x0]) [] w (f_C_mend x0 w) := by
  show am_Ok _ _ _ 0 [some (.ref x0), none, none, none] [] w _
  unfold f_C_mend
  refine ok_self ?_
  unfold e_C_mend
  refine ok_seg (L := [((.iconst 0), 1), ((.istore_n 1), 1)]) (pc' := 2) (ls' := [some (.ref x0), some (.int 0), none, none]) (st' := []) (w' := w) (by decide +kernel) rfl ?_
  exact o_C_mend_p2 am_N x0 0 none none w
-- m_M_thrown
def e_M_thrown (x0 : Nat) (w : am_W) : Option (am_W × Int32) := ((am_gi w x0 7 0).bind fun v1 => (some (w, v1)))
def f_M_thrown (x0 : Nat) (w : am_W) : Option (am_W × Int32) := am_self w x0 7 (e_M_thrown x0 w)
theorem o_M_thrown (d : Nat) (x0 : Nat) (w : am_W) : am_Ok am_ji (d + 0) m_M_thrown 0 (am_en m_M_thrown [.ref x0]) [] w (f_M_thrown x0 w) := by
  show am_Ok _ _ _ 0 [some (.ref x0)] [] w _
  unfold f_M_thrown
  refine ok_self ?_
  unfold e_M_thrown
  refine ok_seg (L := [((.aload_n 0), 1)]) (pc' := 1) (ls' := [some (.ref x0)]) (st' := [.ref x0]) (w' := w) (by decide +kernel) rfl ?_
  refine ok_gi (by decide +kernel : decode m_M_thrown.2.1 1 = .ok ((.getfield 1), 3)) rfl (fun v1 h2 => ?_)
  exact ok_ret (v := v1) (by decide +kernel : decode m_M_thrown.2.1 4 = .ok (.ireturn, 1)) rfl
-- m_M_lay
def f_M_lay_p3 : Nat → Nat → Int32 → Int32 → am_W → Option (am_W × Unit)
  | 0, _, _, _, _ => none
  | n + 1, x0, x1, x2, w => (if x2 < 0 then (some (w, ())) else ((am_gr w x0 7 1).bind fun v2 => ((am_gi w x0 7 2).bind fun v4 => ((am_si w v2 v4 ((am_iu x1 x2) &&& 255)).bind fun w6 => ((am_gi w6 x0 7 2).bind fun v8 => ((am_pv w6 x0 7 2 (.int (v8 + 1))).bind fun w10 => (f_M_lay_p3 n x0 x1 (x2 + (-8)) w10)))))))
def e_M_lay (x0 : Nat) (x1 : Int32) (w : am_W) : Option (am_W × Unit) := (f_M_lay_p3 am_N x0 x1 24 w)
def f_M_lay (x0 : Nat) (x1 : Int32) (w : am_W) : Option (am_W × Unit) := am_self w x0 7 (e_M_lay x0 x1 w)
theorem o_M_lay_p3 {d : Nat} : ∀ (n : Nat) (x0 : Nat) (x1 : Int32) (x2 : Int32) (w : am_W), am_Ok am_jv (d + 0) m_M_lay 3 [some (.ref x0), some (.int x1), some (.int x2)] [] w (f_M_lay_p3 n x0 x1 x2 w) := by
  intro n
  induction n with
  | zero => intros; exact ok_none
  | succ n ih =>
    intro x0 x1 x2 w
    unfold f_M_lay_p3
    refine ok_seg (L := [((.iload_n 2), 1)]) (pc' := 4) (ls' := [some (.ref x0), some (.int x1), some (.int x2)]) (st' := [.int x2]) (w' := w) (by decide +kernel) rfl ?_
    refine ok_br (P := x2 < 0) (off := 35) (t := 39) (by decide +kernel : decode m_M_lay.2.1 4 = .ok ((.ifCond .lt 35), 3)) rfl rfl rfl rfl (fun c1 => ?_) (fun c1 => ?_)
    · skip
      exact ok_ret (v := ()) (by decide +kernel : decode m_M_lay.2.1 39 = .ok (.return_, 1)) rfl
    · skip
      refine ok_seg (L := [((.aload_n 0), 1)]) (pc' := 8) (ls' := [some (.ref x0), some (.int x1), some (.int x2)]) (st' := [.ref x0]) (w' := w) (by decide +kernel) rfl ?_
      refine ok_gr (by decide +kernel : decode m_M_lay.2.1 8 = .ok ((.getfield 7), 3)) rfl (by decide) (fun v2 h3 => ?_)
      refine ok_seg (L := [((.aload_n 0), 1)]) (pc' := 12) (ls' := [some (.ref x0), some (.int x1), some (.int x2)]) (st' := [.ref x0, .ref v2]) (w' := w) (by decide +kernel) rfl ?_
      refine ok_gi (by decide +kernel : decode m_M_lay.2.1 12 = .ok ((.getfield 11), 3)) rfl (fun v4 h5 => ?_)
      refine ok_seg (L := [((.iload_n 1), 1), ((.iload_n 2), 1), (.iushr, 1), ((.sipush 255), 3), (.iand, 1)]) (pc' := 22) (ls' := [some (.ref x0), some (.int x1), some (.int x2)]) (st' := [.int ((am_iu x1 x2) &&& 255), .int v4, .ref v2]) (w' := w) (by decide +kernel) rfl ?_
      refine ok_si (by decide +kernel : decode m_M_lay.2.1 22 = .ok (.iastore, 1)) (fun w6 h7 => ?_)
      refine ok_seg (L := [((.aload_n 0), 1), (.dup, 1)]) (pc' := 25) (ls' := [some (.ref x0), some (.int x1), some (.int x2)]) (st' := [.ref x0, .ref x0]) (w' := w6) (by decide +kernel) rfl ?_
      refine ok_gi (by decide +kernel : decode m_M_lay.2.1 25 = .ok ((.getfield 11), 3)) rfl (fun v8 h9 => ?_)
      refine ok_seg (L := [((.iconst 1), 1), (.iadd, 1)]) (pc' := 30) (ls' := [some (.ref x0), some (.int x1), some (.int x2)]) (st' := [.int (v8 + 1), .ref x0]) (w' := w6) (by decide +kernel) rfl ?_
      refine ok_pi (by decide +kernel : decode m_M_lay.2.1 30 = .ok ((.putfield 11), 3)) rfl (fun w10 h11 => ?_)
      refine ok_seg (L := [((.iinc 2 (-8)), 3)]) (pc' := 36) (ls' := [some (.ref x0), some (.int x1), some (.int (x2 + (-8)))]) (st' := []) (w' := w10) (by decide +kernel) rfl ?_
      refine ok_goto (t := 3) (by decide +kernel : decode m_M_lay.2.1 36 = .ok ((.goto (-33)), 3)) rfl ?_
      exact ih x0 x1 (x2 + (-8)) w10
theorem o_M_lay (d : Nat) (x0 : Nat) (x1 : Int32) (w : am_W) : am_Ok am_jv (d + 0) m_M_lay 0 (am_en m_M_lay [.ref x0, .int x1]) [] w (f_M_lay x0 x1 w) := by
  show am_Ok _ _ _ 0 [some (.ref x0), some (.int x1), none] [] w _
  unfold f_M_lay
  refine ok_self ?_
  unfold e_M_lay
  refine ok_seg (L := [((.bipush 24), 2), ((.istore_n 2), 1)]) (pc' := 3) (ls' := [some (.ref x0), some (.int x1), some (.int 24)]) (st' := []) (w' := w) (by decide +kernel) rfl ?_
  exact o_M_lay_p3 am_N x0 x1 24 w
