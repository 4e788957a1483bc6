-- m_C_now
def f_C_now_p95 (s0 : Int32) (w : am_W) : Option (am_W × Int32) := (some (w, s0))
def e_C_now (x0 : Nat) (x1 : Int32) (w : am_W) : Option (am_W × Int32) := (am_sw7 x1 ((am_gr w x0 0 1).bind fun v2 => ((f_G_high (v2) w).bind fun r4 => (some (r4.1, r4.2)))) ((am_gr w x0 0 1).bind fun v6 => ((f_G_wide (v6) w).bind fun r8 => (some (r8.1, r8.2)))) ((am_gr w x0 0 1).bind fun v10 => ((f_G_shades (v10) w).bind fun r12 => (some (r12.1, r12.2)))) ((am_gr w x0 0 1).bind fun v14 => ((f_G_cellsOf (v14) (0) w).bind fun r16 => ((f_J_bitCount (r16.2) r16.1).bind fun r18 => (some (r18.1, r18.2))))) ((am_gr w x0 0 1).bind fun v20 => ((f_G_isGood (v20) w).bind fun r22 => (if r22.2 = 0 then (f_C_now_p95 0 r22.1) else (f_C_now_p95 1 r22.1)))) ((am_gr w x0 0 5).bind fun v25 => ((f_H_size (v25) w).bind fun r27 => (some (r27.1, r27.2)))) ((am_gr w x0 0 0).bind fun v29 => ((f_T_length (v29) w).bind fun r31 => (some (r31.1, r31.2)))) (some (w, (-1))))
def f_C_now (x0 : Nat) (x1 : Int32) (w : am_W) : Option (am_W × Int32) := am_self w x0 0 (e_C_now x0 x1 w)
theorem o_C_now_p95 {d : Nat} (s0 : Int32) (y0 y1 : Option Value) (w : am_W) : am_Ok am_ji (d + 4) m_C_now 95 [y0, y1] [.int s0] w (f_C_now_p95 s0 w) := by
  unfold f_C_now_p95
  exact ok_ret (v := s0) (by decide +kernel : decode m_C_now.2.1 95 = .ok (.ireturn, 1)) rfl
theorem o_C_now (d : Nat) (x0 : Nat) (x1 : Int32) (w : am_W) : am_Ok am_ji (d + 4) m_C_now 0 (am_en m_C_now [.ref x0, .int x1]) [] w (f_C_now x0 x1 w) := by
  show am_Ok _ _ _ 0 [some (.ref x0), some (.int x1)] [] w _
  unfold f_C_now
  refine ok_self ?_
  unfold e_C_now
  refine ok_seg (L := [((.iload_n 1), 1)]) (pc' := 1) (ls' := [some (.ref x0), some (.int x1)]) (st' := [.int x1]) (w' := w) (by decide +kernel) rfl ?_
  refine ok_sw7 (by decide +kernel : decode m_C_now.2.1 1 = .ok ((.tableswitch 111 0 6 #[43, 51, 59, 67, 79, 95, 103]), 43)) rfl rfl rfl rfl rfl rfl rfl rfl ?_ ?_ ?_ ?_ ?_ ?_ ?_ ?_ rfl rfl
  · skip
    refine ok_seg (L := [((.aload_n 0), 1)]) (pc' := 45) (ls' := [some (.ref x0), some (.int x1)]) (st' := [.ref x0]) (w' := w) (by decide +kernel) rfl ?_
    refine ok_gr (by decide +kernel : decode m_C_now.2.1 45 = .ok ((.getfield 19), 3)) rfl (by decide) (fun v2 h3 => ?_)
    refine ok_call0 (inj' := am_ji) (by decide +kernel : decode m_C_now.2.1 48 = .ok ((.invokevirtual 95), 3)) rfl (fun q hq => am_iv0 (am_self_eq hq).1 rfl rfl rfl) (o_G_high (d + 3) (v2) w) (fun _ _ => rfl) (fun r4 h5 => ?_)
    exact ok_ret (v := r4.2) (by decide +kernel : decode m_C_now.2.1 51 = .ok (.ireturn, 1)) rfl
  · skip
    refine ok_seg (L := [((.aload_n 0), 1)]) (pc' := 53) (ls' := [some (.ref x0), some (.int x1)]) (st' := [.ref x0]) (w' := w) (by decide +kernel) rfl ?_
    refine ok_gr (by decide +kernel : decode m_C_now.2.1 53 = .ok ((.getfield 19), 3)) rfl (by decide) (fun v6 h7 => ?_)
    refine ok_call0 (inj' := am_ji) (by decide +kernel : decode m_C_now.2.1 56 = .ok ((.invokevirtual 98), 3)) rfl (fun q hq => am_iv0 (am_self_eq hq).1 rfl rfl rfl) (o_G_wide (d + 3) (v6) w) (fun _ _ => rfl) (fun r8 h9 => ?_)
    exact ok_ret (v := r8.2) (by decide +kernel : decode m_C_now.2.1 59 = .ok (.ireturn, 1)) rfl
  · skip
    refine ok_seg (L := [((.aload_n 0), 1)]) (pc' := 61) (ls' := [some (.ref x0), some (.int x1)]) (st' := [.ref x0]) (w' := w) (by decide +kernel) rfl ?_
    refine ok_gr (by decide +kernel : decode m_C_now.2.1 61 = .ok ((.getfield 19), 3)) rfl (by decide) (fun v10 h11 => ?_)
    refine ok_call0 (inj' := am_ji) (by decide +kernel : decode m_C_now.2.1 64 = .ok ((.invokevirtual 101), 3)) rfl (fun q hq => am_iv0 (am_self_eq hq).1 rfl rfl rfl) (o_G_shades (d + 3) (v10) w) (fun _ _ => rfl) (fun r12 h13 => ?_)
    exact ok_ret (v := r12.2) (by decide +kernel : decode m_C_now.2.1 67 = .ok (.ireturn, 1)) rfl
  · skip
    refine ok_seg (L := [((.aload_n 0), 1)]) (pc' := 69) (ls' := [some (.ref x0), some (.int x1)]) (st' := [.ref x0]) (w' := w) (by decide +kernel) rfl ?_
    refine ok_gr (by decide +kernel : decode m_C_now.2.1 69 = .ok ((.getfield 19), 3)) rfl (by decide) (fun v14 h15 => ?_)
    refine ok_seg (L := [((.iconst 0), 1)]) (pc' := 73) (ls' := [some (.ref x0), some (.int x1)]) (st' := [.int 0, .ref v14]) (w' := w) (by decide +kernel) rfl ?_
    refine ok_call0 (inj' := am_jj) (by decide +kernel : decode m_C_now.2.1 73 = .ok ((.invokevirtual 104), 3)) rfl (fun q hq => am_iv0 (am_self_eq hq).1 rfl rfl rfl) (o_G_cellsOf (d + 3) (v14) (0) w) (fun _ _ => rfl) (fun r16 h17 => ?_)
    refine ok_call0 (inj' := am_ji) (by decide +kernel : decode m_C_now.2.1 76 = .ok ((.invokestatic 108), 3)) rfl (fun _ _ => rfl) (o_J_bitCount (d + 3) (r16.2) r16.1) (fun _ _ => rfl) (fun r18 h19 => ?_)
    exact ok_ret (v := r18.2) (by decide +kernel : decode m_C_now.2.1 79 = .ok (.ireturn, 1)) rfl
  · skip
    refine ok_seg (L := [((.aload_n 0), 1)]) (pc' := 81) (ls' := [some (.ref x0), some (.int x1)]) (st' := [.ref x0]) (w' := w) (by decide +kernel) rfl ?_
    refine ok_gr (by decide +kernel : decode m_C_now.2.1 81 = .ok ((.getfield 19), 3)) rfl (by decide) (fun v20 h21 => ?_)
    refine ok_call0 (inj' := am_ji) (by decide +kernel : decode m_C_now.2.1 84 = .ok ((.invokevirtual 114), 3)) rfl (fun q hq => am_iv0 (am_self_eq hq).1 rfl rfl rfl) (o_G_isGood (d + 0) (v20) w) (fun _ _ => rfl) (fun r22 h23 => ?_)
    refine ok_br (P := r22.2 = 0) (off := 7) (t := 94) (by decide +kernel : decode m_C_now.2.1 87 = .ok ((.ifCond .eq 7), 3)) rfl rfl rfl rfl (fun c24 => ?_) (fun c24 => ?_)
    · skip
      refine ok_seg (L := [((.iconst 0), 1)]) (pc' := 95) (ls' := [some (.ref x0), some (.int x1)]) (st' := [.int 0]) (w' := r22.1) (by decide +kernel) rfl ?_
      exact o_C_now_p95 0 (some (.ref x0)) (some (.int x1)) r22.1
    · skip
      refine ok_seg (L := [((.iconst 1), 1)]) (pc' := 91) (ls' := [some (.ref x0), some (.int x1)]) (st' := [.int 1]) (w' := r22.1) (by decide +kernel) rfl ?_
      refine ok_goto (t := 95) (by decide +kernel : decode m_C_now.2.1 91 = .ok ((.goto 4), 3)) rfl ?_
      exact o_C_now_p95 1 (some (.ref x0)) (some (.int x1)) r22.1
  · skip
    refine ok_seg (L := [((.aload_n 0), 1)]) (pc' := 97) (ls' := [some (.ref x0), some (.int x1)]) (st' := [.ref x0]) (w' := w) (by decide +kernel) rfl ?_
    refine ok_gr (by decide +kernel : decode m_C_now.2.1 97 = .ok ((.getfield 43), 3)) rfl (by decide) (fun v25 h26 => ?_)
    refine ok_call0 (inj' := am_ji) (by decide +kernel : decode m_C_now.2.1 100 = .ok ((.invokevirtual 118), 3)) rfl (fun q hq => am_iv0 (am_self_eq hq).1 rfl rfl rfl) (o_H_size (d + 3) (v25) w) (fun _ _ => rfl) (fun r27 h28 => ?_)
    exact ok_ret (v := r27.2) (by decide +kernel : decode m_C_now.2.1 103 = .ok (.ireturn, 1)) rfl
  · skip
    refine ok_seg (L := [((.aload_n 0), 1)]) (pc' := 105) (ls' := [some (.ref x0), some (.int x1)]) (st' := [.ref x0]) (w' := w) (by decide +kernel) rfl ?_
    refine ok_gr (by decide +kernel : decode m_C_now.2.1 105 = .ok ((.getfield 10), 3)) rfl (by decide) (fun v29 h30 => ?_)
    refine ok_call0 (inj' := am_ji) (by decide +kernel : decode m_C_now.2.1 108 = .ok ((.invokevirtual 60), 3)) rfl (fun q hq => am_iv0 (am_self_eq hq).1 rfl rfl rfl) (o_T_length (d + 3) (v29) w) (fun _ _ => rfl) (fun r31 h32 => ?_)
    exact ok_ret (v := r31.2) (by decide +kernel : decode m_C_now.2.1 111 = .ok (.ireturn, 1)) rfl
  · skip
    refine ok_seg (L := [((.iconst (-1)), 1)]) (pc' := 113) (ls' := [some (.ref x0), some (.int x1)]) (st' := [.int (-1)]) (w' := w) (by decide +kernel) rfl ?_
    exact ok_ret (v := (-1)) (by decide +kernel : decode m_C_now.2.1 113 = .ok (.ireturn, 1)) rfl
-- m_G_colourOf
def f_G_colourOf_p2 : Nat → Nat → Int32 → Int32 → am_W → Option (am_W × Int32)
  | 0, _, _, _, _ => none
  | n + 1, x0, x1, x2, w => ((am_gi w x0 1 3).bind fun v1 => (if v1 < x2 then (some (w, 0)) else ((f_G_cellsOf (x0) (x2) w).bind fun r4 => (if (lg_cmp ((am_lu r4.2 x1) &&& 1) 0) = 0 then (f_G_colourOf_p2 n x0 x1 (x2 + 1) r4.1) else (some (r4.1, x2))))))
def e_G_colourOf (x0 : Nat) (x1 : Int32) (w : am_W) : Option (am_W × Int32) := (f_G_colourOf_p2 am_N x0 x1 1 w)
def f_G_colourOf (x0 : Nat) (x1 : Int32) (w : am_W) : Option (am_W × Int32) := am_self w x0 1 (e_G_colourOf x0 x1 w)
theorem o_G_colourOf_p2 {d : Nat} : ∀ (n : Nat) (x0 : Nat) (x1 : Int32) (x2 : Int32) (w : am_W), am_Ok am_ji (d + 1) m_G_colourOf 2 [some (.ref x0), some (.int x1), some (.int x2)] [] w (f_G_colourOf_p2 n x0 x1 x2 w) := by
  intro n
  induction n with
  | zero => intros; exact ok_none
  | succ n ih =>
    intro x0 x1 x2 w
    unfold f_G_colourOf_p2
    refine ok_seg (L := [((.iload_n 2), 1), ((.aload_n 0), 1)]) (pc' := 4) (ls' := [some (.ref x0), some (.int x1), some (.int x2)]) (st' := [.ref x0, .int x2]) (w' := w) (by decide +kernel) rfl ?_
    refine ok_gi (by decide +kernel : decode m_G_colourOf.2.1 4 = .ok ((.getfield 22), 3)) rfl (fun v1 h2 => ?_)
    refine ok_br (P := v1 < x2) (off := 25) (t := 32) (by decide +kernel : decode m_G_colourOf.2.1 7 = .ok ((.if_icmp .gt 25), 3)) rfl rfl rfl rfl (fun c3 => ?_) (fun c3 => ?_)
    · skip
      refine ok_seg (L := [((.iconst 0), 1)]) (pc' := 33) (ls' := [some (.ref x0), some (.int x1), some (.int x2)]) (st' := [.int 0]) (w' := w) (by decide +kernel) rfl ?_
      exact ok_ret (v := 0) (by decide +kernel : decode m_G_colourOf.2.1 33 = .ok (.ireturn, 1)) rfl
    · skip
      refine ok_seg (L := [((.aload_n 0), 1), ((.iload_n 2), 1)]) (pc' := 12) (ls' := [some (.ref x0), some (.int x1), some (.int x2)]) (st' := [.int x2, .ref x0]) (w' := w) (by decide +kernel) rfl ?_
      refine ok_call0 (inj' := am_jj) (by decide +kernel : decode m_G_colourOf.2.1 12 = .ok ((.invokevirtual 31), 3)) rfl (fun q hq => am_iv0 (am_self_eq hq).1 rfl rfl rfl) (o_G_cellsOf (d + 0) (x0) (x2) w) (fun _ _ => rfl) (fun r4 h5 => ?_)
      refine ok_seg (L := [((.iload_n 1), 1), (.lushr, 1), ((.lconst 1), 1), (.land, 1), ((.lconst 0), 1), (.lcmp, 1)]) (pc' := 21) (ls' := [some (.ref x0), some (.int x1), some (.int x2)]) (st' := [.int (lg_cmp ((am_lu r4.2 x1) &&& 1) 0)]) (w' := r4.1) (by decide +kernel) rfl ?_
      refine ok_br (P := (lg_cmp ((am_lu r4.2 x1) &&& 1) 0) = 0) (off := 5) (t := 26) (by decide +kernel : decode m_G_colourOf.2.1 21 = .ok ((.ifCond .eq 5), 3)) rfl rfl rfl rfl (fun c6 => ?_) (fun c6 => ?_)
      · skip
        refine ok_seg (L := [((.iinc 2 1), 3)]) (pc' := 29) (ls' := [some (.ref x0), some (.int x1), some (.int (x2 + 1))]) (st' := []) (w' := r4.1) (by decide +kernel) rfl ?_
        refine ok_goto (t := 2) (by decide +kernel : decode m_G_colourOf.2.1 29 = .ok ((.goto (-27)), 3)) rfl ?_
        exact ih x0 x1 (x2 + 1) r4.1
      · skip
        refine ok_seg (L := [((.iload_n 2), 1)]) (pc' := 25) (ls' := [some (.ref x0), some (.int x1), some (.int x2)]) (st' := [.int x2]) (w' := r4.1) (by decide +kernel) rfl ?_
        exact ok_ret (v := x2) (by decide +kernel : decode m_G_colourOf.2.1 25 = .ok (.ireturn, 1)) rfl
theorem o_G_colourOf (d : Nat) (x0 : Nat) (x1 : Int32) (w : am_W) : am_Ok am_ji (d + 1) m_G_colourOf 0 (am_en m_G_colourOf [.ref x0, .int x1]) [] w (f_G_colourOf x0 x1 w) := by
  show am_Ok _ _ _ 0 [some (.ref x0), some (.int x1), none] [] w _
  unfold f_G_colourOf
  refine ok_self ?_
  unfold e_G_colourOf
  refine ok_seg (L := [((.iconst 1), 1), ((.istore_n 2), 1)]) (pc' := 2) (ls' := [some (.ref x0), some (.int x1), some (.int 1)]) (st' := []) (w' := w) (by decide +kernel) rfl ?_
  exact o_G_colourOf_p2 am_N x0 x1 1 w
-- m_C_at
def f_C_at_p23 (s0 : Int32) (w : am_W) : Option (am_W × Int32) := (some (w, s0))
def e_C_at (x0 : Nat) (x1 : Int32) (w : am_W) : Option (am_W × Int32) := ((am_gr w x0 0 1).bind fun v1 => ((f_G_hasCell (v1) (x1) w).bind fun r3 => (if r3.2 = 0 then (f_C_at_p23 (-1) r3.1) else ((am_gr r3.1 x0 0 1).bind fun v6 => ((f_G_colourOf (v6) (x1) r3.1).bind fun r8 => (f_C_at_p23 r8.2 r8.1))))))
def f_C_at (x0 : Nat) (x1 : Int32) (w : am_W) : Option (am_W × Int32) := am_self w x0 0 (e_C_at x0 x1 w)
theorem o_C_at_p23 {d : Nat} (s0 : Int32) (y0 y1 : Option Value) (w : am_W) : am_Ok am_ji (d + 2) m_C_at 23 [y0, y1] [.int s0] w (f_C_at_p23 s0 w) := by
  unfold f_C_at_p23
  exact ok_ret (v := s0) (by decide +kernel : decode m_C_at.2.1 23 = .ok (.ireturn, 1)) rfl
theorem o_C_at (d : Nat) (x0 : Nat) (x1 : Int32) (w : am_W) : am_Ok am_ji (d + 2) m_C_at 0 (am_en m_C_at [.ref x0, .int x1]) [] w (f_C_at x0 x1 w) := by
  show am_Ok _ _ _ 0 [some (.ref x0), some (.int x1)] [] w _
  unfold f_C_at
  refine ok_self ?_
  unfold e_C_at
  refine ok_seg (L := [((.aload_n 0), 1)]) (pc' := 1) (ls' := [some (.ref x0), some (.int x1)]) (st' := [.ref x0]) (w' := w) (by decide +kernel) rfl ?_
  refine ok_gr (by decide +kernel : decode m_C_at.2.1 1 = .ok ((.getfield 19), 3)) rfl (by decide) (fun v1 h2 => ?_)
  refine ok_seg (L := [((.iload_n 1), 1)]) (pc' := 5) (ls' := [some (.ref x0), some (.int x1)]) (st' := [.int x1, .ref v1]) (w' := w) (by decide +kernel) rfl ?_
  refine ok_call0 (inj' := am_ji) (by decide +kernel : decode m_C_at.2.1 5 = .ok ((.invokevirtual 121), 3)) rfl (fun q hq => am_iv0 (am_self_eq hq).1 rfl rfl rfl) (o_G_hasCell (d + 1) (v1) (x1) w) (fun _ _ => rfl) (fun r3 h4 => ?_)
  refine ok_br (P := r3.2 = 0) (off := 14) (t := 22) (by decide +kernel : decode m_C_at.2.1 8 = .ok ((.ifCond .eq 14), 3)) rfl rfl rfl rfl (fun c5 => ?_) (fun c5 => ?_)
  · skip
    refine ok_seg (L := [((.iconst (-1)), 1)]) (pc' := 23) (ls' := [some (.ref x0), some (.int x1)]) (st' := [.int (-1)]) (w' := r3.1) (by decide +kernel) rfl ?_
    exact o_C_at_p23 (-1) (some (.ref x0)) (some (.int x1)) r3.1
  · skip
    refine ok_seg (L := [((.aload_n 0), 1)]) (pc' := 12) (ls' := [some (.ref x0), some (.int x1)]) (st' := [.ref x0]) (w' := r3.1) (by decide +kernel) rfl ?_
    refine ok_gr (by decide +kernel : decode m_C_at.2.1 12 = .ok ((.getfield 19), 3)) rfl (by decide) (fun v6 h7 => ?_)
    refine ok_seg (L := [((.iload_n 1), 1)]) (pc' := 16) (ls' := [some (.ref x0), some (.int x1)]) (st' := [.int x1, .ref v6]) (w' := r3.1) (by decide +kernel) rfl ?_
    refine ok_call0 (inj' := am_ji) (by decide +kernel : decode m_C_at.2.1 16 = .ok ((.invokevirtual 124), 3)) rfl (fun q hq => am_iv0 (am_self_eq hq).1 rfl rfl rfl) (o_G_colourOf (d + 0) (v6) (x1) r3.1) (fun _ _ => rfl) (fun r8 h9 => ?_)
    refine ok_goto (t := 23) (by decide +kernel : decode m_C_at.2.1 19 = .ok ((.goto 4), 3)) rfl ?_
    exact o_C_at_p23 r8.2 (some (.ref x0)) (some (.int x1)) r8.1
-- m_C_pairsOf
def e_C_pairsOf (x0 : Int32) (w : am_W) : Option (am_W × Int32) := (if 2 = 0 then none else (some (w, ((x0 * (x0 - 1)) / 2))))
def f_C_pairsOf (x0 : Int32) (w : am_W) : Option (am_W × Int32) := e_C_pairsOf x0 w
theorem o_C_pairsOf (d : Nat) (x0 : Int32) (w : am_W) : am_Ok am_ji (d + 0) m_C_pairsOf 0 (am_en m_C_pairsOf [.int x0]) [] w (f_C_pairsOf x0 w) := by
  show am_Ok _ _ _ 0 [some (.int x0)] [] w _
  unfold f_C_pairsOf
  unfold e_C_pairsOf
  refine ok_seg (L := [((.iload_n 0), 1), ((.iload_n 0), 1), ((.iconst 1), 1), (.isub, 1), (.imul, 1), ((.iconst 2), 1)]) (pc' := 6) (ls' := [some (.int x0)]) (st' := [.int 2, .int (x0 * (x0 - 1))]) (w' := w) (by decide +kernel) rfl ?_
  refine ok_div (by decide +kernel : decode m_C_pairsOf.2.1 6 = .ok (.idiv, 1)) (fun c1 => ?_)
  exact ok_ret (v := ((x0 * (x0 - 1)) / 2)) (by decide +kernel : decode m_C_pairsOf.2.1 7 = .ok (.ireturn, 1)) rfl
-- m_I_bitCount
def e_I_bitCount (x0 : Int32) (w : am_W) : Option (am_W × Int32) := (some (w, ((((((((x0 - ((am_iu x0 1) &&& 1431655765)) &&& 858993459) + ((am_iu (x0 - ((am_iu x0 1) &&& 1431655765)) 2) &&& 858993459)) + (am_iu (((x0 - ((am_iu x0 1) &&& 1431655765)) &&& 858993459) + ((am_iu (x0 - ((am_iu x0 1) &&& 1431655765)) 2) &&& 858993459)) 4)) &&& 252645135) + (am_iu (((((x0 - ((am_iu x0 1) &&& 1431655765)) &&& 858993459) + ((am_iu (x0 - ((am_iu x0 1) &&& 1431655765)) 2) &&& 858993459)) + (am_iu (((x0 - ((am_iu x0 1) &&& 1431655765)) &&& 858993459) + ((am_iu (x0 - ((am_iu x0 1) &&& 1431655765)) 2) &&& 858993459)) 4)) &&& 252645135) 8)) + (am_iu ((((((x0 - ((am_iu x0 1) &&& 1431655765)) &&& 858993459) + ((am_iu (x0 - ((am_iu x0 1) &&& 1431655765)) 2) &&& 858993459)) + (am_iu (((x0 - ((am_iu x0 1) &&& 1431655765)) &&& 858993459) + ((am_iu (x0 - ((am_iu x0 1) &&& 1431655765)) 2) &&& 858993459)) 4)) &&& 252645135) + (am_iu (((((x0 - ((am_iu x0 1) &&& 1431655765)) &&& 858993459) + ((am_iu (x0 - ((am_iu x0 1) &&& 1431655765)) 2) &&& 858993459)) + (am_iu (((x0 - ((am_iu x0 1) &&& 1431655765)) &&& 858993459) + ((am_iu (x0 - ((am_iu x0 1) &&& 1431655765)) 2) &&& 858993459)) 4)) &&& 252645135) 8)) 16)) &&& 63)))
def f_I_bitCount (x0 : Int32) (w : am_W) : Option (am_W × Int32) := e_I_bitCount x0 w
theorem o_I_bitCount (d : Nat) (x0 : Int32) (w : am_W) : am_Ok am_ji (d + 0) m_I_bitCount 0 (am_en m_I_bitCount [.int x0]) [] w (f_I_bitCount x0 w) := by
  show am_Ok _ _ _ 0 [some (.int x0)] [] w _
  unfold f_I_bitCount
  unfold e_I_bitCount
  refine ok_seg (L := [((.iload_n 0), 1), ((.iload_n 0), 1), ((.iconst 1), 1), (.iushr, 1), ((.ldc_w 265), 3), (.iand, 1), (.isub, 1), ((.istore_n 0), 1), ((.iload_n 0), 1), ((.ldc_w 266), 3), (.iand, 1), ((.iload_n 0), 1), ((.iconst 2), 1), (.iushr, 1), ((.ldc_w 266), 3), (.iand, 1), (.iadd, 1), ((.istore_n 0), 1), ((.iload_n 0), 1), ((.iload_n 0), 1), ((.iconst 4), 1), (.iushr, 1), (.iadd, 1), ((.ldc_w 267), 3), (.iand, 1), ((.istore_n 0), 1), ((.iload_n 0), 1), ((.iload_n 0), 1), ((.bipush 8), 2), (.iushr, 1), (.iadd, 1), ((.istore_n 0), 1), ((.iload_n 0), 1), ((.iload_n 0), 1), ((.bipush 16), 2), (.iushr, 1), (.iadd, 1), ((.istore_n 0), 1), ((.iload_n 0), 1), ((.bipush 63), 2), (.iand, 1)]) (pc' := 52) (ls' := [some (.int (((((((x0 - ((am_iu x0 1) &&& 1431655765)) &&& 858993459) + ((am_iu (x0 - ((am_iu x0 1) &&& 1431655765)) 2) &&& 858993459)) + (am_iu (((x0 - ((am_iu x0 1) &&& 1431655765)) &&& 858993459) + ((am_iu (x0 - ((am_iu x0 1) &&& 1431655765)) 2) &&& 858993459)) 4)) &&& 252645135) + (am_iu (((((x0 - ((am_iu x0 1) &&& 1431655765)) &&& 858993459) + ((am_iu (x0 - ((am_iu x0 1) &&& 1431655765)) 2) &&& 858993459)) + (am_iu (((x0 - ((am_iu x0 1) &&& 1431655765)) &&& 858993459) + ((am_iu (x0 - ((am_iu x0 1) &&& 1431655765)) 2) &&& 858993459)) 4)) &&& 252645135) 8)) + (am_iu ((((((x0 - ((am_iu x0 1) &&& 1431655765)) &&& 858993459) + ((am_iu (x0 - ((am_iu x0 1) &&& 1431655765)) 2) &&& 858993459)) + (am_iu (((x0 - ((am_iu x0 1) &&& 1431655765)) &&& 858993459) + ((am_iu (x0 - ((am_iu x0 1) &&& 1431655765)) 2) &&& 858993459)) 4)) &&& 252645135) + (am_iu (((((x0 - ((am_iu x0 1) &&& 1431655765)) &&& 858993459) + ((am_iu (x0 - ((am_iu x0 1) &&& 1431655765)) 2) &&& 858993459)) + (am_iu (((x0 - ((am_iu x0 1) &&& 1431655765)) &&& 858993459) + ((am_iu (x0 - ((am_iu x0 1) &&& 1431655765)) 2) &&& 858993459)) 4)) &&& 252645135) 8)) 16)))]) (st' := [.int ((((((((x0 - ((am_iu x0 1) &&& 1431655765)) &&& 858993459) + ((am_iu (x0 - ((am_iu x0 1) &&& 1431655765)) 2) &&& 858993459)) + (am_iu (((x0 - ((am_iu x0 1) &&& 1431655765)) &&& 858993459) + ((am_iu (x0 - ((am_iu x0 1) &&& 1431655765)) 2) &&& 858993459)) 4)) &&& 252645135) + (am_iu (((((x0 - ((am_iu x0 1) &&& 1431655765)) &&& 858993459) + ((am_iu (x0 - ((am_iu x0 1) &&& 1431655765)) 2) &&& 858993459)) + (am_iu (((x0 - ((am_iu x0 1) &&& 1431655765)) &&& 858993459) + ((am_iu (x0 - ((am_iu x0 1) &&& 1431655765)) 2) &&& 858993459)) 4)) &&& 252645135) 8)) + (am_iu ((((((x0 - ((am_iu x0 1) &&& 1431655765)) &&& 858993459) + ((am_iu (x0 - ((am_iu x0 1) &&& 1431655765)) 2) &&& 858993459)) + (am_iu (((x0 - ((am_iu x0 1) &&& 1431655765)) &&& 858993459) + ((am_iu (x0 - ((am_iu x0 1) &&& 1431655765)) 2) &&& 858993459)) 4)) &&& 252645135) + (am_iu (((((x0 - ((am_iu x0 1) &&& 1431655765)) &&& 858993459) + ((am_iu (x0 - ((am_iu x0 1) &&& 1431655765)) 2) &&& 858993459)) + (am_iu (((x0 - ((am_iu x0 1) &&& 1431655765)) &&& 858993459) + ((am_iu (x0 - ((am_iu x0 1) &&& 1431655765)) 2) &&& 858993459)) 4)) &&& 252645135) 8)) 16)) &&& 63)]) (w' := w) (by decide +kernel) rfl ?_
  exact ok_ret (v := ((((((((x0 - ((am_iu x0 1) &&& 1431655765)) &&& 858993459) + ((am_iu (x0 - ((am_iu x0 1) &&& 1431655765)) 2) &&& 858993459)) + (am_iu (((x0 - ((am_iu x0 1) &&& 1431655765)) &&& 858993459) + ((am_iu (x0 - ((am_iu x0 1) &&& 1431655765)) 2) &&& 858993459)) 4)) &&& 252645135) + (am_iu (((((x0 - ((am_iu x0 1) &&& 1431655765)) &&& 858993459) + ((am_iu (x0 - ((am_iu x0 1) &&& 1431655765)) 2) &&& 858993459)) + (am_iu (((x0 - ((am_iu x0 1) &&& 1431655765)) &&& 858993459) + ((am_iu (x0 - ((am_iu x0 1) &&& 1431655765)) 2) &&& 858993459)) 4)) &&& 252645135) 8)) + (am_iu ((((((x0 - ((am_iu x0 1) &&& 1431655765)) &&& 858993459) + ((am_iu (x0 - ((am_iu x0 1) &&& 1431655765)) 2) &&& 858993459)) + (am_iu (((x0 - ((am_iu x0 1) &&& 1431655765)) &&& 858993459) + ((am_iu (x0 - ((am_iu x0 1) &&& 1431655765)) 2) &&& 858993459)) 4)) &&& 252645135) + (am_iu (((((x0 - ((am_iu x0 1) &&& 1431655765)) &&& 858993459) + ((am_iu (x0 - ((am_iu x0 1) &&& 1431655765)) 2) &&& 858993459)) + (am_iu (((x0 - ((am_iu x0 1) &&& 1431655765)) &&& 858993459) + ((am_iu (x0 - ((am_iu x0 1) &&& 1431655765)) 2) &&& 858993459)) 4)) &&& 252645135) 8)) 16)) &&& 63)) (by decide +kernel : decode m_I_bitCount.2.1 52 = .ok (.ireturn, 1)) rfl
-- m_G_countOf
def f_G_countOf_p36 (k12 : Nat → Int64 → Int32 → Int32 → am_W → Option (am_W × Int32)) : Nat → Nat → Int64 → Int32 → Int32 → Int32 → Int32 → am_W → Option (am_W × Int32)
  | 0, _, _, _, _, _, _, _ => none
  | n + 1, x0, x2, x4, x5, x6, x7, w => ((am_gi w x0 1 1).bind fun v1 => (if v1 ≤ x7 then (k12 x0 x2 x4 (x5 + 1) w) else ((f_G_columnsOf (x0) (x2) (x7) w).bind fun r4 => ((f_I_bitCount ((x6 &&& r4.2)) r4.1).bind fun r6 => ((f_C_pairsOf (r6.2) r6.1).bind fun r8 => (f_G_countOf_p36 k12 n x0 x2 (x4 + r8.2) x5 x6 (x7 + 1) r8.1))))))
def f_G_countOf_p12 : Nat → Nat → Int64 → Int32 → Int32 → am_W → Option (am_W × Int32)
  | 0, _, _, _, _, _ => none
  | n + 1, x0, x2, x4, x5, w => ((am_gi w x0 1 1).bind fun v10 => (if v10 ≤ x5 then (some (w, x4)) else ((f_G_columnsOf (x0) (x2) (x5) w).bind fun r13 => (f_G_countOf_p36 (f_G_countOf_p12 n) am_N x0 x2 x4 x5 r13.2 (x5 + 1) r13.1))))
def e_G_countOf (x0 : Nat) (x1 : Int32) (w : am_W) : Option (am_W × Int32) := ((f_G_cellsOf (x0) (x1) w).bind fun r15 => (f_G_countOf_p12 am_N x0 r15.2 0 0 r15.1))
def f_G_countOf (x0 : Nat) (x1 : Int32) (w : am_W) : Option (am_W × Int32) := am_self w x0 1 (e_G_countOf x0 x1 w)
theorem o_G_countOf_p36 {d : Nat} {k12 : Nat → Int64 → Int32 → Int32 → am_W → Option (am_W × Int32)} (hk12 : ∀ (x0 : Nat) (x2 : Int64) (x4 : Int32) (x5 : Int32) (y1 y3 y6 y7 : Option Value) (w : am_W), am_Ok am_ji (d + 1) m_G_countOf 12 [some (.ref x0), y1, some (.long x2), y3, some (.int x4), some (.int x5), y6, y7] [] w (k12 x0 x2 x4 x5 w)) : ∀ (n : Nat) (x0 : Nat) (x2 : Int64) (x4 : Int32) (x5 : Int32) (x6 : Int32) (x7 : Int32) (y1 y3 : Option Value) (w : am_W), am_Ok am_ji (d + 1) m_G_countOf 36 [some (.ref x0), y1, some (.long x2), y3, some (.int x4), some (.int x5), some (.int x6), some (.int x7)] [] w (f_G_countOf_p36 k12 n x0 x2 x4 x5 x6 x7 w) := by
  intro n
  induction n with
  | zero => intros; exact ok_none
  | succ n ih =>
    intro x0 x2 x4 x5 x6 x7 y1 y3 w
    unfold f_G_countOf_p36
    refine ok_seg (L := [((.iload 7), 2), ((.aload_n 0), 1)]) (pc' := 39) (ls' := [some (.ref x0), y1, some (.long x2), y3, some (.int x4), some (.int x5), some (.int x6), some (.int x7)]) (st' := [.ref x0, .int x7]) (w' := w) (by decide +kernel) rfl ?_
    refine ok_gi (by decide +kernel : decode m_G_countOf.2.1 39 = .ok ((.getfield 15), 3)) rfl (fun v1 h2 => ?_)
    refine ok_br (P := v1 ≤ x7) (off := 30) (t := 72) (by decide +kernel : decode m_G_countOf.2.1 42 = .ok ((.if_icmp .ge 30), 3)) rfl rfl rfl rfl (fun c3 => ?_) (fun c3 => ?_)
    · skip
      refine ok_seg (L := [((.iinc 5 1), 3)]) (pc' := 75) (ls' := [some (.ref x0), y1, some (.long x2), y3, some (.int x4), some (.int (x5 + 1)), some (.int x6), some (.int x7)]) (st' := []) (w' := w) (by decide +kernel) rfl ?_
      refine ok_goto (t := 12) (by decide +kernel : decode m_G_countOf.2.1 75 = .ok ((.goto (-63)), 3)) rfl ?_
      exact hk12 x0 x2 x4 (x5 + 1) y1 y3 (some (.int x6)) (some (.int x7)) w
    · skip
      refine ok_seg (L := [((.iload 4), 2), ((.iload 6), 2), ((.aload_n 0), 1), ((.lload_n 2), 1), ((.iload 7), 2)]) (pc' := 53) (ls' := [some (.ref x0), y1, some (.long x2), y3, some (.int x4), some (.int x5), some (.int x6), some (.int x7)]) (st' := [.int x7, .long x2, .ref x0, .int x6, .int x4]) (w' := w) (by decide +kernel) rfl ?_
      refine ok_call0 (inj' := am_ji) (by decide +kernel : decode m_G_countOf.2.1 53 = .ok ((.invokevirtual 50), 3)) rfl (fun q hq => am_iv0 (am_self_eq hq).1 rfl rfl rfl) (o_G_columnsOf (d + 0) (x0) (x2) (x7) w) (fun _ _ => rfl) (fun r4 h5 => ?_)
      refine ok_seg (L := [(.iand, 1)]) (pc' := 57) (ls' := [some (.ref x0), y1, some (.long x2), y3, some (.int x4), some (.int x5), some (.int x6), some (.int x7)]) (st' := [.int (x6 &&& r4.2), .int x4]) (w' := r4.1) (by decide +kernel) rfl ?_
      refine ok_call0 (inj' := am_ji) (by decide +kernel : decode m_G_countOf.2.1 57 = .ok ((.invokestatic 54), 3)) rfl (fun _ _ => rfl) (o_I_bitCount (d + 0) ((x6 &&& r4.2)) r4.1) (fun _ _ => rfl) (fun r6 h7 => ?_)
      refine ok_call0 (inj' := am_ji) (by decide +kernel : decode m_G_countOf.2.1 60 = .ok ((.invokestatic 59), 3)) rfl (fun _ _ => rfl) (o_C_pairsOf (d + 0) (r6.2) r6.1) (fun _ _ => rfl) (fun r8 h9 => ?_)
      refine ok_seg (L := [(.iadd, 1), ((.istore 4), 2), ((.iinc 7 1), 3)]) (pc' := 69) (ls' := [some (.ref x0), y1, some (.long x2), y3, some (.int (x4 + r8.2)), some (.int x5), some (.int x6), some (.int (x7 + 1))]) (st' := []) (w' := r8.1) (by decide +kernel) rfl ?_
      refine ok_goto (t := 36) (by decide +kernel : decode m_G_countOf.2.1 69 = .ok ((.goto (-33)), 3)) rfl ?_
      exact ih x0 x2 (x4 + r8.2) x5 x6 (x7 + 1) y1 y3 r8.1
theorem o_G_countOf_p12 {d : Nat} : ∀ (n : Nat) (x0 : Nat) (x2 : Int64) (x4 : Int32) (x5 : Int32) (y1 y3 y6 y7 : Option Value) (w : am_W), am_Ok am_ji (d + 1) m_G_countOf 12 [some (.ref x0), y1, some (.long x2), y3, some (.int x4), some (.int x5), y6, y7] [] w (f_G_countOf_p12 n x0 x2 x4 x5 w) := by
  intro n
  induction n with
  | zero => intros; exact ok_none
  | succ n ih =>
    intro x0 x2 x4 x5 y1 y3 y6 y7 w
    unfold f_G_countOf_p12
    refine ok_seg (L := [((.iload 5), 2), ((.aload_n 0), 1)]) (pc' := 15) (ls' := [some (.ref x0), y1, some (.long x2), y3, some (.int x4), some (.int x5), y6, y7]) (st' := [.ref x0, .int x5]) (w' := w) (by decide +kernel) rfl ?_
    refine ok_gi (by decide +kernel : decode m_G_countOf.2.1 15 = .ok ((.getfield 15), 3)) rfl (fun v10 h11 => ?_)
    refine ok_br (P := v10 ≤ x5) (off := 60) (t := 78) (by decide +kernel : decode m_G_countOf.2.1 18 = .ok ((.if_icmp .ge 60), 3)) rfl rfl rfl rfl (fun c12 => ?_) (fun c12 => ?_)
    · skip
      refine ok_seg (L := [((.iload 4), 2)]) (pc' := 80) (ls' := [some (.ref x0), y1, some (.long x2), y3, some (.int x4), some (.int x5), y6, y7]) (st' := [.int x4]) (w' := w) (by decide +kernel) rfl ?_
      exact ok_ret (v := x4) (by decide +kernel : decode m_G_countOf.2.1 80 = .ok (.ireturn, 1)) rfl
    · skip
      refine ok_seg (L := [((.aload_n 0), 1), ((.lload_n 2), 1), ((.iload 5), 2)]) (pc' := 25) (ls' := [some (.ref x0), y1, some (.long x2), y3, some (.int x4), some (.int x5), y6, y7]) (st' := [.int x5, .long x2, .ref x0]) (w' := w) (by decide +kernel) rfl ?_
      refine ok_call0 (inj' := am_ji) (by decide +kernel : decode m_G_countOf.2.1 25 = .ok ((.invokevirtual 50), 3)) rfl (fun q hq => am_iv0 (am_self_eq hq).1 rfl rfl rfl) (o_G_columnsOf (d + 0) (x0) (x2) (x5) w) (fun _ _ => rfl) (fun r13 h14 => ?_)
      refine ok_seg (L := [((.istore 6), 2), ((.iload 5), 2), ((.iconst 1), 1), (.iadd, 1), ((.istore 7), 2)]) (pc' := 36) (ls' := [some (.ref x0), y1, some (.long x2), y3, some (.int x4), some (.int x5), some (.int r13.2), some (.int (x5 + 1))]) (st' := []) (w' := r13.1) (by decide +kernel) rfl ?_
      exact o_G_countOf_p36 ih am_N x0 x2 x4 x5 r13.2 (x5 + 1) y1 y3 r13.1
theorem o_G_countOf (d : Nat) (x0 : Nat) (x1 : Int32) (w : am_W) : am_Ok am_ji (d + 1) m_G_countOf 0 (am_en m_G_countOf [.ref x0, .int x1]) [] w (f_G_countOf x0 x1 w) := by
  show am_Ok _ _ _ 0 [some (.ref x0), some (.int x1), none, none, none, none, none, none] [] w _
  unfold f_G_countOf
  refine ok_self ?_
  unfold e_G_countOf
  refine ok_seg (L := [((.aload_n 0), 1), ((.iload_n 1), 1)]) (pc' := 2) (ls' := [some (.ref x0), some (.int x1), none, none, none, none, none, none]) (st' := [.int x1, .ref x0]) (w' := w) (by decide +kernel) rfl ?_
  refine ok_call0 (inj' := am_jj) (by decide +kernel : decode m_G_countOf.2.1 2 = .ok ((.invokevirtual 31), 3)) rfl (fun q hq => am_iv0 (am_self_eq hq).1 rfl rfl rfl) (o_G_cellsOf (d + 0) (x0) (x1) w) (fun _ _ => rfl) (fun r15 h16 => ?_)
  refine ok_seg (L := [((.lstore_n 2), 1), ((.iconst 0), 1), ((.istore 4), 2), ((.iconst 0), 1), ((.istore 5), 2)]) (pc' := 12) (ls' := [some (.ref x0), some (.int x1), some (.long r15.2), none, some (.int 0), some (.int 0), none, none]) (st' := []) (w' := r15.1) (by decide +kernel) rfl ?_
  exact o_G_countOf_p12 am_N x0 r15.2 0 0 (some (.int x1)) none none none r15.1
-- m_G_countAll
def f_G_countAll_p4 : Nat → Nat → Int32 → Int32 → am_W → Option (am_W × Int32)
  | 0, _, _, _, _ => none
  | n + 1, x0, x1, x2, w => ((am_gi w x0 1 3).bind fun v1 => (if v1 < x2 then (some (w, x1)) else ((f_G_countOf (x0) (x2) w).bind fun r4 => (f_G_countAll_p4 n x0 (x1 + r4.2) (x2 + 1) r4.1))))
def e_G_countAll (x0 : Nat) (w : am_W) : Option (am_W × Int32) := (f_G_countAll_p4 am_N x0 0 1 w)
def f_G_countAll (x0 : Nat) (w : am_W) : Option (am_W × Int32) := am_self w x0 1 (e_G_countAll x0 w)
theorem o_G_countAll_p4 {d : Nat} : ∀ (n : Nat) (x0 : Nat) (x1 : Int32) (x2 : Int32) (w : am_W), am_Ok am_ji (d + 2) m_G_countAll 4 [some (.ref x0), some (.int x1), some (.int x2)] [] w (f_G_countAll_p4 n x0 x1 x2 w) := by
  intro n
  induction n with
  | zero => intros; exact ok_none
  | succ n ih =>
    intro x0 x1 x2 w
    unfold f_G_countAll_p4
    refine ok_seg (L := [((.iload_n 2), 1), ((.aload_n 0), 1)]) (pc' := 6) (ls' := [some (.ref x0), some (.int x1), some (.int x2)]) (st' := [.ref x0, .int x2]) (w' := w) (by decide +kernel) rfl ?_
    refine ok_gi (by decide +kernel : decode m_G_countAll.2.1 6 = .ok ((.getfield 22), 3)) rfl (fun v1 h2 => ?_)
    refine ok_br (P := v1 < x2) (off := 17) (t := 26) (by decide +kernel : decode m_G_countAll.2.1 9 = .ok ((.if_icmp .gt 17), 3)) rfl rfl rfl rfl (fun c3 => ?_) (fun c3 => ?_)
    · skip
      refine ok_seg (L := [((.iload_n 1), 1)]) (pc' := 27) (ls' := [some (.ref x0), some (.int x1), some (.int x2)]) (st' := [.int x1]) (w' := w) (by decide +kernel) rfl ?_
      exact ok_ret (v := x1) (by decide +kernel : decode m_G_countAll.2.1 27 = .ok (.ireturn, 1)) rfl
    · skip
      refine ok_seg (L := [((.iload_n 1), 1), ((.aload_n 0), 1), ((.iload_n 2), 1)]) (pc' := 15) (ls' := [some (.ref x0), some (.int x1), some (.int x2)]) (st' := [.int x2, .ref x0, .int x1]) (w' := w) (by decide +kernel) rfl ?_
      refine ok_call0 (inj' := am_ji) (by decide +kernel : decode m_G_countAll.2.1 15 = .ok ((.invokevirtual 62), 3)) rfl (fun q hq => am_iv0 (am_self_eq hq).1 rfl rfl rfl) (o_G_countOf (d + 0) (x0) (x2) w) (fun _ _ => rfl) (fun r4 h5 => ?_)
      refine ok_seg (L := [(.iadd, 1), ((.istore_n 1), 1), ((.iinc 2 1), 3)]) (pc' := 23) (ls' := [some (.ref x0), some (.int (x1 + r4.2)), some (.int (x2 + 1))]) (st' := []) (w' := r4.1) (by decide +kernel) rfl ?_
      refine ok_goto (t := 4) (by decide +kernel : decode m_G_countAll.2.1 23 = .ok ((.goto (-19)), 3)) rfl ?_
      exact ih x0 (x1 + r4.2) (x2 + 1) r4.1
theorem o_G_countAll (d : Nat) (x0 : Nat) (w : am_W) : am_Ok am_ji (d + 2) m_G_countAll 0 (am_en m_G_countAll [.ref x0]) [] w (f_G_countAll x0 w) := by
  show am_Ok _ _ _ 0 [some (.ref x0), none, none] [] w _
  unfold f_G_countAll
  refine ok_self ?_
  unfold e_G_countAll
  refine ok_seg (L := [((.iconst 0), 1), ((.istore_n 1), 1), ((.iconst 1), 1), ((.istore_n 2), 1)]) (pc' := 4) (ls' := [some (.ref x0), some (.int 0), some (.int 1)]) (st' := []) (w' := w) (by decide +kernel) rfl ?_
  exact o_G_countAll_p4 am_N x0 0 1 w
-- m_C_rectangles
def f_C_rectangles_p35 (s0 : Int32) (w : am_W) : Option (am_W × Int32) := (some (w, s0))
def e_C_rectangles (x0 : Nat) (x1 : Int32) (w : am_W) : Option (am_W × Int32) := ((am_gr w x0 0 1).bind fun v1 => ((f_G_hasColourOrBlank (v1) (x1) w).bind fun r3 => (if ¬ r3.2 = 0 then (if ¬ x1 = 0 then ((am_gr r3.1 x0 0 1).bind fun v7 => ((f_G_countOf (v7) (x1) r3.1).bind fun r9 => (f_C_rectangles_p35 r9.2 r9.1))) else ((am_gr r3.1 x0 0 1).bind fun v11 => ((f_G_countAll (v11) r3.1).bind fun r13 => (f_C_rectangles_p35 r13.2 r13.1)))) else (some (r3.1, (-1))))))
def f_C_rectangles (x0 : Nat) (x1 : Int32) (w : am_W) : Option (am_W × Int32) := am_self w x0 0 (e_C_rectangles x0 x1 w)
theorem o_C_rectangles_p35 {d : Nat} (s0 : Int32) (y0 y1 : Option Value) (w : am_W) : am_Ok am_ji (d + 3) m_C_rectangles 35 [y0, y1] [.int s0] w (f_C_rectangles_p35 s0 w) := by
  unfold f_C_rectangles_p35
  exact ok_ret (v := s0) (by decide +kernel : decode m_C_rectangles.2.1 35 = .ok (.ireturn, 1)) rfl
theorem o_C_rectangles (d : Nat) (x0 : Nat) (x1 : Int32) (w : am_W) : am_Ok am_ji (d + 3) m_C_rectangles 0 (am_en m_C_rectangles [.ref x0, .int x1]) [] w (f_C_rectangles x0 x1 w) := by
  show am_Ok _ _ _ 0 [some (.ref x0), some (.int x1)] [] w _
  unfold f_C_rectangles
  refine ok_self ?_
  unfold e_C_rectangles
  refine ok_seg (L := [((.aload_n 0), 1)]) (pc' := 1) (ls' := [some (.ref x0), some (.int x1)]) (st' := [.ref x0]) (w' := w) (by decide +kernel) rfl ?_
  refine ok_gr (by decide +kernel : decode m_C_rectangles.2.1 1 = .ok ((.getfield 19), 3)) rfl (by decide) (fun v1 h2 => ?_)
  refine ok_seg (L := [((.iload_n 1), 1)]) (pc' := 5) (ls' := [some (.ref x0), some (.int x1)]) (st' := [.int x1, .ref v1]) (w' := w) (by decide +kernel) rfl ?_
  refine ok_call0 (inj' := am_ji) (by decide +kernel : decode m_C_rectangles.2.1 5 = .ok ((.invokevirtual 128), 3)) rfl (fun q hq => am_iv0 (am_self_eq hq).1 rfl rfl rfl) (o_G_hasColourOrBlank (d + 2) (v1) (x1) w) (fun _ _ => rfl) (fun r3 h4 => ?_)
  refine ok_br (P := ¬ r3.2 = 0) (off := 5) (t := 13) (by decide +kernel : decode m_C_rectangles.2.1 8 = .ok ((.ifCond .ne 5), 3)) rfl rfl rfl rfl (fun c5 => ?_) (fun c5 => ?_)
  · skip
    refine ok_seg (L := [((.iload_n 1), 1)]) (pc' := 14) (ls' := [some (.ref x0), some (.int x1)]) (st' := [.int x1]) (w' := r3.1) (by decide +kernel) rfl ?_
    refine ok_br (P := ¬ x1 = 0) (off := 13) (t := 27) (by decide +kernel : decode m_C_rectangles.2.1 14 = .ok ((.ifCond .ne 13), 3)) rfl rfl rfl rfl (fun c6 => ?_) (fun c6 => ?_)
    · skip
      refine ok_seg (L := [((.aload_n 0), 1)]) (pc' := 28) (ls' := [some (.ref x0), some (.int x1)]) (st' := [.ref x0]) (w' := r3.1) (by decide +kernel) rfl ?_
      refine ok_gr (by decide +kernel : decode m_C_rectangles.2.1 28 = .ok ((.getfield 19), 3)) rfl (by decide) (fun v7 h8 => ?_)
      refine ok_seg (L := [((.iload_n 1), 1)]) (pc' := 32) (ls' := [some (.ref x0), some (.int x1)]) (st' := [.int x1, .ref v7]) (w' := r3.1) (by decide +kernel) rfl ?_
      refine ok_call0 (inj' := am_ji) (by decide +kernel : decode m_C_rectangles.2.1 32 = .ok ((.invokevirtual 141), 3)) rfl (fun q hq => am_iv0 (am_self_eq hq).1 rfl rfl rfl) (o_G_countOf (d + 1) (v7) (x1) r3.1) (fun _ _ => rfl) (fun r9 h10 => ?_)
      exact o_C_rectangles_p35 r9.2 (some (.ref x0)) (some (.int x1)) r9.1
    · skip
      refine ok_seg (L := [((.aload_n 0), 1)]) (pc' := 18) (ls' := [some (.ref x0), some (.int x1)]) (st' := [.ref x0]) (w' := r3.1) (by decide +kernel) rfl ?_
      refine ok_gr (by decide +kernel : decode m_C_rectangles.2.1 18 = .ok ((.getfield 19), 3)) rfl (by decide) (fun v11 h12 => ?_)
      refine ok_call0 (inj' := am_ji) (by decide +kernel : decode m_C_rectangles.2.1 21 = .ok ((.invokevirtual 138), 3)) rfl (fun q hq => am_iv0 (am_self_eq hq).1 rfl rfl rfl) (o_G_countAll (d + 0) (v11) r3.1) (fun _ _ => rfl) (fun r13 h14 => ?_)
      refine ok_goto (t := 35) (by decide +kernel : decode m_C_rectangles.2.1 24 = .ok ((.goto 11), 3)) rfl ?_
      exact o_C_rectangles_p35 r13.2 (some (.ref x0)) (some (.int x1)) r13.1
  · skip
    refine ok_seg (L := [((.iconst (-1)), 1)]) (pc' := 12) (ls' := [some (.ref x0), some (.int x1)]) (st' := [.int (-1)]) (w' := r3.1) (by decide +kernel) rfl ?_
    exact ok_ret (v := (-1)) (by decide +kernel : decode m_C_rectangles.2.1 12 = .ok (.ireturn, 1)) rfl
-- m_G_columnsBetween
def f_G_columnsBetween_p32 (w : am_W) : Option (am_W × Int32) := (some (w, 0))
def e_G_columnsBetween (x0 : Nat) (x1 : Int32) (x2 : Int32) (x3 : Int32) (w : am_W) : Option (am_W × Int32) := ((f_G_cellAt (x0) (x1) (x3) w).bind fun r1 => ((f_G_colourOf (x0) (r1.2) r1.1).bind fun r3 => (if r3.2 = 0 then (f_G_columnsBetween_p32 r3.1) else ((f_G_cellAt (x0) (x2) (x3) r3.1).bind fun r6 => ((f_G_colourOf (x0) (r6.2) r6.1).bind fun r8 => (if r3.2 = r8.2 then ((f_G_cellsOf (x0) (r3.2) r8.1).bind fun r11 => ((f_G_columnsOf (x0) (r11.2) (x1) r11.1).bind fun r13 => ((f_G_columnsOf (x0) (r11.2) (x2) r13.1).bind fun r15 => (some (r15.1, (r13.2 &&& r15.2)))))) else (f_G_columnsBetween_p32 r8.1)))))))
def f_G_columnsBetween (x0 : Nat) (x1 : Int32) (x2 : Int32) (x3 : Int32) (w : am_W) : Option (am_W × Int32) := am_self w x0 1 (e_G_columnsBetween x0 x1 x2 x3 w)
theorem o_G_columnsBetween_p32 {d : Nat} (y0 y1 y2 y3 y4 y5 y6 : Option Value) (w : am_W) : am_Ok am_ji (d + 2) m_G_columnsBetween 32 [y0, y1, y2, y3, y4, y5, y6] [] w (f_G_columnsBetween_p32 w) := by
  unfold f_G_columnsBetween_p32
  refine ok_seg (L := [((.iconst 0), 1)]) (pc' := 33) (ls' := [y0, y1, y2, y3, y4, y5, y6]) (st' := [.int 0]) (w' := w) (by decide +kernel) rfl ?_
  exact ok_ret (v := 0) (by decide +kernel : decode m_G_columnsBetween.2.1 33 = .ok (.ireturn, 1)) rfl
theorem o_G_columnsBetween (d : Nat) (x0 : Nat) (x1 : Int32) (x2 : Int32) (x3 : Int32) (w : am_W) : am_Ok am_ji (d + 2) m_G_columnsBetween 0 (am_en m_G_columnsBetween [.ref x0, .int x1, .int x2, .int x3]) [] w (f_G_columnsBetween x0 x1 x2 x3 w) := by
  show am_Ok _ _ _ 0 [some (.ref x0), some (.int x1), some (.int x2), some (.int x3), none, none, none] [] w _
  unfold f_G_columnsBetween
  refine ok_self ?_
  unfold e_G_columnsBetween
  refine ok_seg (L := [((.aload_n 0), 1), ((.aload_n 0), 1), ((.iload_n 1), 1), ((.iload_n 3), 1)]) (pc' := 4) (ls' := [some (.ref x0), some (.int x1), some (.int x2), some (.int x3), none, none, none]) (st' := [.int x3, .int x1, .ref x0, .ref x0]) (w' := w) (by decide +kernel) rfl ?_
  refine ok_call0 (inj' := am_ji) (by decide +kernel : decode m_G_columnsBetween.2.1 4 = .ok ((.invokevirtual 84), 3)) rfl (fun q hq => am_iv0 (am_self_eq hq).1 rfl rfl rfl) (o_G_cellAt (d + 1) (x0) (x1) (x3) w) (fun _ _ => rfl) (fun r1 h2 => ?_)
  refine ok_call0 (inj' := am_ji) (by decide +kernel : decode m_G_columnsBetween.2.1 7 = .ok ((.invokevirtual 42), 3)) rfl (fun q hq => am_iv0 (am_self_eq hq).1 rfl rfl rfl) (o_G_colourOf (d + 0) (x0) (r1.2) r1.1) (fun _ _ => rfl) (fun r3 h4 => ?_)
  refine ok_seg (L := [((.istore 4), 2), ((.iload 4), 2)]) (pc' := 14) (ls' := [some (.ref x0), some (.int x1), some (.int x2), some (.int x3), some (.int r3.2), none, none]) (st' := [.int r3.2]) (w' := r3.1) (by decide +kernel) rfl ?_
  refine ok_br (P := r3.2 = 0) (off := 18) (t := 32) (by decide +kernel : decode m_G_columnsBetween.2.1 14 = .ok ((.ifCond .eq 18), 3)) rfl rfl rfl rfl (fun c5 => ?_) (fun c5 => ?_)
  · skip
    exact o_G_columnsBetween_p32 (some (.ref x0)) (some (.int x1)) (some (.int x2)) (some (.int x3)) (some (.int r3.2)) none none r3.1
  · skip
    refine ok_seg (L := [((.iload 4), 2), ((.aload_n 0), 1), ((.aload_n 0), 1), ((.iload_n 2), 1), ((.iload_n 3), 1)]) (pc' := 23) (ls' := [some (.ref x0), some (.int x1), some (.int x2), some (.int x3), some (.int r3.2), none, none]) (st' := [.int x3, .int x2, .ref x0, .ref x0, .int r3.2]) (w' := r3.1) (by decide +kernel) rfl ?_
    refine ok_call0 (inj' := am_ji) (by decide +kernel : decode m_G_columnsBetween.2.1 23 = .ok ((.invokevirtual 84), 3)) rfl (fun q hq => am_iv0 (am_self_eq hq).1 rfl rfl rfl) (o_G_cellAt (d + 1) (x0) (x2) (x3) r3.1) (fun _ _ => rfl) (fun r6 h7 => ?_)
    refine ok_call0 (inj' := am_ji) (by decide +kernel : decode m_G_columnsBetween.2.1 26 = .ok ((.invokevirtual 42), 3)) rfl (fun q hq => am_iv0 (am_self_eq hq).1 rfl rfl rfl) (o_G_colourOf (d + 0) (x0) (r6.2) r6.1) (fun _ _ => rfl) (fun r8 h9 => ?_)
    refine ok_br (P := r3.2 = r8.2) (off := 5) (t := 34) (by decide +kernel : decode m_G_columnsBetween.2.1 29 = .ok ((.if_icmp .eq 5), 3)) rfl rfl rfl rfl (fun c10 => ?_) (fun c10 => ?_)
    · skip
      refine ok_seg (L := [((.aload_n 0), 1), ((.iload 4), 2)]) (pc' := 37) (ls' := [some (.ref x0), some (.int x1), some (.int x2), some (.int x3), some (.int r3.2), none, none]) (st' := [.int r3.2, .ref x0]) (w' := r8.1) (by decide +kernel) rfl ?_
      refine ok_call0 (inj' := am_jj) (by decide +kernel : decode m_G_columnsBetween.2.1 37 = .ok ((.invokevirtual 31), 3)) rfl (fun q hq => am_iv0 (am_self_eq hq).1 rfl rfl rfl) (o_G_cellsOf (d + 1) (x0) (r3.2) r8.1) (fun _ _ => rfl) (fun r11 h12 => ?_)
      refine ok_seg (L := [((.lstore 5), 2), ((.aload_n 0), 1), ((.lload 5), 2), ((.iload_n 1), 1)]) (pc' := 46) (ls' := [some (.ref x0), some (.int x1), some (.int x2), some (.int x3), some (.int r3.2), some (.long r11.2), none]) (st' := [.int x1, .long r11.2, .ref x0]) (w' := r11.1) (by decide +kernel) rfl ?_
      refine ok_call0 (inj' := am_ji) (by decide +kernel : decode m_G_columnsBetween.2.1 46 = .ok ((.invokevirtual 50), 3)) rfl (fun q hq => am_iv0 (am_self_eq hq).1 rfl rfl rfl) (o_G_columnsOf (d + 1) (x0) (r11.2) (x1) r11.1) (fun _ _ => rfl) (fun r13 h14 => ?_)
      refine ok_seg (L := [((.aload_n 0), 1), ((.lload 5), 2), ((.iload_n 2), 1)]) (pc' := 53) (ls' := [some (.ref x0), some (.int x1), some (.int x2), some (.int x3), some (.int r3.2), some (.long r11.2), none]) (st' := [.int x2, .long r11.2, .ref x0, .int r13.2]) (w' := r13.1) (by decide +kernel) rfl ?_
      refine ok_call0 (inj' := am_ji) (by decide +kernel : decode m_G_columnsBetween.2.1 53 = .ok ((.invokevirtual 50), 3)) rfl (fun q hq => am_iv0 (am_self_eq hq).1 rfl rfl rfl) (o_G_columnsOf (d + 1) (x0) (r11.2) (x2) r13.1) (fun _ _ => rfl) (fun r15 h16 => ?_)
      refine ok_seg (L := [(.iand, 1)]) (pc' := 57) (ls' := [some (.ref x0), some (.int x1), some (.int x2), some (.int x3), some (.int r3.2), some (.long r11.2), none]) (st' := [.int (r13.2 &&& r15.2)]) (w' := r15.1) (by decide +kernel) rfl ?_
      exact ok_ret (v := (r13.2 &&& r15.2)) (by decide +kernel : decode m_G_columnsBetween.2.1 57 = .ok (.ireturn, 1)) rfl
    · skip
      exact o_G_columnsBetween_p32 (some (.ref x0)) (some (.int x1)) (some (.int x2)) (some (.int x3)) (some (.int r3.2)) none none r8.1
-- m_G_columnBetween
def f_G_columnBetween_p72 (k6 : Nat → Int32 → Int32 → Int32 → Int32 → Int32 → Int32 → am_W → Option (am_W × Int32)) (k31 : Nat → Int32 → Int32 → Int32 → Int32 → Int32 → Int32 → Int32 → Int32 → am_W → Option (am_W × Int32)) (x0 : Nat) (x1 : Int32) (x2 : Int32) (x3 : Int32) (x4 : Int32) (x5 : Int32) (x6 : Int32) (x7 : Int32) (x8 : Int32) (w : am_W) : Option (am_W × Int32) := (k31 x0 x1 x2 x3 x4 x5 x6 x7 (x8 + 1) w)
def f_G_columnBetween_p68 (s0 : Int32) (w : am_W) : Option (am_W × Int32) := (some (w, s0))
def f_G_columnBetween_p31 (k6 : Nat → Int32 → Int32 → Int32 → Int32 → Int32 → Int32 → am_W → Option (am_W × Int32)) : Nat → Nat → Int32 → Int32 → Int32 → Int32 → Int32 → Int32 → Int32 → Int32 → am_W → Option (am_W × Int32)
  | 0, _, _, _, _, _, _, _, _, _, _ => none
  | n + 1, x0, x1, x2, x3, x4, x5, x6, x7, x8, w => ((am_gi w x0 1 2).bind fun v1 => (if v1 ≤ x8 then (k6 x0 x1 x2 x3 x4 x5 (x6 + 1) w) else (if ((x7 >>> (x8 &&& 31)) &&& 1) = 0 then (f_G_columnBetween_p72 k6 (f_G_columnBetween_p31 k6 n) x0 x1 x2 x3 x4 x5 x6 x7 x8 w) else (if ¬ x5 = x3 then (f_G_columnBetween_p72 k6 (f_G_columnBetween_p31 k6 n) x0 x1 x2 x3 x4 (x5 + 1) x6 x7 x8 w) else (if x4 = 0 then (f_G_columnBetween_p68 x8 w) else (f_G_columnBetween_p68 x6 w))))))
def f_G_columnBetween_p6 : Nat → Nat → Int32 → Int32 → Int32 → Int32 → Int32 → Int32 → am_W → Option (am_W × Int32)
  | 0, _, _, _, _, _, _, _, _ => none
  | n + 1, x0, x1, x2, x3, x4, x5, x6, w => ((am_gi w x0 1 2).bind fun v7 => (if v7 ≤ x6 then (some (w, (-1))) else ((f_G_columnsBetween (x0) (x1) (x2) (x6) w).bind fun r10 => (f_G_columnBetween_p31 (f_G_columnBetween_p6 n) am_N x0 x1 x2 x3 x4 x5 x6 r10.2 (x6 + 1) r10.1))))
def e_G_columnBetween (x0 : Nat) (x1 : Int32) (x2 : Int32) (x3 : Int32) (x4 : Int32) (w : am_W) : Option (am_W × Int32) := (f_G_columnBetween_p6 am_N x0 x1 x2 x3 x4 0 0 w)
def f_G_columnBetween (x0 : Nat) (x1 : Int32) (x2 : Int32) (x3 : Int32) (x4 : Int32) (w : am_W) : Option (am_W × Int32) := am_self w x0 1 (e_G_columnBetween x0 x1 x2 x3 x4 w)
theorem o_G_columnBetween_p72 {d : Nat} {k6 : Nat → Int32 → Int32 → Int32 → Int32 → Int32 → Int32 → am_W → Option (am_W × Int32)} {k31 : Nat → Int32 → Int32 → Int32 → Int32 → Int32 → Int32 → Int32 → Int32 → am_W → Option (am_W × Int32)} (hk6 : ∀ (x0 : Nat) (x1 : Int32) (x2 : Int32) (x3 : Int32) (x4 : Int32) (x5 : Int32) (x6 : Int32) (y7 y8 : Option Value) (w : am_W), am_Ok am_ji (d + 3) m_G_columnBetween 6 [some (.ref x0), some (.int x1), some (.int x2), some (.int x3), some (.int x4), some (.int x5), some (.int x6), y7, y8] [] w (k6 x0 x1 x2 x3 x4 x5 x6 w)) (hk31 : ∀ (x0 : Nat) (x1 : Int32) (x2 : Int32) (x3 : Int32) (x4 : Int32) (x5 : Int32) (x6 : Int32) (x7 : Int32) (x8 : Int32) (w : am_W), am_Ok am_ji (d + 3) m_G_columnBetween 31 [some (.ref x0), some (.int x1), some (.int x2), some (.int x3), some (.int x4), some (.int x5), some (.int x6), some (.int x7), some (.int x8)] [] w (k31 x0 x1 x2 x3 x4 x5 x6 x7 x8 w)) (x0 : Nat) (x1 : Int32) (x2 : Int32) (x3 : Int32) (x4 : Int32) (x5 : Int32) (x6 : Int32) (x7 : Int32) (x8 : Int32) (w : am_W) : am_Ok am_ji (d + 3) m_G_columnBetween 72 [some (.ref x0), some (.int x1), some (.int x2), some (.int x3), some (.int x4), some (.int x5), some (.int x6), some (.int x7), some (.int x8)] [] w (f_G_columnBetween_p72 k6 k31 x0 x1 x2 x3 x4 x5 x6 x7 x8 w) := by
  unfold f_G_columnBetween_p72
  refine ok_seg (L := [((.iinc 8 1), 3)]) (pc' := 75) (ls' := [some (.ref x0), some (.int x1), some (.int x2), some (.int x3), some (.int x4), some (.int x5), some (.int x6), some (.int x7), some (.int (x8 + 1))]) (st' := []) (w' := w) (by decide +kernel) rfl ?_
  refine ok_goto (t := 31) (by decide +kernel : decode m_G_columnBetween.2.1 75 = .ok ((.goto (-44)), 3)) rfl ?_
  exact hk31 x0 x1 x2 x3 x4 x5 x6 x7 (x8 + 1) w
theorem o_G_columnBetween_p68 {d : Nat} (s0 : Int32) (y0 y1 y2 y3 y4 y5 y6 y7 y8 : Option Value) (w : am_W) : am_Ok am_ji (d + 3) m_G_columnBetween 68 [y0, y1, y2, y3, y4, y5, y6, y7, y8] [.int s0] w (f_G_columnBetween_p68 s0 w) := by
  unfold f_G_columnBetween_p68
  exact ok_ret (v := s0) (by decide +kernel : decode m_G_columnBetween.2.1 68 = .ok (.ireturn, 1)) rfl
theorem o_G_columnBetween_p31 {d : Nat} {k6 : Nat → Int32 → Int32 → Int32 → Int32 → Int32 → Int32 → am_W → Option (am_W × Int32)} (hk6 : ∀ (x0 : Nat) (x1 : Int32) (x2 : Int32) (x3 : Int32) (x4 : Int32) (x5 : Int32) (x6 : Int32) (y7 y8 : Option Value) (w : am_W), am_Ok am_ji (d + 3) m_G_columnBetween 6 [some (.ref x0), some (.int x1), some (.int x2), some (.int x3), some (.int x4), some (.int x5), some (.int x6), y7, y8] [] w (k6 x0 x1 x2 x3 x4 x5 x6 w)) : ∀ (n : Nat) (x0 : Nat) (x1 : Int32) (x2 : Int32) (x3 : Int32) (x4 : Int32) (x5 : Int32) (x6 : Int32) (x7 : Int32) (x8 : Int32) (w : am_W), am_Ok am_ji (d + 3) m_G_columnBetween 31 [some (.ref x0), some (.int x1), some (.int x2), some (.int x3), some (.int x4), some (.int x5), some (.int x6), some (.int x7), some (.int x8)] [] w (f_G_columnBetween_p31 k6 n x0 x1 x2 x3 x4 x5 x6 x7 x8 w) := by
  intro n
  induction n with
  | zero => intros; exact ok_none
  | succ n ih =>
    intro x0 x1 x2 x3 x4 x5 x6 x7 x8 w
    unfold f_G_columnBetween_p31
    refine ok_seg (L := [((.iload 8), 2), ((.aload_n 0), 1)]) (pc' := 34) (ls' := [some (.ref x0), some (.int x1), some (.int x2), some (.int x3), some (.int x4), some (.int x5), some (.int x6), some (.int x7), some (.int x8)]) (st' := [.ref x0, .int x8]) (w' := w) (by decide +kernel) rfl ?_
    refine ok_gi (by decide +kernel : decode m_G_columnBetween.2.1 34 = .ok ((.getfield 19), 3)) rfl (fun v1 h2 => ?_)
    refine ok_br (P := v1 ≤ x8) (off := 41) (t := 78) (by decide +kernel : decode m_G_columnBetween.2.1 37 = .ok ((.if_icmp .ge 41), 3)) rfl rfl rfl rfl (fun c3 => ?_) (fun c3 => ?_)
    · skip
      refine ok_seg (L := [((.iinc 6 1), 3)]) (pc' := 81) (ls' := [some (.ref x0), some (.int x1), some (.int x2), some (.int x3), some (.int x4), some (.int x5), some (.int (x6 + 1)), some (.int x7), some (.int x8)]) (st' := []) (w' := w) (by decide +kernel) rfl ?_
      refine ok_goto (t := 6) (by decide +kernel : decode m_G_columnBetween.2.1 81 = .ok ((.goto (-75)), 3)) rfl ?_
      exact hk6 x0 x1 x2 x3 x4 x5 (x6 + 1) (some (.int x7)) (some (.int x8)) w
    · skip
      refine ok_seg (L := [((.iload 7), 2), ((.iload 8), 2), (.ishr, 1), ((.iconst 1), 1), (.iand, 1)]) (pc' := 47) (ls' := [some (.ref x0), some (.int x1), some (.int x2), some (.int x3), some (.int x4), some (.int x5), some (.int x6), some (.int x7), some (.int x8)]) (st' := [.int ((x7 >>> (x8 &&& 31)) &&& 1)]) (w' := w) (by decide +kernel) rfl ?_
      refine ok_br (P := ((x7 >>> (x8 &&& 31)) &&& 1) = 0) (off := 25) (t := 72) (by decide +kernel : decode m_G_columnBetween.2.1 47 = .ok ((.ifCond .eq 25), 3)) rfl rfl rfl rfl (fun c4 => ?_) (fun c4 => ?_)
      · skip
        exact o_G_columnBetween_p72 hk6 ih x0 x1 x2 x3 x4 x5 x6 x7 x8 w
      · skip
        refine ok_seg (L := [((.iload 5), 2), ((.iload_n 3), 1)]) (pc' := 53) (ls' := [some (.ref x0), some (.int x1), some (.int x2), some (.int x3), some (.int x4), some (.int x5), some (.int x6), some (.int x7), some (.int x8)]) (st' := [.int x3, .int x5]) (w' := w) (by decide +kernel) rfl ?_
        refine ok_br (P := ¬ x5 = x3) (off := 16) (t := 69) (by decide +kernel : decode m_G_columnBetween.2.1 53 = .ok ((.if_icmp .ne 16), 3)) rfl rfl rfl rfl (fun c5 => ?_) (fun c5 => ?_)
        · skip
          refine ok_seg (L := [((.iinc 5 1), 3)]) (pc' := 72) (ls' := [some (.ref x0), some (.int x1), some (.int x2), some (.int x3), some (.int x4), some (.int (x5 + 1)), some (.int x6), some (.int x7), some (.int x8)]) (st' := []) (w' := w) (by decide +kernel) rfl ?_
          exact o_G_columnBetween_p72 hk6 ih x0 x1 x2 x3 x4 (x5 + 1) x6 x7 x8 w
        · skip
          refine ok_seg (L := [((.iload 4), 2)]) (pc' := 58) (ls' := [some (.ref x0), some (.int x1), some (.int x2), some (.int x3), some (.int x4), some (.int x5), some (.int x6), some (.int x7), some (.int x8)]) (st' := [.int x4]) (w' := w) (by decide +kernel) rfl ?_
          refine ok_br (P := x4 = 0) (off := 8) (t := 66) (by decide +kernel : decode m_G_columnBetween.2.1 58 = .ok ((.ifCond .eq 8), 3)) rfl rfl rfl rfl (fun c6 => ?_) (fun c6 => ?_)
          · skip
            refine ok_seg (L := [((.iload 8), 2)]) (pc' := 68) (ls' := [some (.ref x0), some (.int x1), some (.int x2), some (.int x3), some (.int x4), some (.int x5), some (.int x6), some (.int x7), some (.int x8)]) (st' := [.int x8]) (w' := w) (by decide +kernel) rfl ?_
            exact o_G_columnBetween_p68 x8 (some (.ref x0)) (some (.int x1)) (some (.int x2)) (some (.int x3)) (some (.int x4)) (some (.int x5)) (some (.int x6)) (some (.int x7)) (some (.int x8)) w
          · skip
            refine ok_seg (L := [((.iload 6), 2)]) (pc' := 63) (ls' := [some (.ref x0), some (.int x1), some (.int x2), some (.int x3), some (.int x4), some (.int x5), some (.int x6), some (.int x7), some (.int x8)]) (st' := [.int x6]) (w' := w) (by decide +kernel) rfl ?_
            refine ok_goto (t := 68) (by decide +kernel : decode m_G_columnBetween.2.1 63 = .ok ((.goto 5), 3)) rfl ?_
            exact o_G_columnBetween_p68 x6 (some (.ref x0)) (some (.int x1)) (some (.int x2)) (some (.int x3)) (some (.int x4)) (some (.int x5)) (some (.int x6)) (some (.int x7)) (some (.int x8)) w
theorem o_G_columnBetween_p6 {d : Nat} : ∀ (n : Nat) (x0 : Nat) (x1 : Int32) (x2 : Int32) (x3 : Int32) (x4 : Int32) (x5 : Int32) (x6 : Int32) (y7 y8 : Option Value) (w : am_W), am_Ok am_ji (d + 3) m_G_columnBetween 6 [some (.ref x0), some (.int x1), some (.int x2), some (.int x3), some (.int x4), some (.int x5), some (.int x6), y7, y8] [] w (f_G_columnBetween_p6 n x0 x1 x2 x3 x4 x5 x6 w) := by
  intro n
  induction n with
  | zero => intros; exact ok_none
  | succ n ih =>
    intro x0 x1 x2 x3 x4 x5 x6 y7 y8 w
    unfold f_G_columnBetween_p6
    refine ok_seg (L := [((.iload 6), 2), ((.aload_n 0), 1)]) (pc' := 9) (ls' := [some (.ref x0), some (.int x1), some (.int x2), some (.int x3), some (.int x4), some (.int x5), some (.int x6), y7, y8]) (st' := [.ref x0, .int x6]) (w' := w) (by decide +kernel) rfl ?_
    refine ok_gi (by decide +kernel : decode m_G_columnBetween.2.1 9 = .ok ((.getfield 19), 3)) rfl (fun v7 h8 => ?_)
    refine ok_br (P := v7 ≤ x6) (off := 72) (t := 84) (by decide +kernel : decode m_G_columnBetween.2.1 12 = .ok ((.if_icmp .ge 72), 3)) rfl rfl rfl rfl (fun c9 => ?_) (fun c9 => ?_)
    · skip
      refine ok_seg (L := [((.iconst (-1)), 1)]) (pc' := 85) (ls' := [some (.ref x0), some (.int x1), some (.int x2), some (.int x3), some (.int x4), some (.int x5), some (.int x6), y7, y8]) (st' := [.int (-1)]) (w' := w) (by decide +kernel) rfl ?_
      exact ok_ret (v := (-1)) (by decide +kernel : decode m_G_columnBetween.2.1 85 = .ok (.ireturn, 1)) rfl
    · skip
      refine ok_seg (L := [((.aload_n 0), 1), ((.iload_n 1), 1), ((.iload_n 2), 1), ((.iload 6), 2)]) (pc' := 20) (ls' := [some (.ref x0), some (.int x1), some (.int x2), some (.int x3), some (.int x4), some (.int x5), some (.int x6), y7, y8]) (st' := [.int x6, .int x2, .int x1, .ref x0]) (w' := w) (by decide +kernel) rfl ?_
      refine ok_call0 (inj' := am_ji) (by decide +kernel : decode m_G_columnBetween.2.1 20 = .ok ((.invokevirtual 80), 3)) rfl (fun q hq => am_iv0 (am_self_eq hq).1 rfl rfl rfl) (o_G_columnsBetween (d + 0) (x0) (x1) (x2) (x6) w) (fun _ _ => rfl) (fun r10 h11 => ?_)
      refine ok_seg (L := [((.istore 7), 2), ((.iload 6), 2), ((.iconst 1), 1), (.iadd, 1), ((.istore 8), 2)]) (pc' := 31) (ls' := [some (.ref x0), some (.int x1), some (.int x2), some (.int x3), some (.int x4), some (.int x5), some (.int x6), some (.int r10.2), some (.int (x6 + 1))]) (st' := []) (w' := r10.1) (by decide +kernel) rfl ?_
      exact o_G_columnBetween_p31 ih am_N x0 x1 x2 x3 x4 x5 x6 r10.2 (x6 + 1) r10.1
theorem o_G_columnBetween (d : Nat) (x0 : Nat) (x1 : Int32) (x2 : Int32) (x3 : Int32) (x4 : Int32) (w : am_W) : am_Ok am_ji (d + 3) m_G_columnBetween 0 (am_en m_G_columnBetween [.ref x0, .int x1, .int x2, .int x3, .int x4]) [] w (f_G_columnBetween x0 x1 x2 x3 x4 w) := by
  show am_Ok _ _ _ 0 [some (.ref x0), some (.int x1), some (.int x2), some (.int x3), some (.int x4), none, none, none, none] [] w _
  unfold f_G_columnBetween
  refine ok_self ?_
  unfold e_G_columnBetween
  refine ok_seg (L := [((.iconst 0), 1), ((.istore 5), 2), ((.iconst 0), 1), ((.istore 6), 2)]) (pc' := 6) (ls' := [some (.ref x0), some (.int x1), some (.int x2), some (.int x3), some (.int x4), some (.int 0), some (.int 0), none, none]) (st' := []) (w' := w) (by decide +kernel) rfl ?_
  exact o_G_columnBetween_p6 am_N x0 x1 x2 x3 x4 0 0 none none w
-- m_G_countBetween
def f_G_countBetween_p5 : Nat → Nat → Int32 → Int32 → Int32 → Int32 → am_W → Option (am_W × Int32)
  | 0, _, _, _, _, _, _ => none
  | n + 1, x0, x1, x2, x3, x4, w => ((am_gi w x0 1 3).bind fun v1 => (if v1 < x4 then (some (w, x3)) else ((f_G_cellsOf (x0) (x4) w).bind fun r4 => ((f_G_columnsOf (x0) (r4.2) (x1) r4.1).bind fun r6 => ((f_G_columnsOf (x0) (r4.2) (x2) r6.1).bind fun r8 => ((f_I_bitCount ((r6.2 &&& r8.2)) r8.1).bind fun r10 => ((f_C_pairsOf (r10.2) r10.1).bind fun r12 => (f_G_countBetween_p5 n x0 x1 x2 (x3 + r12.2) (x4 + 1) r12.1))))))))
def e_G_countBetween (x0 : Nat) (x1 : Int32) (x2 : Int32) (w : am_W) : Option (am_W × Int32) := (f_G_countBetween_p5 am_N x0 x1 x2 0 1 w)
def f_G_countBetween (x0 : Nat) (x1 : Int32) (x2 : Int32) (w : am_W) : Option (am_W × Int32) := am_self w x0 1 (e_G_countBetween x0 x1 x2 w)
theorem o_G_countBetween_p5 {d : Nat} : ∀ (n : Nat) (x0 : Nat) (x1 : Int32) (x2 : Int32) (x3 : Int32) (x4 : Int32) (y5 y6 : Option Value) (w : am_W), am_Ok am_ji (d + 1) m_G_countBetween 5 [some (.ref x0), some (.int x1), some (.int x2), some (.int x3), some (.int x4), y5, y6] [] w (f_G_countBetween_p5 n x0 x1 x2 x3 x4 w) := by
  intro n
  induction n with
  | zero => intros; exact ok_none
  | succ n ih =>
    intro x0 x1 x2 x3 x4 y5 y6 w
    unfold f_G_countBetween_p5
    refine ok_seg (L := [((.iload 4), 2), ((.aload_n 0), 1)]) (pc' := 8) (ls' := [some (.ref x0), some (.int x1), some (.int x2), some (.int x3), some (.int x4), y5, y6]) (st' := [.ref x0, .int x4]) (w' := w) (by decide +kernel) rfl ?_
    refine ok_gi (by decide +kernel : decode m_G_countBetween.2.1 8 = .ok ((.getfield 22), 3)) rfl (fun v1 h2 => ?_)
    refine ok_br (P := v1 < x4) (off := 41) (t := 52) (by decide +kernel : decode m_G_countBetween.2.1 11 = .ok ((.if_icmp .gt 41), 3)) rfl rfl rfl rfl (fun c3 => ?_) (fun c3 => ?_)
    · skip
      refine ok_seg (L := [((.iload_n 3), 1)]) (pc' := 53) (ls' := [some (.ref x0), some (.int x1), some (.int x2), some (.int x3), some (.int x4), y5, y6]) (st' := [.int x3]) (w' := w) (by decide +kernel) rfl ?_
      exact ok_ret (v := x3) (by decide +kernel : decode m_G_countBetween.2.1 53 = .ok (.ireturn, 1)) rfl
    · skip
      refine ok_seg (L := [((.aload_n 0), 1), ((.iload 4), 2)]) (pc' := 17) (ls' := [some (.ref x0), some (.int x1), some (.int x2), some (.int x3), some (.int x4), y5, y6]) (st' := [.int x4, .ref x0]) (w' := w) (by decide +kernel) rfl ?_
      refine ok_call0 (inj' := am_jj) (by decide +kernel : decode m_G_countBetween.2.1 17 = .ok ((.invokevirtual 31), 3)) rfl (fun q hq => am_iv0 (am_self_eq hq).1 rfl rfl rfl) (o_G_cellsOf (d + 0) (x0) (x4) w) (fun _ _ => rfl) (fun r4 h5 => ?_)
      refine ok_seg (L := [((.lstore 5), 2), ((.iload_n 3), 1), ((.aload_n 0), 1), ((.lload 5), 2), ((.iload_n 1), 1)]) (pc' := 27) (ls' := [some (.ref x0), some (.int x1), some (.int x2), some (.int x3), some (.int x4), some (.long r4.2), none]) (st' := [.int x1, .long r4.2, .ref x0, .int x3]) (w' := r4.1) (by decide +kernel) rfl ?_
      refine ok_call0 (inj' := am_ji) (by decide +kernel : decode m_G_countBetween.2.1 27 = .ok ((.invokevirtual 50), 3)) rfl (fun q hq => am_iv0 (am_self_eq hq).1 rfl rfl rfl) (o_G_columnsOf (d + 0) (x0) (r4.2) (x1) r4.1) (fun _ _ => rfl) (fun r6 h7 => ?_)
      refine ok_seg (L := [((.aload_n 0), 1), ((.lload 5), 2), ((.iload_n 2), 1)]) (pc' := 34) (ls' := [some (.ref x0), some (.int x1), some (.int x2), some (.int x3), some (.int x4), some (.long r4.2), none]) (st' := [.int x2, .long r4.2, .ref x0, .int r6.2, .int x3]) (w' := r6.1) (by decide +kernel) rfl ?_
      refine ok_call0 (inj' := am_ji) (by decide +kernel : decode m_G_countBetween.2.1 34 = .ok ((.invokevirtual 50), 3)) rfl (fun q hq => am_iv0 (am_self_eq hq).1 rfl rfl rfl) (o_G_columnsOf (d + 0) (x0) (r4.2) (x2) r6.1) (fun _ _ => rfl) (fun r8 h9 => ?_)
      refine ok_seg (L := [(.iand, 1)]) (pc' := 38) (ls' := [some (.ref x0), some (.int x1), some (.int x2), some (.int x3), some (.int x4), some (.long r4.2), none]) (st' := [.int (r6.2 &&& r8.2), .int x3]) (w' := r8.1) (by decide +kernel) rfl ?_
      refine ok_call0 (inj' := am_ji) (by decide +kernel : decode m_G_countBetween.2.1 38 = .ok ((.invokestatic 54), 3)) rfl (fun _ _ => rfl) (o_I_bitCount (d + 0) ((r6.2 &&& r8.2)) r8.1) (fun _ _ => rfl) (fun r10 h11 => ?_)
      refine ok_call0 (inj' := am_ji) (by decide +kernel : decode m_G_countBetween.2.1 41 = .ok ((.invokestatic 59), 3)) rfl (fun _ _ => rfl) (o_C_pairsOf (d + 0) (r10.2) r10.1) (fun _ _ => rfl) (fun r12 h13 => ?_)
      refine ok_seg (L := [(.iadd, 1), ((.istore_n 3), 1), ((.iinc 4 1), 3)]) (pc' := 49) (ls' := [some (.ref x0), some (.int x1), some (.int x2), some (.int (x3 + r12.2)), some (.int (x4 + 1)), some (.long r4.2), none]) (st' := []) (w' := r12.1) (by decide +kernel) rfl ?_
      refine ok_goto (t := 5) (by decide +kernel : decode m_G_countBetween.2.1 49 = .ok ((.goto (-44)), 3)) rfl ?_
      exact ih x0 x1 x2 (x3 + r12.2) (x4 + 1) (some (.long r4.2)) none r12.1
theorem o_G_countBetween (d : Nat) (x0 : Nat) (x1 : Int32) (x2 : Int32) (w : am_W) : am_Ok am_ji (d + 1) m_G_countBetween 0 (am_en m_G_countBetween [.ref x0, .int x1, .int x2]) [] w (f_G_countBetween x0 x1 x2 w) := by
  show am_Ok _ _ _ 0 [some (.ref x0), some (.int x1), some (.int x2), none, none, none, none] [] w _
  unfold f_G_countBetween
  refine ok_self ?_
  unfold e_G_countBetween
  refine ok_seg (L := [((.iconst 0), 1), ((.istore_n 3), 1), ((.iconst 1), 1), ((.istore 4), 2)]) (pc' := 5) (ls' := [some (.ref x0), some (.int x1), some (.int x2), some (.int 0), some (.int 1), none, none]) (st' := []) (w' := w) (by decide +kernel) rfl ?_
  exact o_G_countBetween_p5 am_N x0 x1 x2 0 1 none none w
-- m_G_sideOf
def f_G_sideOf_p87 (s0 : Int32) (w : am_W) : Option (am_W × Int32) := (some (w, s0))
def f_G_sideOf_p84 (s0 : Nat) (s1 : Int32) (s2 : Int32) (s3 : Int32) (s4 : Int32) (w : am_W) : Option (am_W × Int32) := ((f_G_columnBetween (s0) (s1) (s2) (s3) (s4) w).bind fun r1 => (f_G_sideOf_p87 r1.2 r1.1))
def f_G_sideOf_p20 (k5 : Nat → Int32 → Int32 → Int32 → Int32 → am_W → Option (am_W × Int32)) : Nat → Nat → Int32 → Int32 → Int32 → Int32 → Int32 → am_W → Option (am_W × Int32)
  | 0, _, _, _, _, _, _, _ => none
  | n + 1, x0, x1, x2, x3, x4, x5, w => ((am_gi w x0 1 1).bind fun v3 => (if v3 ≤ x5 then (k5 x0 x1 x2 x3 (x4 + 1) w) else ((f_G_countBetween (x0) (x4) (x5) w).bind fun r6 => (if (x3 + r6.2) ≤ x1 then (f_G_sideOf_p20 k5 n x0 x1 x2 (x3 + r6.2) x4 (x5 + 1) r6.1) else (if ¬ x2 = 0 then (if ¬ x2 = 1 then (if ¬ x2 = 2 then (f_G_sideOf_p84 x0 x4 x5 (x1 - x3) 0 r6.1) else (f_G_sideOf_p84 x0 x4 x5 (x1 - x3) 1 r6.1)) else (f_G_sideOf_p87 x5 r6.1)) else (f_G_sideOf_p87 x4 r6.1))))))
def f_G_sideOf_p5 : Nat → Nat → Int32 → Int32 → Int32 → Int32 → am_W → Option (am_W × Int32)
  | 0, _, _, _, _, _, _ => none
  | n + 1, x0, x1, x2, x3, x4, w => ((am_gi w x0 1 1).bind fun v12 => (if v12 ≤ x4 then (some (w, (-1))) else (f_G_sideOf_p20 (f_G_sideOf_p5 n) am_N x0 x1 x2 x3 x4 (x4 + 1) w)))
def e_G_sideOf (x0 : Nat) (x1 : Int32) (x2 : Int32) (w : am_W) : Option (am_W × Int32) := (f_G_sideOf_p5 am_N x0 x1 x2 0 0 w)
def f_G_sideOf (x0 : Nat) (x1 : Int32) (x2 : Int32) (w : am_W) : Option (am_W × Int32) := am_self w x0 1 (e_G_sideOf x0 x1 x2 w)
theorem o_G_sideOf_p87 {d : Nat} (s0 : Int32) (y0 y1 y2 y3 y4 y5 y6 : Option Value) (w : am_W) : am_Ok am_ji (d + 4) m_G_sideOf 87 [y0, y1, y2, y3, y4, y5, y6] [.int s0] w (f_G_sideOf_p87 s0 w) := by
  unfold f_G_sideOf_p87
  exact ok_ret (v := s0) (by decide +kernel : decode m_G_sideOf.2.1 87 = .ok (.ireturn, 1)) rfl
theorem o_G_sideOf_p84 {d : Nat} (s0 : Nat) (s1 : Int32) (s2 : Int32) (s3 : Int32) (s4 : Int32) (y0 y1 y2 y3 y4 y5 y6 : Option Value) (w : am_W) : am_Ok am_ji (d + 4) m_G_sideOf 84 [y0, y1, y2, y3, y4, y5, y6] [.int s4, .int s3, .int s2, .int s1, .ref s0] w (f_G_sideOf_p84 s0 s1 s2 s3 s4 w) := by
  unfold f_G_sideOf_p84
  refine ok_call0 (inj' := am_ji) (by decide +kernel : decode m_G_sideOf.2.1 84 = .ok ((.invokevirtual 76), 3)) rfl (fun q hq => am_iv0 (am_self_eq hq).1 rfl rfl rfl) (o_G_columnBetween (d + 0) (s0) (s1) (s2) (s3) (s4) w) (fun _ _ => rfl) (fun r1 h2 => ?_)
  exact o_G_sideOf_p87 r1.2 y0 y1 y2 y3 y4 y5 y6 r1.1
theorem o_G_sideOf_p20 {d : Nat} {k5 : Nat → Int32 → Int32 → Int32 → Int32 → am_W → Option (am_W × Int32)} (hk5 : ∀ (x0 : Nat) (x1 : Int32) (x2 : Int32) (x3 : Int32) (x4 : Int32) (y5 y6 : Option Value) (w : am_W), am_Ok am_ji (d + 4) m_G_sideOf 5 [some (.ref x0), some (.int x1), some (.int x2), some (.int x3), some (.int x4), y5, y6] [] w (k5 x0 x1 x2 x3 x4 w)) : ∀ (n : Nat) (x0 : Nat) (x1 : Int32) (x2 : Int32) (x3 : Int32) (x4 : Int32) (x5 : Int32) (y6 : Option Value) (w : am_W), am_Ok am_ji (d + 4) m_G_sideOf 20 [some (.ref x0), some (.int x1), some (.int x2), some (.int x3), some (.int x4), some (.int x5), y6] [] w (f_G_sideOf_p20 k5 n x0 x1 x2 x3 x4 x5 w) := by
  intro n
  induction n with
  | zero => intros; exact ok_none
  | succ n ih =>
    intro x0 x1 x2 x3 x4 x5 y6 w
    unfold f_G_sideOf_p20
    refine ok_seg (L := [((.iload 5), 2), ((.aload_n 0), 1)]) (pc' := 23) (ls' := [some (.ref x0), some (.int x1), some (.int x2), some (.int x3), some (.int x4), some (.int x5), y6]) (st' := [.ref x0, .int x5]) (w' := w) (by decide +kernel) rfl ?_
    refine ok_gi (by decide +kernel : decode m_G_sideOf.2.1 23 = .ok ((.getfield 15), 3)) rfl (fun v3 h4 => ?_)
    refine ok_br (P := v3 ≤ x5) (off := 73) (t := 99) (by decide +kernel : decode m_G_sideOf.2.1 26 = .ok ((.if_icmp .ge 73), 3)) rfl rfl rfl rfl (fun c5 => ?_) (fun c5 => ?_)
    · skip
      refine ok_seg (L := [((.iinc 4 1), 3)]) (pc' := 102) (ls' := [some (.ref x0), some (.int x1), some (.int x2), some (.int x3), some (.int (x4 + 1)), some (.int x5), y6]) (st' := []) (w' := w) (by decide +kernel) rfl ?_
      refine ok_goto (t := 5) (by decide +kernel : decode m_G_sideOf.2.1 102 = .ok ((.goto (-97)), 3)) rfl ?_
      exact hk5 x0 x1 x2 x3 (x4 + 1) (some (.int x5)) y6 w
    · skip
      refine ok_seg (L := [((.aload_n 0), 1), ((.iload 4), 2), ((.iload 5), 2)]) (pc' := 34) (ls' := [some (.ref x0), some (.int x1), some (.int x2), some (.int x3), some (.int x4), some (.int x5), y6]) (st' := [.int x5, .int x4, .ref x0]) (w' := w) (by decide +kernel) rfl ?_
      refine ok_call0 (inj' := am_ji) (by decide +kernel : decode m_G_sideOf.2.1 34 = .ok ((.invokevirtual 72), 3)) rfl (fun q hq => am_iv0 (am_self_eq hq).1 rfl rfl rfl) (o_G_countBetween (d + 2) (x0) (x4) (x5) w) (fun _ _ => rfl) (fun r6 h7 => ?_)
      refine ok_seg (L := [((.istore 6), 2), ((.iload_n 1), 1), ((.iload_n 3), 1), ((.iload 6), 2), (.iadd, 1)]) (pc' := 44) (ls' := [some (.ref x0), some (.int x1), some (.int x2), some (.int x3), some (.int x4), some (.int x5), some (.int r6.2)]) (st' := [.int (x3 + r6.2), .int x1]) (w' := r6.1) (by decide +kernel) rfl ?_
      refine ok_br (P := (x3 + r6.2) ≤ x1) (off := 44) (t := 88) (by decide +kernel : decode m_G_sideOf.2.1 44 = .ok ((.if_icmp .ge 44), 3)) rfl rfl rfl rfl (fun c8 => ?_) (fun c8 => ?_)
      · skip
        refine ok_seg (L := [((.iload_n 3), 1), ((.iload 6), 2), (.iadd, 1), ((.istore_n 3), 1), ((.iinc 5 1), 3)]) (pc' := 96) (ls' := [some (.ref x0), some (.int x1), some (.int x2), some (.int (x3 + r6.2)), some (.int x4), some (.int (x5 + 1)), some (.int r6.2)]) (st' := []) (w' := r6.1) (by decide +kernel) rfl ?_
        refine ok_goto (t := 20) (by decide +kernel : decode m_G_sideOf.2.1 96 = .ok ((.goto (-76)), 3)) rfl ?_
        exact ih x0 x1 x2 (x3 + r6.2) x4 (x5 + 1) (some (.int r6.2)) r6.1
      · skip
        refine ok_seg (L := [((.iload_n 2), 1)]) (pc' := 48) (ls' := [some (.ref x0), some (.int x1), some (.int x2), some (.int x3), some (.int x4), some (.int x5), some (.int r6.2)]) (st' := [.int x2]) (w' := r6.1) (by decide +kernel) rfl ?_
        refine ok_br (P := ¬ x2 = 0) (off := 8) (t := 56) (by decide +kernel : decode m_G_sideOf.2.1 48 = .ok ((.ifCond .ne 8), 3)) rfl rfl rfl rfl (fun c9 => ?_) (fun c9 => ?_)
        · skip
          refine ok_seg (L := [((.iload_n 2), 1), ((.iconst 1), 1)]) (pc' := 58) (ls' := [some (.ref x0), some (.int x1), some (.int x2), some (.int x3), some (.int x4), some (.int x5), some (.int r6.2)]) (st' := [.int 1, .int x2]) (w' := r6.1) (by decide +kernel) rfl ?_
          refine ok_br (P := ¬ x2 = 1) (off := 8) (t := 66) (by decide +kernel : decode m_G_sideOf.2.1 58 = .ok ((.if_icmp .ne 8), 3)) rfl rfl rfl rfl (fun c10 => ?_) (fun c10 => ?_)
          · skip
            refine ok_seg (L := [((.aload_n 0), 1), ((.iload 4), 2), ((.iload 5), 2), ((.iload_n 1), 1), ((.iload_n 3), 1), (.isub, 1), ((.iload_n 2), 1), ((.iconst 2), 1)]) (pc' := 76) (ls' := [some (.ref x0), some (.int x1), some (.int x2), some (.int x3), some (.int x4), some (.int x5), some (.int r6.2)]) (st' := [.int 2, .int x2, .int (x1 - x3), .int x5, .int x4, .ref x0]) (w' := r6.1) (by decide +kernel) rfl ?_
            refine ok_br (P := ¬ x2 = 2) (off := 7) (t := 83) (by decide +kernel : decode m_G_sideOf.2.1 76 = .ok ((.if_icmp .ne 7), 3)) rfl rfl rfl rfl (fun c11 => ?_) (fun c11 => ?_)
            · skip
              refine ok_seg (L := [((.iconst 0), 1)]) (pc' := 84) (ls' := [some (.ref x0), some (.int x1), some (.int x2), some (.int x3), some (.int x4), some (.int x5), some (.int r6.2)]) (st' := [.int 0, .int (x1 - x3), .int x5, .int x4, .ref x0]) (w' := r6.1) (by decide +kernel) rfl ?_
              exact o_G_sideOf_p84 x0 x4 x5 (x1 - x3) 0 (some (.ref x0)) (some (.int x1)) (some (.int x2)) (some (.int x3)) (some (.int x4)) (some (.int x5)) (some (.int r6.2)) r6.1
            · skip
              refine ok_seg (L := [((.iconst 1), 1)]) (pc' := 80) (ls' := [some (.ref x0), some (.int x1), some (.int x2), some (.int x3), some (.int x4), some (.int x5), some (.int r6.2)]) (st' := [.int 1, .int (x1 - x3), .int x5, .int x4, .ref x0]) (w' := r6.1) (by decide +kernel) rfl ?_
              refine ok_goto (t := 84) (by decide +kernel : decode m_G_sideOf.2.1 80 = .ok ((.goto 4), 3)) rfl ?_
              exact o_G_sideOf_p84 x0 x4 x5 (x1 - x3) 1 (some (.ref x0)) (some (.int x1)) (some (.int x2)) (some (.int x3)) (some (.int x4)) (some (.int x5)) (some (.int r6.2)) r6.1
          · skip
            refine ok_seg (L := [((.iload 5), 2)]) (pc' := 63) (ls' := [some (.ref x0), some (.int x1), some (.int x2), some (.int x3), some (.int x4), some (.int x5), some (.int r6.2)]) (st' := [.int x5]) (w' := r6.1) (by decide +kernel) rfl ?_
            refine ok_goto (t := 87) (by decide +kernel : decode m_G_sideOf.2.1 63 = .ok ((.goto 24), 3)) rfl ?_
            exact o_G_sideOf_p87 x5 (some (.ref x0)) (some (.int x1)) (some (.int x2)) (some (.int x3)) (some (.int x4)) (some (.int x5)) (some (.int r6.2)) r6.1
        · skip
          refine ok_seg (L := [((.iload 4), 2)]) (pc' := 53) (ls' := [some (.ref x0), some (.int x1), some (.int x2), some (.int x3), some (.int x4), some (.int x5), some (.int r6.2)]) (st' := [.int x4]) (w' := r6.1) (by decide +kernel) rfl ?_
          refine ok_goto (t := 87) (by decide +kernel : decode m_G_sideOf.2.1 53 = .ok ((.goto 34), 3)) rfl ?_
          exact o_G_sideOf_p87 x4 (some (.ref x0)) (some (.int x1)) (some (.int x2)) (some (.int x3)) (some (.int x4)) (some (.int x5)) (some (.int r6.2)) r6.1
theorem o_G_sideOf_p5 {d : Nat} : ∀ (n : Nat) (x0 : Nat) (x1 : Int32) (x2 : Int32) (x3 : Int32) (x4 : Int32) (y5 y6 : Option Value) (w : am_W), am_Ok am_ji (d + 4) m_G_sideOf 5 [some (.ref x0), some (.int x1), some (.int x2), some (.int x3), some (.int x4), y5, y6] [] w (f_G_sideOf_p5 n x0 x1 x2 x3 x4 w) := by
  intro n
  induction n with
  | zero => intros; exact ok_none
  | succ n ih =>
    intro x0 x1 x2 x3 x4 y5 y6 w
    unfold f_G_sideOf_p5
    refine ok_seg (L := [((.iload 4), 2), ((.aload_n 0), 1)]) (pc' := 8) (ls' := [some (.ref x0), some (.int x1), some (.int x2), some (.int x3), some (.int x4), y5, y6]) (st' := [.ref x0, .int x4]) (w' := w) (by decide +kernel) rfl ?_
    refine ok_gi (by decide +kernel : decode m_G_sideOf.2.1 8 = .ok ((.getfield 15), 3)) rfl (fun v12 h13 => ?_)
    refine ok_br (P := v12 ≤ x4) (off := 94) (t := 105) (by decide +kernel : decode m_G_sideOf.2.1 11 = .ok ((.if_icmp .ge 94), 3)) rfl rfl rfl rfl (fun c14 => ?_) (fun c14 => ?_)
    · skip
      refine ok_seg (L := [((.iconst (-1)), 1)]) (pc' := 106) (ls' := [some (.ref x0), some (.int x1), some (.int x2), some (.int x3), some (.int x4), y5, y6]) (st' := [.int (-1)]) (w' := w) (by decide +kernel) rfl ?_
      exact ok_ret (v := (-1)) (by decide +kernel : decode m_G_sideOf.2.1 106 = .ok (.ireturn, 1)) rfl
    · skip
      refine ok_seg (L := [((.iload 4), 2), ((.iconst 1), 1), (.iadd, 1), ((.istore 5), 2)]) (pc' := 20) (ls' := [some (.ref x0), some (.int x1), some (.int x2), some (.int x3), some (.int x4), some (.int (x4 + 1)), y6]) (st' := []) (w' := w) (by decide +kernel) rfl ?_
      exact o_G_sideOf_p20 ih am_N x0 x1 x2 x3 x4 (x4 + 1) y6 w
theorem o_G_sideOf (d : Nat) (x0 : Nat) (x1 : Int32) (x2 : Int32) (w : am_W) : am_Ok am_ji (d + 4) m_G_sideOf 0 (am_en m_G_sideOf [.ref x0, .int x1, .int x2]) [] w (f_G_sideOf x0 x1 x2 w) := by
  show am_Ok _ _ _ 0 [some (.ref x0), some (.int x1), some (.int x2), none, none, none, none] [] w _
  unfold f_G_sideOf
  refine ok_self ?_
  unfold e_G_sideOf
  refine ok_seg (L := [((.iconst 0), 1), ((.istore_n 3), 1), ((.iconst 0), 1), ((.istore 4), 2)]) (pc' := 5) (ls' := [some (.ref x0), some (.int x1), some (.int x2), some (.int 0), some (.int 0), none, none]) (st' := []) (w' := w) (by decide +kernel) rfl ?_
  exact o_G_sideOf_p5 am_N x0 x1 x2 0 0 none none w
-- m_C_rectangle
def f_C_rectangle_p13 (w : am_W) : Option (am_W × Int32) := (some (w, (-1)))
def e_C_rectangle (x0 : Nat) (x1 : Int32) (x2 : Int32) (w : am_W) : Option (am_W × Int32) := (if x1 < 0 then (f_C_rectangle_p13 w) else (if x2 < 0 then (f_C_rectangle_p13 w) else (if x2 ≤ 3 then ((am_gr w x0 0 1).bind fun v4 => ((f_G_sideOf (v4) (x1) (x2) w).bind fun r6 => (some (r6.1, r6.2)))) else (f_C_rectangle_p13 w))))
def f_C_rectangle (x0 : Nat) (x1 : Int32) (x2 : Int32) (w : am_W) : Option (am_W × Int32) := am_self w x0 0 (e_C_rectangle x0 x1 x2 w)
theorem o_C_rectangle_p13 {d : Nat} (y0 y1 y2 : Option Value) (w : am_W) : am_Ok am_ji (d + 5) m_C_rectangle 13 [y0, y1, y2] [] w (f_C_rectangle_p13 w) := by
  unfold f_C_rectangle_p13
  refine ok_seg (L := [((.iconst (-1)), 1)]) (pc' := 14) (ls' := [y0, y1, y2]) (st' := [.int (-1)]) (w' := w) (by decide +kernel) rfl ?_
  exact ok_ret (v := (-1)) (by decide +kernel : decode m_C_rectangle.2.1 14 = .ok (.ireturn, 1)) rfl
theorem o_C_rectangle (d : Nat) (x0 : Nat) (x1 : Int32) (x2 : Int32) (w : am_W) : am_Ok am_ji (d + 5) m_C_rectangle 0 (am_en m_C_rectangle [.ref x0, .int x1, .int x2]) [] w (f_C_rectangle x0 x1 x2 w) := by
  show am_Ok _ _ _ 0 [some (.ref x0), some (.int x1), some (.int x2)] [] w _
  unfold f_C_rectangle
  refine ok_self ?_
  unfold e_C_rectangle
  refine ok_seg (L := [((.iload_n 1), 1)]) (pc' := 1) (ls' := [some (.ref x0), some (.int x1), some (.int x2)]) (st' := [.int x1]) (w' := w) (by decide +kernel) rfl ?_
  refine ok_br (P := x1 < 0) (off := 12) (t := 13) (by decide +kernel : decode m_C_rectangle.2.1 1 = .ok ((.ifCond .lt 12), 3)) rfl rfl rfl rfl (fun c1 => ?_) (fun c1 => ?_)
  · skip
    exact o_C_rectangle_p13 (some (.ref x0)) (some (.int x1)) (some (.int x2)) w
  · skip
    refine ok_seg (L := [((.iload_n 2), 1)]) (pc' := 5) (ls' := [some (.ref x0), some (.int x1), some (.int x2)]) (st' := [.int x2]) (w' := w) (by decide +kernel) rfl ?_
    refine ok_br (P := x2 < 0) (off := 8) (t := 13) (by decide +kernel : decode m_C_rectangle.2.1 5 = .ok ((.ifCond .lt 8), 3)) rfl rfl rfl rfl (fun c2 => ?_) (fun c2 => ?_)
    · skip
      exact o_C_rectangle_p13 (some (.ref x0)) (some (.int x1)) (some (.int x2)) w
    · skip
      refine ok_seg (L := [((.iload_n 2), 1), ((.iconst 3), 1)]) (pc' := 10) (ls' := [some (.ref x0), some (.int x1), some (.int x2)]) (st' := [.int 3, .int x2]) (w' := w) (by decide +kernel) rfl ?_
      refine ok_br (P := x2 ≤ 3) (off := 5) (t := 15) (by decide +kernel : decode m_C_rectangle.2.1 10 = .ok ((.if_icmp .le 5), 3)) rfl rfl rfl rfl (fun c3 => ?_) (fun c3 => ?_)
      · skip
        refine ok_seg (L := [((.aload_n 0), 1)]) (pc' := 16) (ls' := [some (.ref x0), some (.int x1), some (.int x2)]) (st' := [.ref x0]) (w' := w) (by decide +kernel) rfl ?_
        refine ok_gr (by decide +kernel : decode m_C_rectangle.2.1 16 = .ok ((.getfield 19), 3)) rfl (by decide) (fun v4 h5 => ?_)
        refine ok_seg (L := [((.iload_n 1), 1), ((.iload_n 2), 1)]) (pc' := 21) (ls' := [some (.ref x0), some (.int x1), some (.int x2)]) (st' := [.int x2, .int x1, .ref v4]) (w' := w) (by decide +kernel) rfl ?_
        refine ok_call0 (inj' := am_ji) (by decide +kernel : decode m_C_rectangle.2.1 21 = .ok ((.invokevirtual 144), 3)) rfl (fun q hq => am_iv0 (am_self_eq hq).1 rfl rfl rfl) (o_G_sideOf (d + 0) (v4) (x1) (x2) w) (fun _ _ => rfl) (fun r6 h7 => ?_)
        exact ok_ret (v := r6.2) (by decide +kernel : decode m_C_rectangle.2.1 24 = .ok (.ireturn, 1)) rfl
      · skip
        exact o_C_rectangle_p13 (some (.ref x0)) (some (.int x1)) (some (.int x2)) w
-- m_G_countThrough
def f_G_countThrough_p19 (w : am_W) : Option (am_W × Int32) := (some (w, 0))
def f_G_countThrough_p122 (x8 : Int32) (w : am_W) : Option (am_W × Int32) := (some (w, x8))
def f_G_countThrough_p116 (k65 : Nat → Int64 → Int32 → Int32 → Int32 → Int32 → Int32 → am_W → Option (am_W × Int32)) (x0 : Nat) (x3 : Int64) (x5 : Int32) (x6 : Int32) (x7 : Int32) (x8 : Int32) (x9 : Int32) (w : am_W) : Option (am_W × Int32) := (k65 x0 x3 x5 x6 x7 x8 (x9 + 1) w)
def f_G_countThrough_p65 : Nat → Nat → Int64 → Int32 → Int32 → Int32 → Int32 → Int32 → am_W → Option (am_W × Int32)
  | 0, _, _, _, _, _, _, _, _ => none
  | n + 1, x0, x3, x5, x6, x7, x8, x9, w => (if x7 = 0 then (f_G_countThrough_p122 x8 w) else ((am_gi w x0 1 1).bind fun v2 => (if v2 ≤ x9 then (f_G_countThrough_p122 x8 w) else ((f_G_columnsOf (x0) (x3) (x9) w).bind fun r5 => (if x9 = x5 then (f_G_countThrough_p116 (f_G_countThrough_p65 n) x0 x3 x5 x6 x7 x8 x9 r5.1) else (if (r5.2 &&& x6) = 0 then (f_G_countThrough_p116 (f_G_countThrough_p65 n) x0 x3 x5 x6 x7 x8 x9 r5.1) else ((f_I_bitCount ((r5.2 &&& x7)) r5.1).bind fun r9 => (f_G_countThrough_p116 (f_G_countThrough_p65 n) x0 x3 x5 x6 x7 (x8 + r9.2) x9 r9.1))))))))
def e_G_countThrough (x0 : Nat) (x1 : Int32) (x2 : Int32) (w : am_W) : Option (am_W × Int32) := ((f_G_hasCell (x0) (x1) w).bind fun r11 => (if r11.2 = 0 then (f_G_countThrough_p19 r11.1) else ((am_gi r11.1 x0 1 2).bind fun v14 => (if v14 ≤ 0 then (f_G_countThrough_p19 r11.1) else (if 0 < x2 then ((f_G_cellsOf (x0) (x2) r11.1).bind fun r18 => ((am_gi r18.1 x0 1 2).bind fun v20 => (if v20 = 0 then none else ((am_gi r18.1 x0 1 2).bind fun v23 => (if v23 = 0 then none else ((f_G_columnsOf (x0) (r18.2) ((x1 / v20)) r18.1).bind fun r26 => (f_G_countThrough_p65 am_N x0 r18.2 (x1 / v20) (1 <<< ((x1 - x1 / v23 * v23) &&& 31)) (r26.2 &&& ((1 <<< ((x1 - x1 / v23 * v23) &&& 31)) ^^^ (-1))) 0 0 r26.1))))))) else (f_G_countThrough_p19 r11.1))))))
def f_G_countThrough (x0 : Nat) (x1 : Int32) (x2 : Int32) (w : am_W) : Option (am_W × Int32) := am_self w x0 1 (e_G_countThrough x0 x1 x2 w)
theorem o_G_countThrough_p19 {d : Nat} (y0 y1 y2 y3 y4 y5 y6 y7 y8 y9 y10 : Option Value) (w : am_W) : am_Ok am_ji (d + 1) m_G_countThrough 19 [y0, y1, y2, y3, y4, y5, y6, y7, y8, y9, y10] [] w (f_G_countThrough_p19 w) := by
  unfold f_G_countThrough_p19
  refine ok_seg (L := [((.iconst 0), 1)]) (pc' := 20) (ls' := [y0, y1, y2, y3, y4, y5, y6, y7, y8, y9, y10]) (st' := [.int 0]) (w' := w) (by decide +kernel) rfl ?_
  exact ok_ret (v := 0) (by decide +kernel : decode m_G_countThrough.2.1 20 = .ok (.ireturn, 1)) rfl
theorem o_G_countThrough_p122 {d : Nat} (x8 : Int32) (y0 y1 y2 y3 y4 y5 y6 y7 y9 y10 : Option Value) (w : am_W) : am_Ok am_ji (d + 1) m_G_countThrough 122 [y0, y1, y2, y3, y4, y5, y6, y7, some (.int x8), y9, y10] [] w (f_G_countThrough_p122 x8 w) := by
  unfold f_G_countThrough_p122
  refine ok_seg (L := [((.iload 8), 2)]) (pc' := 124) (ls' := [y0, y1, y2, y3, y4, y5, y6, y7, some (.int x8), y9, y10]) (st' := [.int x8]) (w' := w) (by decide +kernel) rfl ?_
  exact ok_ret (v := x8) (by decide +kernel : decode m_G_countThrough.2.1 124 = .ok (.ireturn, 1)) rfl
theorem o_G_countThrough_p116 {d : Nat} {k65 : Nat → Int64 → Int32 → Int32 → Int32 → Int32 → Int32 → am_W → Option (am_W × Int32)} (hk65 : ∀ (x0 : Nat) (x3 : Int64) (x5 : Int32) (x6 : Int32) (x7 : Int32) (x8 : Int32) (x9 : Int32) (y1 y2 y4 y10 : Option Value) (w : am_W), am_Ok am_ji (d + 1) m_G_countThrough 65 [some (.ref x0), y1, y2, some (.long x3), y4, some (.int x5), some (.int x6), some (.int x7), some (.int x8), some (.int x9), y10] [] w (k65 x0 x3 x5 x6 x7 x8 x9 w)) (x0 : Nat) (x3 : Int64) (x5 : Int32) (x6 : Int32) (x7 : Int32) (x8 : Int32) (x9 : Int32) (y1 y2 y4 y10 : Option Value) (w : am_W) : am_Ok am_ji (d + 1) m_G_countThrough 116 [some (.ref x0), y1, y2, some (.long x3), y4, some (.int x5), some (.int x6), some (.int x7), some (.int x8), some (.int x9), y10] [] w (f_G_countThrough_p116 k65 x0 x3 x5 x6 x7 x8 x9 w) := by
  unfold f_G_countThrough_p116
  refine ok_seg (L := [((.iinc 9 1), 3)]) (pc' := 119) (ls' := [some (.ref x0), y1, y2, some (.long x3), y4, some (.int x5), some (.int x6), some (.int x7), some (.int x8), some (.int (x9 + 1)), y10]) (st' := []) (w' := w) (by decide +kernel) rfl ?_
  refine ok_goto (t := 65) (by decide +kernel : decode m_G_countThrough.2.1 119 = .ok ((.goto (-54)), 3)) rfl ?_
  exact hk65 x0 x3 x5 x6 x7 x8 (x9 + 1) y1 y2 y4 y10 w
theorem o_G_countThrough_p65 {d : Nat} : ∀ (n : Nat) (x0 : Nat) (x3 : Int64) (x5 : Int32) (x6 : Int32) (x7 : Int32) (x8 : Int32) (x9 : Int32) (y1 y2 y4 y10 : Option Value) (w : am_W), am_Ok am_ji (d + 1) m_G_countThrough 65 [some (.ref x0), y1, y2, some (.long x3), y4, some (.int x5), some (.int x6), some (.int x7), some (.int x8), some (.int x9), y10] [] w (f_G_countThrough_p65 n x0 x3 x5 x6 x7 x8 x9 w) := by
  intro n
  induction n with
  | zero => intros; exact ok_none
  | succ n ih =>
    intro x0 x3 x5 x6 x7 x8 x9 y1 y2 y4 y10 w
    unfold f_G_countThrough_p65
    refine ok_seg (L := [((.iload 7), 2)]) (pc' := 67) (ls' := [some (.ref x0), y1, y2, some (.long x3), y4, some (.int x5), some (.int x6), some (.int x7), some (.int x8), some (.int x9), y10]) (st' := [.int x7]) (w' := w) (by decide +kernel) rfl ?_
    refine ok_br (P := x7 = 0) (off := 55) (t := 122) (by decide +kernel : decode m_G_countThrough.2.1 67 = .ok ((.ifCond .eq 55), 3)) rfl rfl rfl rfl (fun c1 => ?_) (fun c1 => ?_)
    · skip
      exact o_G_countThrough_p122 x8 (some (.ref x0)) y1 y2 (some (.long x3)) y4 (some (.int x5)) (some (.int x6)) (some (.int x7)) (some (.int x9)) y10 w
    · skip
      refine ok_seg (L := [((.iload 9), 2), ((.aload_n 0), 1)]) (pc' := 73) (ls' := [some (.ref x0), y1, y2, some (.long x3), y4, some (.int x5), some (.int x6), some (.int x7), some (.int x8), some (.int x9), y10]) (st' := [.ref x0, .int x9]) (w' := w) (by decide +kernel) rfl ?_
      refine ok_gi (by decide +kernel : decode m_G_countThrough.2.1 73 = .ok ((.getfield 15), 3)) rfl (fun v2 h3 => ?_)
      refine ok_br (P := v2 ≤ x9) (off := 46) (t := 122) (by decide +kernel : decode m_G_countThrough.2.1 76 = .ok ((.if_icmp .ge 46), 3)) rfl rfl rfl rfl (fun c4 => ?_) (fun c4 => ?_)
      · skip
        exact o_G_countThrough_p122 x8 (some (.ref x0)) y1 y2 (some (.long x3)) y4 (some (.int x5)) (some (.int x6)) (some (.int x7)) (some (.int x9)) y10 w
      · skip
        refine ok_seg (L := [((.aload_n 0), 1), ((.lload_n 3), 1), ((.iload 9), 2)]) (pc' := 83) (ls' := [some (.ref x0), y1, y2, some (.long x3), y4, some (.int x5), some (.int x6), some (.int x7), some (.int x8), some (.int x9), y10]) (st' := [.int x9, .long x3, .ref x0]) (w' := w) (by decide +kernel) rfl ?_
        refine ok_call0 (inj' := am_ji) (by decide +kernel : decode m_G_countThrough.2.1 83 = .ok ((.invokevirtual 50), 3)) rfl (fun q hq => am_iv0 (am_self_eq hq).1 rfl rfl rfl) (o_G_columnsOf (d + 0) (x0) (x3) (x9) w) (fun _ _ => rfl) (fun r5 h6 => ?_)
        refine ok_seg (L := [((.istore 10), 2), ((.iload 9), 2), ((.iload 5), 2)]) (pc' := 92) (ls' := [some (.ref x0), y1, y2, some (.long x3), y4, some (.int x5), some (.int x6), some (.int x7), some (.int x8), some (.int x9), some (.int r5.2)]) (st' := [.int x5, .int x9]) (w' := r5.1) (by decide +kernel) rfl ?_
        refine ok_br (P := x9 = x5) (off := 24) (t := 116) (by decide +kernel : decode m_G_countThrough.2.1 92 = .ok ((.if_icmp .eq 24), 3)) rfl rfl rfl rfl (fun c7 => ?_) (fun c7 => ?_)
        · skip
          exact o_G_countThrough_p116 ih x0 x3 x5 x6 x7 x8 x9 y1 y2 y4 (some (.int r5.2)) r5.1
        · skip
          refine ok_seg (L := [((.iload 10), 2), ((.iload 6), 2), (.iand, 1)]) (pc' := 100) (ls' := [some (.ref x0), y1, y2, some (.long x3), y4, some (.int x5), some (.int x6), some (.int x7), some (.int x8), some (.int x9), some (.int r5.2)]) (st' := [.int (r5.2 &&& x6)]) (w' := r5.1) (by decide +kernel) rfl ?_
          refine ok_br (P := (r5.2 &&& x6) = 0) (off := 16) (t := 116) (by decide +kernel : decode m_G_countThrough.2.1 100 = .ok ((.ifCond .eq 16), 3)) rfl rfl rfl rfl (fun c8 => ?_) (fun c8 => ?_)
          · skip
            exact o_G_countThrough_p116 ih x0 x3 x5 x6 x7 x8 x9 y1 y2 y4 (some (.int r5.2)) r5.1
          · skip
            refine ok_seg (L := [((.iload 8), 2), ((.iload 10), 2), ((.iload 7), 2), (.iand, 1)]) (pc' := 110) (ls' := [some (.ref x0), y1, y2, some (.long x3), y4, some (.int x5), some (.int x6), some (.int x7), some (.int x8), some (.int x9), some (.int r5.2)]) (st' := [.int (r5.2 &&& x7), .int x8]) (w' := r5.1) (by decide +kernel) rfl ?_
            refine ok_call0 (inj' := am_ji) (by decide +kernel : decode m_G_countThrough.2.1 110 = .ok ((.invokestatic 54), 3)) rfl (fun _ _ => rfl) (o_I_bitCount (d + 0) ((r5.2 &&& x7)) r5.1) (fun _ _ => rfl) (fun r9 h10 => ?_)
            refine ok_seg (L := [(.iadd, 1), ((.istore 8), 2)]) (pc' := 116) (ls' := [some (.ref x0), y1, y2, some (.long x3), y4, some (.int x5), some (.int x6), some (.int x7), some (.int (x8 + r9.2)), some (.int x9), some (.int r5.2)]) (st' := []) (w' := r9.1) (by decide +kernel) rfl ?_
            exact o_G_countThrough_p116 ih x0 x3 x5 x6 x7 (x8 + r9.2) x9 y1 y2 y4 (some (.int r5.2)) r9.1
theorem o_G_countThrough (d : Nat) (x0 : Nat) (x1 : Int32) (x2 : Int32) (w : am_W) : am_Ok am_ji (d + 1) m_G_countThrough 0 (am_en m_G_countThrough [.ref x0, .int x1, .int x2]) [] w (f_G_countThrough x0 x1 x2 w) := by
  show am_Ok _ _ _ 0 [some (.ref x0), some (.int x1), some (.int x2), none, none, none, none, none, none, none, none] [] w _
  unfold f_G_countThrough
  refine ok_self ?_
  unfold e_G_countThrough
  refine ok_seg (L := [((.aload_n 0), 1), ((.iload_n 1), 1)]) (pc' := 2) (ls' := [some (.ref x0), some (.int x1), some (.int x2), none, none, none, none, none, none, none, none]) (st' := [.int x1, .ref x0]) (w' := w) (by decide +kernel) rfl ?_
  refine ok_call0 (inj' := am_ji) (by decide +kernel : decode m_G_countThrough.2.1 2 = .ok ((.invokevirtual 35), 3)) rfl (fun q hq => am_iv0 (am_self_eq hq).1 rfl rfl rfl) (o_G_hasCell (d + 0) (x0) (x1) w) (fun _ _ => rfl) (fun r11 h12 => ?_)
  refine ok_br (P := r11.2 = 0) (off := 14) (t := 19) (by decide +kernel : decode m_G_countThrough.2.1 5 = .ok ((.ifCond .eq 14), 3)) rfl rfl rfl rfl (fun c13 => ?_) (fun c13 => ?_)
  · skip
    exact o_G_countThrough_p19 (some (.ref x0)) (some (.int x1)) (some (.int x2)) none none none none none none none none r11.1
  · skip
    refine ok_seg (L := [((.aload_n 0), 1)]) (pc' := 9) (ls' := [some (.ref x0), some (.int x1), some (.int x2), none, none, none, none, none, none, none, none]) (st' := [.ref x0]) (w' := r11.1) (by decide +kernel) rfl ?_
    refine ok_gi (by decide +kernel : decode m_G_countThrough.2.1 9 = .ok ((.getfield 19), 3)) rfl (fun v14 h15 => ?_)
    refine ok_br (P := v14 ≤ 0) (off := 7) (t := 19) (by decide +kernel : decode m_G_countThrough.2.1 12 = .ok ((.ifCond .le 7), 3)) rfl rfl rfl rfl (fun c16 => ?_) (fun c16 => ?_)
    · skip
      exact o_G_countThrough_p19 (some (.ref x0)) (some (.int x1)) (some (.int x2)) none none none none none none none none r11.1
    · skip
      refine ok_seg (L := [((.iload_n 2), 1)]) (pc' := 16) (ls' := [some (.ref x0), some (.int x1), some (.int x2), none, none, none, none, none, none, none, none]) (st' := [.int x2]) (w' := r11.1) (by decide +kernel) rfl ?_
      refine ok_br (P := 0 < x2) (off := 5) (t := 21) (by decide +kernel : decode m_G_countThrough.2.1 16 = .ok ((.ifCond .gt 5), 3)) rfl rfl rfl rfl (fun c17 => ?_) (fun c17 => ?_)
      · skip
        refine ok_seg (L := [((.aload_n 0), 1), ((.iload_n 2), 1)]) (pc' := 23) (ls' := [some (.ref x0), some (.int x1), some (.int x2), none, none, none, none, none, none, none, none]) (st' := [.int x2, .ref x0]) (w' := r11.1) (by decide +kernel) rfl ?_
        refine ok_call0 (inj' := am_jj) (by decide +kernel : decode m_G_countThrough.2.1 23 = .ok ((.invokevirtual 31), 3)) rfl (fun q hq => am_iv0 (am_self_eq hq).1 rfl rfl rfl) (o_G_cellsOf (d + 0) (x0) (x2) r11.1) (fun _ _ => rfl) (fun r18 h19 => ?_)
        refine ok_seg (L := [((.lstore_n 3), 1), ((.iload_n 1), 1), ((.aload_n 0), 1)]) (pc' := 29) (ls' := [some (.ref x0), some (.int x1), some (.int x2), some (.long r18.2), none, none, none, none, none, none, none]) (st' := [.ref x0, .int x1]) (w' := r18.1) (by decide +kernel) rfl ?_
        refine ok_gi (by decide +kernel : decode m_G_countThrough.2.1 29 = .ok ((.getfield 19), 3)) rfl (fun v20 h21 => ?_)
        refine ok_div (by decide +kernel : decode m_G_countThrough.2.1 32 = .ok (.idiv, 1)) (fun c22 => ?_)
        refine ok_seg (L := [((.istore 5), 2), ((.iconst 1), 1), ((.iload_n 1), 1), ((.aload_n 0), 1)]) (pc' := 38) (ls' := [some (.ref x0), some (.int x1), some (.int x2), some (.long r18.2), none, some (.int (x1 / v20)), none, none, none, none, none]) (st' := [.ref x0, .int x1, .int 1]) (w' := r18.1) (by decide +kernel) rfl ?_
        refine ok_gi (by decide +kernel : decode m_G_countThrough.2.1 38 = .ok ((.getfield 19), 3)) rfl (fun v23 h24 => ?_)
        refine ok_rem (by decide +kernel : decode m_G_countThrough.2.1 41 = .ok (.irem, 1)) (fun c25 => ?_)
        refine ok_seg (L := [(.ishl, 1), ((.istore 6), 2), ((.aload_n 0), 1), ((.lload_n 3), 1), ((.iload 5), 2)]) (pc' := 49) (ls' := [some (.ref x0), some (.int x1), some (.int x2), some (.long r18.2), none, some (.int (x1 / v20)), some (.int (1 <<< ((x1 - x1 / v23 * v23) &&& 31))), none, none, none, none]) (st' := [.int (x1 / v20), .long r18.2, .ref x0]) (w' := r18.1) (by decide +kernel) rfl ?_
        refine ok_call0 (inj' := am_ji) (by decide +kernel : decode m_G_countThrough.2.1 49 = .ok ((.invokevirtual 50), 3)) rfl (fun q hq => am_iv0 (am_self_eq hq).1 rfl rfl rfl) (o_G_columnsOf (d + 0) (x0) (r18.2) ((x1 / v20)) r18.1) (fun _ _ => rfl) (fun r26 h27 => ?_)
        refine ok_seg (L := [((.iload 6), 2), ((.iconst (-1)), 1), (.ixor, 1), (.iand, 1), ((.istore 7), 2), ((.iconst 0), 1), ((.istore 8), 2), ((.iconst 0), 1), ((.istore 9), 2)]) (pc' := 65) (ls' := [some (.ref x0), some (.int x1), some (.int x2), some (.long r18.2), none, some (.int (x1 / v20)), some (.int (1 <<< ((x1 - x1 / v23 * v23) &&& 31))), some (.int (r26.2 &&& ((1 <<< ((x1 - x1 / v23 * v23) &&& 31)) ^^^ (-1)))), some (.int 0), some (.int 0), none]) (st' := []) (w' := r26.1) (by decide +kernel) rfl ?_
        exact o_G_countThrough_p65 am_N x0 r18.2 (x1 / v20) (1 <<< ((x1 - x1 / v23 * v23) &&& 31)) (r26.2 &&& ((1 <<< ((x1 - x1 / v23 * v23) &&& 31)) ^^^ (-1))) 0 0 (some (.int x1)) (some (.int x2)) none none r26.1
      · skip
        exact o_G_countThrough_p19 (some (.ref x0)) (some (.int x1)) (some (.int x2)) none none none none none none none none r11.1
-- m_C_through
def f_C_through_p31 (s0 : Int32) (w : am_W) : Option (am_W × Int32) := (some (w, s0))
def e_C_through (x0 : Nat) (x1 : Int32) (w : am_W) : Option (am_W × Int32) := ((am_gr w x0 0 1).bind fun v1 => ((f_G_hasCell (v1) (x1) w).bind fun r3 => (if r3.2 = 0 then (f_C_through_p31 (-1) r3.1) else ((am_gr r3.1 x0 0 1).bind fun v6 => ((am_gr r3.1 x0 0 1).bind fun v8 => ((f_G_colourOf (v8) (x1) r3.1).bind fun r10 => ((f_G_countThrough (v6) (x1) (r10.2) r10.1).bind fun r12 => (f_C_through_p31 r12.2 r12.1))))))))
def f_C_through (x0 : Nat) (x1 : Int32) (w : am_W) : Option (am_W × Int32) := am_self w x0 0 (e_C_through x0 x1 w)
theorem o_C_through_p31 {d : Nat} (s0 : Int32) (y0 y1 : Option Value) (w : am_W) : am_Ok am_ji (d + 2) m_C_through 31 [y0, y1] [.int s0] w (f_C_through_p31 s0 w) := by
  unfold f_C_through_p31
  exact ok_ret (v := s0) (by decide +kernel : decode m_C_through.2.1 31 = .ok (.ireturn, 1)) rfl
theorem o_C_through (d : Nat) (x0 : Nat) (x1 : Int32) (w : am_W) : am_Ok am_ji (d + 2) m_C_through 0 (am_en m_C_through [.ref x0, .int x1]) [] w (f_C_through x0 x1 w) := by
  show am_Ok _ _ _ 0 [some (.ref x0), some (.int x1)] [] w _
  unfold f_C_through
  refine ok_self ?_
  unfold e_C_through
  refine ok_seg (L := [((.aload_n 0), 1)]) (pc' := 1) (ls' := [some (.ref x0), some (.int x1)]) (st' := [.ref x0]) (w' := w) (by decide +kernel) rfl ?_
  refine ok_gr (by decide +kernel : decode m_C_through.2.1 1 = .ok ((.getfield 19), 3)) rfl (by decide) (fun v1 h2 => ?_)
  refine ok_seg (L := [((.iload_n 1), 1)]) (pc' := 5) (ls' := [some (.ref x0), some (.int x1)]) (st' := [.int x1, .ref v1]) (w' := w) (by decide +kernel) rfl ?_
  refine ok_call0 (inj' := am_ji) (by decide +kernel : decode m_C_through.2.1 5 = .ok ((.invokevirtual 121), 3)) rfl (fun q hq => am_iv0 (am_self_eq hq).1 rfl rfl rfl) (o_G_hasCell (d + 1) (v1) (x1) w) (fun _ _ => rfl) (fun r3 h4 => ?_)
  refine ok_br (P := r3.2 = 0) (off := 22) (t := 30) (by decide +kernel : decode m_C_through.2.1 8 = .ok ((.ifCond .eq 22), 3)) rfl rfl rfl rfl (fun c5 => ?_) (fun c5 => ?_)
  · skip
    refine ok_seg (L := [((.iconst (-1)), 1)]) (pc' := 31) (ls' := [some (.ref x0), some (.int x1)]) (st' := [.int (-1)]) (w' := r3.1) (by decide +kernel) rfl ?_
    exact o_C_through_p31 (-1) (some (.ref x0)) (some (.int x1)) r3.1
  · skip
    refine ok_seg (L := [((.aload_n 0), 1)]) (pc' := 12) (ls' := [some (.ref x0), some (.int x1)]) (st' := [.ref x0]) (w' := r3.1) (by decide +kernel) rfl ?_
    refine ok_gr (by decide +kernel : decode m_C_through.2.1 12 = .ok ((.getfield 19), 3)) rfl (by decide) (fun v6 h7 => ?_)
    refine ok_seg (L := [((.iload_n 1), 1), ((.aload_n 0), 1)]) (pc' := 17) (ls' := [some (.ref x0), some (.int x1)]) (st' := [.ref x0, .int x1, .ref v6]) (w' := r3.1) (by decide +kernel) rfl ?_
    refine ok_gr (by decide +kernel : decode m_C_through.2.1 17 = .ok ((.getfield 19), 3)) rfl (by decide) (fun v8 h9 => ?_)
    refine ok_seg (L := [((.iload_n 1), 1)]) (pc' := 21) (ls' := [some (.ref x0), some (.int x1)]) (st' := [.int x1, .ref v8, .int x1, .ref v6]) (w' := r3.1) (by decide +kernel) rfl ?_
    refine ok_call0 (inj' := am_ji) (by decide +kernel : decode m_C_through.2.1 21 = .ok ((.invokevirtual 124), 3)) rfl (fun q hq => am_iv0 (am_self_eq hq).1 rfl rfl rfl) (o_G_colourOf (d + 0) (v8) (x1) r3.1) (fun _ _ => rfl) (fun r10 h11 => ?_)
    refine ok_call0 (inj' := am_ji) (by decide +kernel : decode m_C_through.2.1 24 = .ok ((.invokevirtual 148), 3)) rfl (fun q hq => am_iv0 (am_self_eq hq).1 rfl rfl rfl) (o_G_countThrough (d + 0) (v6) (x1) (r10.2) r10.1) (fun _ _ => rfl) (fun r12 h13 => ?_)
    refine ok_goto (t := 31) (by decide +kernel : decode m_C_through.2.1 27 = .ok ((.goto 4), 3)) rfl ?_
    exact o_C_through_p31 r12.2 (some (.ref x0)) (some (.int x1)) r12.1
-- m_C_worst
def f_C_worst_p46 (k6 : Nat → Int32 → Int32 → Int32 → am_W → Option (am_W × Int32)) (x0 : Nat) (x1 : Int32) (x2 : Int32) (x3 : Int32) (w : am_W) : Option (am_W × Int32) := (k6 x0 x1 x2 (x3 + 1) w)
def f_C_worst_p6 : Nat → Nat → Int32 → Int32 → Int32 → am_W → Option (am_W × Int32)
  | 0, _, _, _, _, _ => none
  | n + 1, x0, x1, x2, x3, w => ((am_gr w x0 0 1).bind fun v1 => ((f_G_size (v1) w).bind fun r3 => (if r3.2 ≤ x3 then (some (r3.1, x1)) else ((am_gr r3.1 x0 0 1).bind fun v6 => ((am_gr r3.1 x0 0 1).bind fun v8 => ((f_G_colourOf (v8) (x3) r3.1).bind fun r10 => ((f_G_countThrough (v6) (x3) (r10.2) r10.1).bind fun r12 => (if r12.2 ≤ x2 then (f_C_worst_p46 (f_C_worst_p6 n) x0 x1 x2 x3 r12.1) else (f_C_worst_p46 (f_C_worst_p6 n) x0 x3 r12.2 x3 r12.1)))))))))
def e_C_worst (x0 : Nat) (w : am_W) : Option (am_W × Int32) := (f_C_worst_p6 am_N x0 (-1) 0 0 w)
def f_C_worst (x0 : Nat) (w : am_W) : Option (am_W × Int32) := am_self w x0 0 (e_C_worst x0 w)
theorem o_C_worst_p46 {d : Nat} {k6 : Nat → Int32 → Int32 → Int32 → am_W → Option (am_W × Int32)} (hk6 : ∀ (x0 : Nat) (x1 : Int32) (x2 : Int32) (x3 : Int32) (y4 : Option Value) (w : am_W), am_Ok am_ji (d + 2) m_C_worst 6 [some (.ref x0), some (.int x1), some (.int x2), some (.int x3), y4] [] w (k6 x0 x1 x2 x3 w)) (x0 : Nat) (x1 : Int32) (x2 : Int32) (x3 : Int32) (y4 : Option Value) (w : am_W) : am_Ok am_ji (d + 2) m_C_worst 46 [some (.ref x0), some (.int x1), some (.int x2), some (.int x3), y4] [] w (f_C_worst_p46 k6 x0 x1 x2 x3 w) := by
  unfold f_C_worst_p46
  refine ok_seg (L := [((.iinc 3 1), 3)]) (pc' := 49) (ls' := [some (.ref x0), some (.int x1), some (.int x2), some (.int (x3 + 1)), y4]) (st' := []) (w' := w) (by decide +kernel) rfl ?_
  refine ok_goto (t := 6) (by decide +kernel : decode m_C_worst.2.1 49 = .ok ((.goto (-43)), 3)) rfl ?_
  exact hk6 x0 x1 x2 (x3 + 1) y4 w
theorem o_C_worst_p6 {d : Nat} : ∀ (n : Nat) (x0 : Nat) (x1 : Int32) (x2 : Int32) (x3 : Int32) (y4 : Option Value) (w : am_W), am_Ok am_ji (d + 2) m_C_worst 6 [some (.ref x0), some (.int x1), some (.int x2), some (.int x3), y4] [] w (f_C_worst_p6 n x0 x1 x2 x3 w) := by
  intro n
  induction n with
  | zero => intros; exact ok_none
  | succ n ih =>
    intro x0 x1 x2 x3 y4 w
    unfold f_C_worst_p6
    refine ok_seg (L := [((.iload_n 3), 1), ((.aload_n 0), 1)]) (pc' := 8) (ls' := [some (.ref x0), some (.int x1), some (.int x2), some (.int x3), y4]) (st' := [.ref x0, .int x3]) (w' := w) (by decide +kernel) rfl ?_
    refine ok_gr (by decide +kernel : decode m_C_worst.2.1 8 = .ok ((.getfield 19), 3)) rfl (by decide) (fun v1 h2 => ?_)
    refine ok_call0 (inj' := am_ji) (by decide +kernel : decode m_C_worst.2.1 11 = .ok ((.invokevirtual 151), 3)) rfl (fun q hq => am_iv0 (am_self_eq hq).1 rfl rfl rfl) (o_G_size (d + 1) (v1) w) (fun _ _ => rfl) (fun r3 h4 => ?_)
    refine ok_br (P := r3.2 ≤ x3) (off := 38) (t := 52) (by decide +kernel : decode m_C_worst.2.1 14 = .ok ((.if_icmp .ge 38), 3)) rfl rfl rfl rfl (fun c5 => ?_) (fun c5 => ?_)
    · skip
      refine ok_seg (L := [((.iload_n 1), 1)]) (pc' := 53) (ls' := [some (.ref x0), some (.int x1), some (.int x2), some (.int x3), y4]) (st' := [.int x1]) (w' := r3.1) (by decide +kernel) rfl ?_
      exact ok_ret (v := x1) (by decide +kernel : decode m_C_worst.2.1 53 = .ok (.ireturn, 1)) rfl
    · skip
      refine ok_seg (L := [((.aload_n 0), 1)]) (pc' := 18) (ls' := [some (.ref x0), some (.int x1), some (.int x2), some (.int x3), y4]) (st' := [.ref x0]) (w' := r3.1) (by decide +kernel) rfl ?_
      refine ok_gr (by decide +kernel : decode m_C_worst.2.1 18 = .ok ((.getfield 19), 3)) rfl (by decide) (fun v6 h7 => ?_)
      refine ok_seg (L := [((.iload_n 3), 1), ((.aload_n 0), 1)]) (pc' := 23) (ls' := [some (.ref x0), some (.int x1), some (.int x2), some (.int x3), y4]) (st' := [.ref x0, .int x3, .ref v6]) (w' := r3.1) (by decide +kernel) rfl ?_
      refine ok_gr (by decide +kernel : decode m_C_worst.2.1 23 = .ok ((.getfield 19), 3)) rfl (by decide) (fun v8 h9 => ?_)
      refine ok_seg (L := [((.iload_n 3), 1)]) (pc' := 27) (ls' := [some (.ref x0), some (.int x1), some (.int x2), some (.int x3), y4]) (st' := [.int x3, .ref v8, .int x3, .ref v6]) (w' := r3.1) (by decide +kernel) rfl ?_
      refine ok_call0 (inj' := am_ji) (by decide +kernel : decode m_C_worst.2.1 27 = .ok ((.invokevirtual 124), 3)) rfl (fun q hq => am_iv0 (am_self_eq hq).1 rfl rfl rfl) (o_G_colourOf (d + 0) (v8) (x3) r3.1) (fun _ _ => rfl) (fun r10 h11 => ?_)
      refine ok_call0 (inj' := am_ji) (by decide +kernel : decode m_C_worst.2.1 30 = .ok ((.invokevirtual 148), 3)) rfl (fun q hq => am_iv0 (am_self_eq hq).1 rfl rfl rfl) (o_G_countThrough (d + 0) (v6) (x3) (r10.2) r10.1) (fun _ _ => rfl) (fun r12 h13 => ?_)
      refine ok_seg (L := [((.istore 4), 2), ((.iload 4), 2), ((.iload_n 2), 1)]) (pc' := 38) (ls' := [some (.ref x0), some (.int x1), some (.int x2), some (.int x3), some (.int r12.2)]) (st' := [.int x2, .int r12.2]) (w' := r12.1) (by decide +kernel) rfl ?_
      refine ok_br (P := r12.2 ≤ x2) (off := 8) (t := 46) (by decide +kernel : decode m_C_worst.2.1 38 = .ok ((.if_icmp .le 8), 3)) rfl rfl rfl rfl (fun c14 => ?_) (fun c14 => ?_)
      · skip
        exact o_C_worst_p46 ih x0 x1 x2 x3 (some (.int r12.2)) r12.1
      · skip
        refine ok_seg (L := [((.iload 4), 2), ((.istore_n 2), 1), ((.iload_n 3), 1), ((.istore_n 1), 1)]) (pc' := 46) (ls' := [some (.ref x0), some (.int x3), some (.int r12.2), some (.int x3), some (.int r12.2)]) (st' := []) (w' := r12.1) (by decide +kernel) rfl ?_
        exact o_C_worst_p46 ih x0 x3 r12.2 x3 (some (.int r12.2)) r12.1
theorem o_C_worst (d : Nat) (x0 : Nat) (w : am_W) : am_Ok am_ji (d + 2) m_C_worst 0 (am_en m_C_worst [.ref x0]) [] w (f_C_worst x0 w) := by
  show am_Ok _ _ _ 0 [some (.ref x0), none, none, none, none] [] w _
  unfold f_C_worst
  refine ok_self ?_
  unfold e_C_worst
  refine ok_seg (L := [((.iconst (-1)), 1), ((.istore_n 1), 1), ((.iconst 0), 1), ((.istore_n 2), 1), ((.iconst 0), 1), ((.istore_n 3), 1)]) (pc' := 6) (ls' := [some (.ref x0), some (.int (-1)), some (.int 0), some (.int 0), none]) (st' := []) (w' := w) (by decide +kernel) rfl ?_
  exact o_C_worst_p6 am_N x0 (-1) 0 0 none w
-- m_C_may
def f_C_may_p48 (k17 : Nat → Int32 → Int32 → Int32 → am_W → Option (am_W × Int32)) (x0 : Nat) (x1 : Int32) (x2 : Int32) (x3 : Int32) (w : am_W) : Option (am_W × Int32) := (k17 x0 x1 x2 (x3 + 1) w)
def f_C_may_p17 : Nat → Nat → Int32 → Int32 → Int32 → am_W → Option (am_W × Int32)
  | 0, _, _, _, _, _ => none
  | n + 1, x0, x1, x2, x3, w => ((am_gr w x0 0 1).bind fun v1 => ((f_G_shades (v1) w).bind fun r3 => (if r3.2 < x3 then (some (r3.1, x2)) else ((am_gr r3.1 x0 0 1).bind fun v6 => ((f_G_countThrough (v6) (x1) (x3) r3.1).bind fun r8 => (if ¬ r8.2 = 0 then (f_C_may_p48 (f_C_may_p17 n) x0 x1 x2 x3 r8.1) else (f_C_may_p48 (f_C_may_p17 n) x0 x1 (x2 ||| (1 <<< ((x3 - 1) &&& 31))) x3 r8.1)))))))
def e_C_may (x0 : Nat) (x1 : Int32) (w : am_W) : Option (am_W × Int32) := ((am_gr w x0 0 1).bind fun v11 => ((f_G_hasCell (v11) (x1) w).bind fun r13 => (if ¬ r13.2 = 0 then (f_C_may_p17 am_N x0 x1 0 1 r13.1) else (some (r13.1, (-1))))))
def f_C_may (x0 : Nat) (x1 : Int32) (w : am_W) : Option (am_W × Int32) := am_self w x0 0 (e_C_may x0 x1 w)
theorem o_C_may_p48 {d : Nat} {k17 : Nat → Int32 → Int32 → Int32 → am_W → Option (am_W × Int32)} (hk17 : ∀ (x0 : Nat) (x1 : Int32) (x2 : Int32) (x3 : Int32) (w : am_W), am_Ok am_ji (d + 2) m_C_may 17 [some (.ref x0), some (.int x1), some (.int x2), some (.int x3)] [] w (k17 x0 x1 x2 x3 w)) (x0 : Nat) (x1 : Int32) (x2 : Int32) (x3 : Int32) (w : am_W) : am_Ok am_ji (d + 2) m_C_may 48 [some (.ref x0), some (.int x1), some (.int x2), some (.int x3)] [] w (f_C_may_p48 k17 x0 x1 x2 x3 w) := by
  unfold f_C_may_p48
  refine ok_seg (L := [((.iinc 3 1), 3)]) (pc' := 51) (ls' := [some (.ref x0), some (.int x1), some (.int x2), some (.int (x3 + 1))]) (st' := []) (w' := w) (by decide +kernel) rfl ?_
  refine ok_goto (t := 17) (by decide +kernel : decode m_C_may.2.1 51 = .ok ((.goto (-34)), 3)) rfl ?_
  exact hk17 x0 x1 x2 (x3 + 1) w
theorem o_C_may_p17 {d : Nat} : ∀ (n : Nat) (x0 : Nat) (x1 : Int32) (x2 : Int32) (x3 : Int32) (w : am_W), am_Ok am_ji (d + 2) m_C_may 17 [some (.ref x0), some (.int x1), some (.int x2), some (.int x3)] [] w (f_C_may_p17 n x0 x1 x2 x3 w) := by
  intro n
  induction n with
  | zero => intros; exact ok_none
  | succ n ih =>
    intro x0 x1 x2 x3 w
    unfold f_C_may_p17
    refine ok_seg (L := [((.iload_n 3), 1), ((.aload_n 0), 1)]) (pc' := 19) (ls' := [some (.ref x0), some (.int x1), some (.int x2), some (.int x3)]) (st' := [.ref x0, .int x3]) (w' := w) (by decide +kernel) rfl ?_
    refine ok_gr (by decide +kernel : decode m_C_may.2.1 19 = .ok ((.getfield 19), 3)) rfl (by decide) (fun v1 h2 => ?_)
    refine ok_call0 (inj' := am_ji) (by decide +kernel : decode m_C_may.2.1 22 = .ok ((.invokevirtual 101), 3)) rfl (fun q hq => am_iv0 (am_self_eq hq).1 rfl rfl rfl) (o_G_shades (d + 1) (v1) w) (fun _ _ => rfl) (fun r3 h4 => ?_)
    refine ok_br (P := r3.2 < x3) (off := 29) (t := 54) (by decide +kernel : decode m_C_may.2.1 25 = .ok ((.if_icmp .gt 29), 3)) rfl rfl rfl rfl (fun c5 => ?_) (fun c5 => ?_)
    · skip
      refine ok_seg (L := [((.iload_n 2), 1)]) (pc' := 55) (ls' := [some (.ref x0), some (.int x1), some (.int x2), some (.int x3)]) (st' := [.int x2]) (w' := r3.1) (by decide +kernel) rfl ?_
      exact ok_ret (v := x2) (by decide +kernel : decode m_C_may.2.1 55 = .ok (.ireturn, 1)) rfl
    · skip
      refine ok_seg (L := [((.aload_n 0), 1)]) (pc' := 29) (ls' := [some (.ref x0), some (.int x1), some (.int x2), some (.int x3)]) (st' := [.ref x0]) (w' := r3.1) (by decide +kernel) rfl ?_
      refine ok_gr (by decide +kernel : decode m_C_may.2.1 29 = .ok ((.getfield 19), 3)) rfl (by decide) (fun v6 h7 => ?_)
      refine ok_seg (L := [((.iload_n 1), 1), ((.iload_n 3), 1)]) (pc' := 34) (ls' := [some (.ref x0), some (.int x1), some (.int x2), some (.int x3)]) (st' := [.int x3, .int x1, .ref v6]) (w' := r3.1) (by decide +kernel) rfl ?_
      refine ok_call0 (inj' := am_ji) (by decide +kernel : decode m_C_may.2.1 34 = .ok ((.invokevirtual 148), 3)) rfl (fun q hq => am_iv0 (am_self_eq hq).1 rfl rfl rfl) (o_G_countThrough (d + 0) (v6) (x1) (x3) r3.1) (fun _ _ => rfl) (fun r8 h9 => ?_)
      refine ok_br (P := ¬ r8.2 = 0) (off := 11) (t := 48) (by decide +kernel : decode m_C_may.2.1 37 = .ok ((.ifCond .ne 11), 3)) rfl rfl rfl rfl (fun c10 => ?_) (fun c10 => ?_)
      · skip
        exact o_C_may_p48 ih x0 x1 x2 x3 r8.1
      · skip
        refine ok_seg (L := [((.iload_n 2), 1), ((.iconst 1), 1), ((.iload_n 3), 1), ((.iconst 1), 1), (.isub, 1), (.ishl, 1), (.ior, 1), ((.istore_n 2), 1)]) (pc' := 48) (ls' := [some (.ref x0), some (.int x1), some (.int (x2 ||| (1 <<< ((x3 - 1) &&& 31)))), some (.int x3)]) (st' := []) (w' := r8.1) (by decide +kernel) rfl ?_
        exact o_C_may_p48 ih x0 x1 (x2 ||| (1 <<< ((x3 - 1) &&& 31))) x3 r8.1
theorem o_C_may (d : Nat) (x0 : Nat) (x1 : Int32) (w : am_W) : am_Ok am_ji (d + 2) m_C_may 0 (am_en m_C_may [.ref x0, .int x1]) [] w (f_C_may x0 x1 w) := by
  show am_Ok _ _ _ 0 [some (.ref x0), some (.int x1), none, none] [] w _
  unfold f_C_may
  refine ok_self ?_
  unfold e_C_may
  refine ok_seg (L := [((.aload_n 0), 1)]) (pc' := 1) (ls' := [some (.ref x0), some (.int x1), none, none]) (st' := [.ref x0]) (w' := w) (by decide +kernel) rfl ?_
  refine ok_gr (by decide +kernel : decode m_C_may.2.1 1 = .ok ((.getfield 19), 3)) rfl (by decide) (fun v11 h12 => ?_)
  refine ok_seg (L := [((.iload_n 1), 1)]) (pc' := 5) (ls' := [some (.ref x0), some (.int x1), none, none]) (st' := [.int x1, .ref v11]) (w' := w) (by decide +kernel) rfl ?_
  refine ok_call0 (inj' := am_ji) (by decide +kernel : decode m_C_may.2.1 5 = .ok ((.invokevirtual 121), 3)) rfl (fun q hq => am_iv0 (am_self_eq hq).1 rfl rfl rfl) (o_G_hasCell (d + 1) (v11) (x1) w) (fun _ _ => rfl) (fun r13 h14 => ?_)
  refine ok_br (P := ¬ r13.2 = 0) (off := 5) (t := 13) (by decide +kernel : decode m_C_may.2.1 8 = .ok ((.ifCond .ne 5), 3)) rfl rfl rfl rfl (fun c15 => ?_) (fun c15 => ?_)
  · skip
    refine ok_seg (L := [((.iconst 0), 1), ((.istore_n 2), 1), ((.iconst 1), 1), ((.istore_n 3), 1)]) (pc' := 17) (ls' := [some (.ref x0), some (.int x1), some (.int 0), some (.int 1)]) (st' := []) (w' := r13.1) (by decide +kernel) rfl ?_
    exact o_C_may_p17 am_N x0 x1 0 1 r13.1
  · skip
    refine ok_seg (L := [((.iconst (-1)), 1)]) (pc' := 12) (ls' := [some (.ref x0), some (.int x1), none, none]) (st' := [.int (-1)]) (w' := r13.1) (by decide +kernel) rfl ?_
    exact ok_ret (v := (-1)) (by decide +kernel : decode m_C_may.2.1 12 = .ok (.ireturn, 1)) rfl
