-- m_M_text
def f_M_text_p81 (x0 : Nat) (w : am_W) : Option (am_W × Int32) := ((am_gi w x0 7 9).bind fun v1 => (some (w, ((-1) - v1))))
def f_M_text_p60 : Nat → Nat → Int32 → am_W → Option (am_W × Int32)
  | 0, _, _, _ => none
  | n + 1, x0, x1, w => ((am_gi w x0 7 6).bind fun v3 => (if v3 = 0 then ((am_gr w x0 7 12).bind fun v6 => ((am_gr w x0 7 11).bind fun v8 => ((f_M_copy (v6) (0) (v8) (0) w).bind fun r10 => ((am_pv r10.1 x0 7 19 (.int 0)).bind fun w12 => (some (w12, x1)))))) else ((f_M_readLine (x0) w).bind fun r14 => (if r14.2 = 0 then (f_M_text_p81 x0 r14.1) else ((f_M_readEnd (x0) r14.1).bind fun r17 => (if ¬ r17.2 = 0 then (f_M_text_p60 n x0 (x1 + 1) r17.1) else (f_M_text_p81 x0 r17.1)))))))
def f_M_text_p37 : Nat → Nat → Int32 → Int32 → am_W → Option (am_W × Int32)
  | 0, _, _, _, _ => none
  | n + 1, x0, x1, x2, w => (if 67 ≤ x2 then ((f_M_next (x0) w).bind fun r21 => (f_M_text_p60 am_N x0 x1 r21.1)) else ((am_gr w x0 7 12).bind fun v23 => ((am_si w v23 x2 0).bind fun w25 => (f_M_text_p37 n x0 x1 (x2 + 1) w25))))
def e_M_text (x0 : Nat) (w : am_W) : Option (am_W × Int32) := ((am_pv w x0 7 0 (.int 0)).bind fun w27 => ((am_gi w27 x0 7 2).bind fun v29 => ((am_pv w27 x0 7 3 (.int v29)).bind fun w31 => ((am_pv w31 x0 7 2 (.int 0)).bind fun w33 => ((am_pv w33 x0 7 8 (.int 0)).bind fun w35 => ((am_pv w35 x0 7 4 (.int 0)).bind fun w37 => ((am_pv w37 x0 7 20 (.int 0)).bind fun w39 => (f_M_text_p37 am_N x0 0 0 w39))))))))
def f_M_text (x0 : Nat) (w : am_W) : Option (am_W × Int32) := am_self w x0 7 (e_M_text x0 w)
theorem o_M_text_p81 {d : Nat} (x0 : Nat) (y1 y2 : Option Value) (w : am_W) : am_Ok am_ji (d + 5) m_M_text 81 [some (.ref x0), y1, y2] [] w (f_M_text_p81 x0 w) := by
  unfold f_M_text_p81
  refine ok_seg (L := [((.iconst (-1)), 1), ((.aload_n 0), 1)]) (pc' := 83) (ls' := [some (.ref x0), y1, y2]) (st' := [.ref x0, .int (-1)]) (w' := w) (by decide +kernel) rfl ?_
  refine ok_gi (by decide +kernel : decode m_M_text.2.1 83 = .ok ((.getfield 55), 3)) rfl (fun v1 h2 => ?_)
  refine ok_seg (L := [(.isub, 1)]) (pc' := 87) (ls' := [some (.ref x0), y1, y2]) (st' := [.int ((-1) - v1)]) (w' := w) (by decide +kernel) rfl ?_
  exact ok_ret (v := ((-1) - v1)) (by decide +kernel : decode m_M_text.2.1 87 = .ok (.ireturn, 1)) rfl
theorem o_M_text_p60 {d : Nat} : ∀ (n : Nat) (x0 : Nat) (x1 : Int32) (y2 : Option Value) (w : am_W), am_Ok am_ji (d + 5) m_M_text 60 [some (.ref x0), some (.int x1), y2] [] w (f_M_text_p60 n x0 x1 w) := by
  intro n
  induction n with
  | zero => intros; exact ok_none
  | succ n ih =>
    intro x0 x1 y2 w
    unfold f_M_text_p60
    refine ok_seg (L := [((.aload_n 0), 1)]) (pc' := 61) (ls' := [some (.ref x0), some (.int x1), y2]) (st' := [.ref x0]) (w' := w) (by decide +kernel) rfl ?_
    refine ok_gi (by decide +kernel : decode m_M_text.2.1 61 = .ok ((.getfield 27), 3)) rfl (fun v3 h4 => ?_)
    refine ok_br (P := v3 = 0) (off := 30) (t := 94) (by decide +kernel : decode m_M_text.2.1 64 = .ok ((.ifCond .eq 30), 3)) rfl rfl rfl rfl (fun c5 => ?_) (fun c5 => ?_)
    · skip
      refine ok_seg (L := [((.aload_n 0), 1)]) (pc' := 95) (ls' := [some (.ref x0), some (.int x1), y2]) (st' := [.ref x0]) (w' := w) (by decide +kernel) rfl ?_
      refine ok_gr (by decide +kernel : decode m_M_text.2.1 95 = .ok ((.getfield 67), 3)) rfl (by decide) (fun v6 h7 => ?_)
      refine ok_seg (L := [((.iconst 0), 1), ((.aload_n 0), 1)]) (pc' := 100) (ls' := [some (.ref x0), some (.int x1), y2]) (st' := [.ref x0, .int 0, .ref v6]) (w' := w) (by decide +kernel) rfl ?_
      refine ok_gr (by decide +kernel : decode m_M_text.2.1 100 = .ok ((.getfield 64), 3)) rfl (by decide) (fun v8 h9 => ?_)
      refine ok_seg (L := [((.iconst 0), 1)]) (pc' := 104) (ls' := [some (.ref x0), some (.int x1), y2]) (st' := [.int 0, .ref v8, .int 0, .ref v6]) (w' := w) (by decide +kernel) rfl ?_
      refine ok_call0 (inj' := am_jv) (by decide +kernel : decode m_M_text.2.1 104 = .ok ((.invokestatic 156), 3)) rfl (fun _ _ => rfl) (o_M_copy (d + 4) (v6) (0) (v8) (0) w) (fun _ _ => rfl) (fun r10 h11 => ?_)
      refine ok_seg (L := [((.aload_n 0), 1), ((.iconst 0), 1)]) (pc' := 109) (ls' := [some (.ref x0), some (.int x1), y2]) (st' := [.int 0, .ref x0]) (w' := r10.1) (by decide +kernel) rfl ?_
      refine ok_pi (by decide +kernel : decode m_M_text.2.1 109 = .ok ((.putfield 160), 3)) rfl (fun w12 h13 => ?_)
      refine ok_seg (L := [((.iload_n 1), 1)]) (pc' := 113) (ls' := [some (.ref x0), some (.int x1), y2]) (st' := [.int x1]) (w' := w12) (by decide +kernel) rfl ?_
      exact ok_ret (v := x1) (by decide +kernel : decode m_M_text.2.1 113 = .ok (.ireturn, 1)) rfl
    · skip
      refine ok_seg (L := [((.aload_n 0), 1)]) (pc' := 68) (ls' := [some (.ref x0), some (.int x1), y2]) (st' := [.ref x0]) (w' := w) (by decide +kernel) rfl ?_
      refine ok_call0 (inj' := am_ji) (by decide +kernel : decode m_M_text.2.1 68 = .ok ((.invokevirtual 150), 3)) rfl (fun q hq => am_iv0 (am_self_eq hq).1 rfl rfl rfl) (o_M_readLine (d + 0) (x0) w) (fun _ _ => rfl) (fun r14 h15 => ?_)
      refine ok_br (P := r14.2 = 0) (off := 10) (t := 81) (by decide +kernel : decode m_M_text.2.1 71 = .ok ((.ifCond .eq 10), 3)) rfl rfl rfl rfl (fun c16 => ?_) (fun c16 => ?_)
      · skip
        exact o_M_text_p81 x0 (some (.int x1)) y2 r14.1
      · skip
        refine ok_seg (L := [((.aload_n 0), 1)]) (pc' := 75) (ls' := [some (.ref x0), some (.int x1), y2]) (st' := [.ref x0]) (w' := r14.1) (by decide +kernel) rfl ?_
        refine ok_call0 (inj' := am_ji) (by decide +kernel : decode m_M_text.2.1 75 = .ok ((.invokevirtual 153), 3)) rfl (fun q hq => am_iv0 (am_self_eq hq).1 rfl rfl rfl) (o_M_readEnd (d + 2) (x0) r14.1) (fun _ _ => rfl) (fun r17 h18 => ?_)
        refine ok_br (P := ¬ r17.2 = 0) (off := 10) (t := 88) (by decide +kernel : decode m_M_text.2.1 78 = .ok ((.ifCond .ne 10), 3)) rfl rfl rfl rfl (fun c19 => ?_) (fun c19 => ?_)
        · skip
          refine ok_seg (L := [((.iinc 1 1), 3)]) (pc' := 91) (ls' := [some (.ref x0), some (.int (x1 + 1)), y2]) (st' := []) (w' := r17.1) (by decide +kernel) rfl ?_
          refine ok_goto (t := 60) (by decide +kernel : decode m_M_text.2.1 91 = .ok ((.goto (-31)), 3)) rfl ?_
          exact ih x0 (x1 + 1) y2 r17.1
        · skip
          exact o_M_text_p81 x0 (some (.int x1)) y2 r17.1
theorem o_M_text_p37 {d : Nat} : ∀ (n : Nat) (x0 : Nat) (x1 : Int32) (x2 : Int32) (w : am_W), am_Ok am_ji (d + 5) m_M_text 37 [some (.ref x0), some (.int x1), some (.int x2)] [] w (f_M_text_p37 n x0 x1 x2 w) := by
  intro n
  induction n with
  | zero => intros; exact ok_none
  | succ n ih =>
    intro x0 x1 x2 w
    unfold f_M_text_p37
    refine ok_seg (L := [((.iload_n 2), 1), ((.bipush 67), 2)]) (pc' := 40) (ls' := [some (.ref x0), some (.int x1), some (.int x2)]) (st' := [.int 67, .int x2]) (w' := w) (by decide +kernel) rfl ?_
    refine ok_br (P := 67 ≤ x2) (off := 16) (t := 56) (by decide +kernel : decode m_M_text.2.1 40 = .ok ((.if_icmp .ge 16), 3)) rfl rfl rfl rfl (fun c20 => ?_) (fun c20 => ?_)
    · skip
      refine ok_seg (L := [((.aload_n 0), 1)]) (pc' := 57) (ls' := [some (.ref x0), some (.int x1), some (.int x2)]) (st' := [.ref x0]) (w' := w) (by decide +kernel) rfl ?_
      refine ok_call0 (inj' := am_jv) (by decide +kernel : decode m_M_text.2.1 57 = .ok ((.invokevirtual 125), 3)) rfl (fun q hq => am_iv0 (am_self_eq hq).1 rfl rfl rfl) (o_M_next (d + 3) (x0) w) (fun _ _ => rfl) (fun r21 h22 => ?_)
      exact o_M_text_p60 am_N x0 x1 (some (.int x2)) r21.1
    · skip
      refine ok_seg (L := [((.aload_n 0), 1)]) (pc' := 44) (ls' := [some (.ref x0), some (.int x1), some (.int x2)]) (st' := [.ref x0]) (w' := w) (by decide +kernel) rfl ?_
      refine ok_gr (by decide +kernel : decode m_M_text.2.1 44 = .ok ((.getfield 67), 3)) rfl (by decide) (fun v23 h24 => ?_)
      refine ok_seg (L := [((.iload_n 2), 1), ((.iconst 0), 1)]) (pc' := 49) (ls' := [some (.ref x0), some (.int x1), some (.int x2)]) (st' := [.int 0, .int x2, .ref v23]) (w' := w) (by decide +kernel) rfl ?_
      refine ok_si (by decide +kernel : decode m_M_text.2.1 49 = .ok (.iastore, 1)) (fun w25 h26 => ?_)
      refine ok_seg (L := [((.iinc 2 1), 3)]) (pc' := 53) (ls' := [some (.ref x0), some (.int x1), some (.int (x2 + 1))]) (st' := []) (w' := w25) (by decide +kernel) rfl ?_
      refine ok_goto (t := 37) (by decide +kernel : decode m_M_text.2.1 53 = .ok ((.goto (-16)), 3)) rfl ?_
      exact ih x0 x1 (x2 + 1) w25
theorem o_M_text (d : Nat) (x0 : Nat) (w : am_W) : am_Ok am_ji (d + 5) m_M_text 0 (am_en m_M_text [.ref x0]) [] w (f_M_text x0 w) := by
  show am_Ok _ _ _ 0 [some (.ref x0), none, none] [] w _
  unfold f_M_text
  refine ok_self ?_
  unfold e_M_text
  refine ok_seg (L := [((.aload_n 0), 1), ((.iconst 0), 1)]) (pc' := 2) (ls' := [some (.ref x0), none, none]) (st' := [.int 0, .ref x0]) (w' := w) (by decide +kernel) rfl ?_
  refine ok_pi (by decide +kernel : decode m_M_text.2.1 2 = .ok ((.putfield 1), 3)) rfl (fun w27 h28 => ?_)
  refine ok_seg (L := [((.aload_n 0), 1), ((.aload_n 0), 1)]) (pc' := 7) (ls' := [some (.ref x0), none, none]) (st' := [.ref x0, .ref x0]) (w' := w27) (by decide +kernel) rfl ?_
  refine ok_gi (by decide +kernel : decode m_M_text.2.1 7 = .ok ((.getfield 11), 3)) rfl (fun v29 h30 => ?_)
  refine ok_pi (by decide +kernel : decode m_M_text.2.1 10 = .ok ((.putfield 18), 3)) rfl (fun w31 h32 => ?_)
  refine ok_seg (L := [((.aload_n 0), 1), ((.iconst 0), 1)]) (pc' := 15) (ls' := [some (.ref x0), none, none]) (st' := [.int 0, .ref x0]) (w' := w31) (by decide +kernel) rfl ?_
  refine ok_pi (by decide +kernel : decode m_M_text.2.1 15 = .ok ((.putfield 11), 3)) rfl (fun w33 h34 => ?_)
  refine ok_seg (L := [((.aload_n 0), 1), ((.iconst 0), 1)]) (pc' := 20) (ls' := [some (.ref x0), none, none]) (st' := [.int 0, .ref x0]) (w' := w33) (by decide +kernel) rfl ?_
  refine ok_pi (by decide +kernel : decode m_M_text.2.1 20 = .ok ((.putfield 52), 3)) rfl (fun w35 h36 => ?_)
  refine ok_seg (L := [((.aload_n 0), 1), ((.iconst 0), 1)]) (pc' := 25) (ls' := [some (.ref x0), none, none]) (st' := [.int 0, .ref x0]) (w' := w35) (by decide +kernel) rfl ?_
  refine ok_pi (by decide +kernel : decode m_M_text.2.1 25 = .ok ((.putfield 21), 3)) rfl (fun w37 h38 => ?_)
  refine ok_seg (L := [((.aload_n 0), 1), ((.iconst 0), 1)]) (pc' := 30) (ls' := [some (.ref x0), none, none]) (st' := [.int 0, .ref x0]) (w' := w37) (by decide +kernel) rfl ?_
  refine ok_pi (by decide +kernel : decode m_M_text.2.1 30 = .ok ((.putfield 132), 3)) rfl (fun w39 h40 => ?_)
  refine ok_seg (L := [((.iconst 0), 1), ((.istore_n 1), 1), ((.iconst 0), 1), ((.istore_n 2), 1)]) (pc' := 37) (ls' := [some (.ref x0), some (.int 0), some (.int 0)]) (st' := []) (w' := w39) (by decide +kernel) rfl ?_
  exact o_M_text_p37 am_N x0 0 0 w39
-- m_M_fault
def e_M_fault (x0 : Nat) (w : am_W) : Option (am_W × Int32) := ((am_pv w x0 7 0 (.int 0)).bind fun w1 => ((am_gi w1 x0 7 8).bind fun v3 => (some (w1, v3))))
def f_M_fault (x0 : Nat) (w : am_W) : Option (am_W × Int32) := am_self w x0 7 (e_M_fault x0 w)
theorem o_M_fault (d : Nat) (x0 : Nat) (w : am_W) : am_Ok am_ji (d + 0) m_M_fault 0 (am_en m_M_fault [.ref x0]) [] w (f_M_fault x0 w) := by
  show am_Ok _ _ _ 0 [some (.ref x0)] [] w _
  unfold f_M_fault
  refine ok_self ?_
  unfold e_M_fault
  refine ok_seg (L := [((.aload_n 0), 1), ((.iconst 0), 1)]) (pc' := 2) (ls' := [some (.ref x0)]) (st' := [.int 0, .ref x0]) (w' := w) (by decide +kernel) rfl ?_
  refine ok_pi (by decide +kernel : decode m_M_fault.2.1 2 = .ok ((.putfield 1), 3)) rfl (fun w1 h2 => ?_)
  refine ok_seg (L := [((.aload_n 0), 1)]) (pc' := 6) (ls' := [some (.ref x0)]) (st' := [.ref x0]) (w' := w1) (by decide +kernel) rfl ?_
  refine ok_gi (by decide +kernel : decode m_M_fault.2.1 6 = .ok ((.getfield 52), 3)) rfl (fun v3 h4 => ?_)
  exact ok_ret (v := v3) (by decide +kernel : decode m_M_fault.2.1 9 = .ok (.ireturn, 1)) rfl
-- m_M_blanks
def f_M_blanks_p26 (k4 : Nat → Int32 → Int32 → am_W → Option (am_W × Int32)) (x1 : Nat) (x2 : Int32) (x3 : Int32) (w : am_W) : Option (am_W × Int32) := (k4 x1 x2 (x3 + 1) w)
def f_M_blanks_p4 : Nat → Nat → Int32 → Int32 → am_W → Option (am_W × Int32)
  | 0, _, _, _, _ => none
  | n + 1, x1, x2, x3, w => ((am_ai w x1 0).bind fun v1 => ((am_ai w x1 1).bind fun v3 => (if (v1 * v3) ≤ x3 then (some (w, x2)) else ((am_ai w x1 (3 + x3)).bind fun v6 => (if ¬ v6 = 0 then (f_M_blanks_p26 (f_M_blanks_p4 n) x1 x2 x3 w) else (f_M_blanks_p26 (f_M_blanks_p4 n) x1 (x2 + 1) x3 w))))))
def e_M_blanks (x0 : Nat) (x1 : Nat) (w : am_W) : Option (am_W × Int32) := (f_M_blanks_p4 am_N x1 0 0 w)
def f_M_blanks (x0 : Nat) (x1 : Nat) (w : am_W) : Option (am_W × Int32) := am_self w x0 7 (e_M_blanks x0 x1 w)
theorem o_M_blanks_p26 {d : Nat} {k4 : Nat → Int32 → Int32 → am_W → Option (am_W × Int32)} (hk4 : ∀ (x1 : Nat) (x2 : Int32) (x3 : Int32) (y0 : Option Value) (w : am_W), am_Ok am_ji (d + 0) m_M_blanks 4 [y0, some (.ref x1), some (.int x2), some (.int x3)] [] w (k4 x1 x2 x3 w)) (x1 : Nat) (x2 : Int32) (x3 : Int32) (y0 : Option Value) (w : am_W) : am_Ok am_ji (d + 0) m_M_blanks 26 [y0, some (.ref x1), some (.int x2), some (.int x3)] [] w (f_M_blanks_p26 k4 x1 x2 x3 w) := by
  unfold f_M_blanks_p26
  refine ok_seg (L := [((.iinc 3 1), 3)]) (pc' := 29) (ls' := [y0, some (.ref x1), some (.int x2), some (.int (x3 + 1))]) (st' := []) (w' := w) (by decide +kernel) rfl ?_
  refine ok_goto (t := 4) (by decide +kernel : decode m_M_blanks.2.1 29 = .ok ((.goto (-25)), 3)) rfl ?_
  exact hk4 x1 x2 (x3 + 1) y0 w
theorem o_M_blanks_p4 {d : Nat} : ∀ (n : Nat) (x1 : Nat) (x2 : Int32) (x3 : Int32) (y0 : Option Value) (w : am_W), am_Ok am_ji (d + 0) m_M_blanks 4 [y0, some (.ref x1), some (.int x2), some (.int x3)] [] w (f_M_blanks_p4 n x1 x2 x3 w) := by
  intro n
  induction n with
  | zero => intros; exact ok_none
  | succ n ih =>
    intro x1 x2 x3 y0 w
    unfold f_M_blanks_p4
    refine ok_seg (L := [((.iload_n 3), 1), ((.aload_n 1), 1), ((.iconst 0), 1)]) (pc' := 7) (ls' := [y0, some (.ref x1), some (.int x2), some (.int x3)]) (st' := [.int 0, .ref x1, .int x3]) (w' := w) (by decide +kernel) rfl ?_
    refine ok_ai (by decide +kernel : decode m_M_blanks.2.1 7 = .ok (.iaload, 1)) (fun v1 h2 => ?_)
    refine ok_seg (L := [((.aload_n 1), 1), ((.iconst 1), 1)]) (pc' := 10) (ls' := [y0, some (.ref x1), some (.int x2), some (.int x3)]) (st' := [.int 1, .ref x1, .int v1, .int x3]) (w' := w) (by decide +kernel) rfl ?_
    refine ok_ai (by decide +kernel : decode m_M_blanks.2.1 10 = .ok (.iaload, 1)) (fun v3 h4 => ?_)
    refine ok_seg (L := [(.imul, 1)]) (pc' := 12) (ls' := [y0, some (.ref x1), some (.int x2), some (.int x3)]) (st' := [.int (v1 * v3), .int x3]) (w' := w) (by decide +kernel) rfl ?_
    refine ok_br (P := (v1 * v3) ≤ x3) (off := 20) (t := 32) (by decide +kernel : decode m_M_blanks.2.1 12 = .ok ((.if_icmp .ge 20), 3)) rfl rfl rfl rfl (fun c5 => ?_) (fun c5 => ?_)
    · skip
      refine ok_seg (L := [((.iload_n 2), 1)]) (pc' := 33) (ls' := [y0, some (.ref x1), some (.int x2), some (.int x3)]) (st' := [.int x2]) (w' := w) (by decide +kernel) rfl ?_
      exact ok_ret (v := x2) (by decide +kernel : decode m_M_blanks.2.1 33 = .ok (.ireturn, 1)) rfl
    · skip
      refine ok_seg (L := [((.aload_n 1), 1), ((.iconst 3), 1), ((.iload_n 3), 1), (.iadd, 1)]) (pc' := 19) (ls' := [y0, some (.ref x1), some (.int x2), some (.int x3)]) (st' := [.int (3 + x3), .ref x1]) (w' := w) (by decide +kernel) rfl ?_
      refine ok_ai (by decide +kernel : decode m_M_blanks.2.1 19 = .ok (.iaload, 1)) (fun v6 h7 => ?_)
      refine ok_br (P := ¬ v6 = 0) (off := 6) (t := 26) (by decide +kernel : decode m_M_blanks.2.1 20 = .ok ((.ifCond .ne 6), 3)) rfl rfl rfl rfl (fun c8 => ?_) (fun c8 => ?_)
      · skip
        exact o_M_blanks_p26 ih x1 x2 x3 y0 w
      · skip
        refine ok_seg (L := [((.iinc 2 1), 3)]) (pc' := 26) (ls' := [y0, some (.ref x1), some (.int (x2 + 1)), some (.int x3)]) (st' := []) (w' := w) (by decide +kernel) rfl ?_
        exact o_M_blanks_p26 ih x1 (x2 + 1) x3 y0 w
theorem o_M_blanks (d : Nat) (x0 : Nat) (x1 : Nat) (w : am_W) : am_Ok am_ji (d + 0) m_M_blanks 0 (am_en m_M_blanks [.ref x0, .ref x1]) [] w (f_M_blanks x0 x1 w) := by
  show am_Ok _ _ _ 0 [some (.ref x0), some (.ref x1), none, none] [] w _
  unfold f_M_blanks
  refine ok_self ?_
  unfold e_M_blanks
  refine ok_seg (L := [((.iconst 0), 1), ((.istore_n 2), 1), ((.iconst 0), 1), ((.istore_n 3), 1)]) (pc' := 4) (ls' := [some (.ref x0), some (.ref x1), some (.int 0), some (.int 0)]) (st' := []) (w' := w) (by decide +kernel) rfl ?_
  exact o_M_blanks_p4 am_N x1 0 0 (some (.ref x0)) w
-- m_M_broad
def e_M_broad (x0 : Nat) (w : am_W) : Option (am_W × Int32) := ((am_gr w x0 7 11).bind fun v1 => ((am_ai w v1 1).bind fun v3 => (some (w, v3))))
def f_M_broad (x0 : Nat) (w : am_W) : Option (am_W × Int32) := am_self w x0 7 (e_M_broad x0 w)
theorem o_M_broad (d : Nat) (x0 : Nat) (w : am_W) : am_Ok am_ji (d + 0) m_M_broad 0 (am_en m_M_broad [.ref x0]) [] w (f_M_broad x0 w) := by
  show am_Ok _ _ _ 0 [some (.ref x0)] [] w _
  unfold f_M_broad
  refine ok_self ?_
  unfold e_M_broad
  refine ok_seg (L := [((.aload_n 0), 1)]) (pc' := 1) (ls' := [some (.ref x0)]) (st' := [.ref x0]) (w' := w) (by decide +kernel) rfl ?_
  refine ok_gr (by decide +kernel : decode m_M_broad.2.1 1 = .ok ((.getfield 64), 3)) rfl (by decide) (fun v1 h2 => ?_)
  refine ok_seg (L := [((.iconst 1), 1)]) (pc' := 5) (ls' := [some (.ref x0)]) (st' := [.int 1, .ref v1]) (w' := w) (by decide +kernel) rfl ?_
  refine ok_ai (by decide +kernel : decode m_M_broad.2.1 5 = .ok (.iaload, 1)) (fun v3 h4 => ?_)
  exact ok_ret (v := v3) (by decide +kernel : decode m_M_broad.2.1 6 = .ok (.ireturn, 1)) rfl
-- m_M_high
def e_M_high (x0 : Nat) (w : am_W) : Option (am_W × Int32) := ((am_gr w x0 7 11).bind fun v1 => ((am_ai w v1 0).bind fun v3 => (some (w, v3))))
def f_M_high (x0 : Nat) (w : am_W) : Option (am_W × Int32) := am_self w x0 7 (e_M_high x0 w)
theorem o_M_high (d : Nat) (x0 : Nat) (w : am_W) : am_Ok am_ji (d + 0) m_M_high 0 (am_en m_M_high [.ref x0]) [] w (f_M_high x0 w) := by
  show am_Ok _ _ _ 0 [some (.ref x0)] [] w _
  unfold f_M_high
  refine ok_self ?_
  unfold e_M_high
  refine ok_seg (L := [((.aload_n 0), 1)]) (pc' := 1) (ls' := [some (.ref x0)]) (st' := [.ref x0]) (w' := w) (by decide +kernel) rfl ?_
  refine ok_gr (by decide +kernel : decode m_M_high.2.1 1 = .ok ((.getfield 64), 3)) rfl (by decide) (fun v1 h2 => ?_)
  refine ok_seg (L := [((.iconst 0), 1)]) (pc' := 5) (ls' := [some (.ref x0)]) (st' := [.int 0, .ref v1]) (w' := w) (by decide +kernel) rfl ?_
  refine ok_ai (by decide +kernel : decode m_M_high.2.1 5 = .ok (.iaload, 1)) (fun v3 h4 => ?_)
  exact ok_ret (v := v3) (by decide +kernel : decode m_M_high.2.1 6 = .ok (.ireturn, 1)) rfl
-- m_M_cellBit
def e_M_cellBit (x0 : Nat) (x1 : Int32) (x2 : Int32) (w : am_W) : Option (am_W × Int64) := ((f_M_broad (x0) w).bind fun r1 => (some (r1.1, (1 <<< (Int32.toInt64 ((r1.2 * x1) + x2) &&& 63)))))
def f_M_cellBit (x0 : Nat) (x1 : Int32) (x2 : Int32) (w : am_W) : Option (am_W × Int64) := am_self w x0 7 (e_M_cellBit x0 x1 x2 w)
theorem o_M_cellBit (d : Nat) (x0 : Nat) (x1 : Int32) (x2 : Int32) (w : am_W) : am_Ok am_jj (d + 1) m_M_cellBit 0 (am_en m_M_cellBit [.ref x0, .int x1, .int x2]) [] w (f_M_cellBit x0 x1 x2 w) := by
  show am_Ok _ _ _ 0 [some (.ref x0), some (.int x1), some (.int x2)] [] w _
  unfold f_M_cellBit
  refine ok_self ?_
  unfold e_M_cellBit
  refine ok_seg (L := [((.lconst 1), 1), ((.aload_n 0), 1)]) (pc' := 2) (ls' := [some (.ref x0), some (.int x1), some (.int x2)]) (st' := [.ref x0, .long 1]) (w' := w) (by decide +kernel) rfl ?_
  refine ok_call0 (inj' := am_ji) (by decide +kernel : decode m_M_cellBit.2.1 2 = .ok ((.invokevirtual 167), 3)) rfl (fun q hq => am_iv0 (am_self_eq hq).1 rfl rfl rfl) (o_M_broad (d + 0) (x0) w) (fun _ _ => rfl) (fun r1 h2 => ?_)
  refine ok_seg (L := [((.iload_n 1), 1), (.imul, 1), ((.iload_n 2), 1), (.iadd, 1), (.lshl, 1)]) (pc' := 10) (ls' := [some (.ref x0), some (.int x1), some (.int x2)]) (st' := [.long (1 <<< (Int32.toInt64 ((r1.2 * x1) + x2) &&& 63))]) (w' := r1.1) (by decide +kernel) rfl ?_
  exact ok_ret (v := (1 <<< (Int32.toInt64 ((r1.2 * x1) + x2) &&& 63))) (by decide +kernel : decode m_M_cellBit.2.1 10 = .ok (.lreturn, 1)) rfl
-- m_M_colourAt
def e_M_colourAt (x0 : Nat) (x1 : Int32) (x2 : Int32) (w : am_W) : Option (am_W × Int32) := ((am_ai w x0 1).bind fun v1 => ((am_ai w x0 ((3 + (v1 * x1)) + x2)).bind fun v3 => (some (w, v3))))
def f_M_colourAt (x0 : Nat) (x1 : Int32) (x2 : Int32) (w : am_W) : Option (am_W × Int32) := e_M_colourAt x0 x1 x2 w
theorem o_M_colourAt (d : Nat) (x0 : Nat) (x1 : Int32) (x2 : Int32) (w : am_W) : am_Ok am_ji (d + 0) m_M_colourAt 0 (am_en m_M_colourAt [.ref x0, .int x1, .int x2]) [] w (f_M_colourAt x0 x1 x2 w) := by
  show am_Ok _ _ _ 0 [some (.ref x0), some (.int x1), some (.int x2)] [] w _
  unfold f_M_colourAt
  unfold e_M_colourAt
  refine ok_seg (L := [((.aload_n 0), 1), ((.iconst 3), 1), ((.aload_n 0), 1), ((.iconst 1), 1)]) (pc' := 4) (ls' := [some (.ref x0), some (.int x1), some (.int x2)]) (st' := [.int 1, .ref x0, .int 3, .ref x0]) (w' := w) (by decide +kernel) rfl ?_
  refine ok_ai (by decide +kernel : decode m_M_colourAt.2.1 4 = .ok (.iaload, 1)) (fun v1 h2 => ?_)
  refine ok_seg (L := [((.iload_n 1), 1), (.imul, 1), (.iadd, 1), ((.iload_n 2), 1), (.iadd, 1)]) (pc' := 10) (ls' := [some (.ref x0), some (.int x1), some (.int x2)]) (st' := [.int ((3 + (v1 * x1)) + x2), .ref x0]) (w' := w) (by decide +kernel) rfl ?_
  refine ok_ai (by decide +kernel : decode m_M_colourAt.2.1 10 = .ok (.iaload, 1)) (fun v3 h4 => ?_)
  exact ok_ret (v := v3) (by decide +kernel : decode m_M_colourAt.2.1 11 = .ok (.ireturn, 1)) rfl
-- m_M_four
def f_M_four_p49 (s0 : Int32) (w : am_W) : Option (am_W × Int32) := (some (w, s0))
def f_M_four_p48 (w : am_W) : Option (am_W × Int32) := (f_M_four_p49 0 w)
def e_M_four (x0 : Nat) (x1 : Int32) (x2 : Int32) (x3 : Int32) (x4 : Int32) (w : am_W) : Option (am_W × Int32) := ((f_M_colourAt (x0) (x1) (x3) w).bind fun r1 => ((f_M_colourAt (x0) (x1) (x4) r1.1).bind fun r3 => (if ¬ r1.2 = r3.2 then (f_M_four_p48 r3.1) else ((f_M_colourAt (x0) (x2) (x3) r3.1).bind fun r6 => (if ¬ r1.2 = r6.2 then (f_M_four_p48 r6.1) else ((f_M_colourAt (x0) (x2) (x4) r6.1).bind fun r9 => (if ¬ r1.2 = r9.2 then (f_M_four_p48 r9.1) else (f_M_four_p49 r1.2 r9.1))))))))
def f_M_four (x0 : Nat) (x1 : Int32) (x2 : Int32) (x3 : Int32) (x4 : Int32) (w : am_W) : Option (am_W × Int32) := e_M_four x0 x1 x2 x3 x4 w
theorem o_M_four_p49 {d : Nat} (s0 : Int32) (y0 y1 y2 y3 y4 y5 : Option Value) (w : am_W) : am_Ok am_ji (d + 1) m_M_four 49 [y0, y1, y2, y3, y4, y5] [.int s0] w (f_M_four_p49 s0 w) := by
  unfold f_M_four_p49
  exact ok_ret (v := s0) (by decide +kernel : decode m_M_four.2.1 49 = .ok (.ireturn, 1)) rfl
theorem o_M_four_p48 {d : Nat} (y0 y1 y2 y3 y4 y5 : Option Value) (w : am_W) : am_Ok am_ji (d + 1) m_M_four 48 [y0, y1, y2, y3, y4, y5] [] w (f_M_four_p48 w) := by
  unfold f_M_four_p48
  refine ok_seg (L := [((.iconst 0), 1)]) (pc' := 49) (ls' := [y0, y1, y2, y3, y4, y5]) (st' := [.int 0]) (w' := w) (by decide +kernel) rfl ?_
  exact o_M_four_p49 0 y0 y1 y2 y3 y4 y5 w
theorem o_M_four (d : Nat) (x0 : Nat) (x1 : Int32) (x2 : Int32) (x3 : Int32) (x4 : Int32) (w : am_W) : am_Ok am_ji (d + 1) m_M_four 0 (am_en m_M_four [.ref x0, .int x1, .int x2, .int x3, .int x4]) [] w (f_M_four x0 x1 x2 x3 x4 w) := by
  show am_Ok _ _ _ 0 [some (.ref x0), some (.int x1), some (.int x2), some (.int x3), some (.int x4), none] [] w _
  unfold f_M_four
  unfold e_M_four
  refine ok_seg (L := [((.aload_n 0), 1), ((.iload_n 1), 1), ((.iload_n 3), 1)]) (pc' := 3) (ls' := [some (.ref x0), some (.int x1), some (.int x2), some (.int x3), some (.int x4), none]) (st' := [.int x3, .int x1, .ref x0]) (w' := w) (by decide +kernel) rfl ?_
  refine ok_call0 (inj' := am_ji) (by decide +kernel : decode m_M_four.2.1 3 = .ok ((.invokestatic 173), 3)) rfl (fun _ _ => rfl) (o_M_colourAt (d + 0) (x0) (x1) (x3) w) (fun _ _ => rfl) (fun r1 h2 => ?_)
  refine ok_seg (L := [((.istore 5), 2), ((.iload 5), 2), ((.aload_n 0), 1), ((.iload_n 1), 1), ((.iload 4), 2)]) (pc' := 14) (ls' := [some (.ref x0), some (.int x1), some (.int x2), some (.int x3), some (.int x4), some (.int r1.2)]) (st' := [.int x4, .int x1, .ref x0, .int r1.2]) (w' := r1.1) (by decide +kernel) rfl ?_
  refine ok_call0 (inj' := am_ji) (by decide +kernel : decode m_M_four.2.1 14 = .ok ((.invokestatic 173), 3)) rfl (fun _ _ => rfl) (o_M_colourAt (d + 0) (x0) (x1) (x4) r1.1) (fun _ _ => rfl) (fun r3 h4 => ?_)
  refine ok_br (P := ¬ r1.2 = r3.2) (off := 31) (t := 48) (by decide +kernel : decode m_M_four.2.1 17 = .ok ((.if_icmp .ne 31), 3)) rfl rfl rfl rfl (fun c5 => ?_) (fun c5 => ?_)
  · skip
    exact o_M_four_p48 (some (.ref x0)) (some (.int x1)) (some (.int x2)) (some (.int x3)) (some (.int x4)) (some (.int r1.2)) r3.1
  · skip
    refine ok_seg (L := [((.iload 5), 2), ((.aload_n 0), 1), ((.iload_n 2), 1), ((.iload_n 3), 1)]) (pc' := 25) (ls' := [some (.ref x0), some (.int x1), some (.int x2), some (.int x3), some (.int x4), some (.int r1.2)]) (st' := [.int x3, .int x2, .ref x0, .int r1.2]) (w' := r3.1) (by decide +kernel) rfl ?_
    refine ok_call0 (inj' := am_ji) (by decide +kernel : decode m_M_four.2.1 25 = .ok ((.invokestatic 173), 3)) rfl (fun _ _ => rfl) (o_M_colourAt (d + 0) (x0) (x2) (x3) r3.1) (fun _ _ => rfl) (fun r6 h7 => ?_)
    refine ok_br (P := ¬ r1.2 = r6.2) (off := 20) (t := 48) (by decide +kernel : decode m_M_four.2.1 28 = .ok ((.if_icmp .ne 20), 3)) rfl rfl rfl rfl (fun c8 => ?_) (fun c8 => ?_)
    · skip
      exact o_M_four_p48 (some (.ref x0)) (some (.int x1)) (some (.int x2)) (some (.int x3)) (some (.int x4)) (some (.int r1.2)) r6.1
    · skip
      refine ok_seg (L := [((.iload 5), 2), ((.aload_n 0), 1), ((.iload_n 2), 1), ((.iload 4), 2)]) (pc' := 37) (ls' := [some (.ref x0), some (.int x1), some (.int x2), some (.int x3), some (.int x4), some (.int r1.2)]) (st' := [.int x4, .int x2, .ref x0, .int r1.2]) (w' := r6.1) (by decide +kernel) rfl ?_
      refine ok_call0 (inj' := am_ji) (by decide +kernel : decode m_M_four.2.1 37 = .ok ((.invokestatic 173), 3)) rfl (fun _ _ => rfl) (o_M_colourAt (d + 0) (x0) (x2) (x4) r6.1) (fun _ _ => rfl) (fun r9 h10 => ?_)
      refine ok_br (P := ¬ r1.2 = r9.2) (off := 8) (t := 48) (by decide +kernel : decode m_M_four.2.1 40 = .ok ((.if_icmp .ne 8), 3)) rfl rfl rfl rfl (fun c11 => ?_) (fun c11 => ?_)
      · skip
        exact o_M_four_p48 (some (.ref x0)) (some (.int x1)) (some (.int x2)) (some (.int x3)) (some (.int x4)) (some (.int r1.2)) r9.1
      · skip
        refine ok_seg (L := [((.iload 5), 2)]) (pc' := 45) (ls' := [some (.ref x0), some (.int x1), some (.int x2), some (.int x3), some (.int x4), some (.int r1.2)]) (st' := [.int r1.2]) (w' := r9.1) (by decide +kernel) rfl ?_
        refine ok_goto (t := 49) (by decide +kernel : decode m_M_four.2.1 45 = .ok ((.goto 4), 3)) rfl ?_
        exact o_M_four_p49 r1.2 (some (.ref x0)) (some (.int x1)) (some (.int x2)) (some (.int x3)) (some (.int x4)) (some (.int r1.2)) r9.1
-- m_M_laysFours
def f_M_laysFours_p165 (k7 : Nat → Int32 → Int32 → am_W → Option (am_W × Unit)) (k19 : Nat → Int32 → Int32 → Int32 → am_W → Option (am_W × Unit)) (k30 : Nat → Int32 → Int32 → Int32 → Int32 → am_W → Option (am_W × Unit)) (k45 : Nat → Int32 → Int32 → Int32 → Int32 → Int32 → am_W → Option (am_W × Unit)) (x0 : Nat) (x1 : Int32) (x2 : Int32) (x3 : Int32) (x4 : Int32) (x5 : Int32) (w : am_W) : Option (am_W × Unit) := (k45 x0 x1 x2 x3 x4 (x5 + 1) w)
def f_M_laysFours_p87 (k7 : Nat → Int32 → Int32 → am_W → Option (am_W × Unit)) (k19 : Nat → Int32 → Int32 → Int32 → am_W → Option (am_W × Unit)) (k30 : Nat → Int32 → Int32 → Int32 → Int32 → am_W → Option (am_W × Unit)) (k45 : Nat → Int32 → Int32 → Int32 → Int32 → Int32 → am_W → Option (am_W × Unit)) (x0 : Nat) (x1 : Int32) (x2 : Int32) (x3 : Int32) (x4 : Int32) (x5 : Int32) (w : am_W) : Option (am_W × Unit) := ((am_gr w x0 7 21).bind fun v1 => ((am_gi w x0 7 23).bind fun v3 => ((am_si w v1 v3 ((((512 * x2) + (64 * x3)) + (8 * x4)) + x5)).bind fun w5 => ((am_gr w5 x0 7 22).bind fun v7 => ((am_gi w5 x0 7 23).bind fun v9 => ((f_M_cellBit (x0) (x2) (x4) w5).bind fun r11 => ((f_M_cellBit (x0) (x2) (x5) r11.1).bind fun r13 => ((f_M_cellBit (x0) (x3) (x4) r13.1).bind fun r15 => ((f_M_cellBit (x0) (x3) (x5) r15.1).bind fun r17 => ((am_sj r17.1 v7 v9 (((r11.2 ||| r13.2) ||| r15.2) ||| r17.2)).bind fun w19 => ((am_gi w19 x0 7 23).bind fun v21 => ((am_pv w19 x0 7 23 (.int (v21 + 1))).bind fun w23 => (f_M_laysFours_p165 k7 k19 k30 k45 x0 x1 x2 x3 x4 x5 w23)))))))))))))
def f_M_laysFours_p45 (k7 : Nat → Int32 → Int32 → am_W → Option (am_W × Unit)) (k19 : Nat → Int32 → Int32 → Int32 → am_W → Option (am_W × Unit)) (k30 : Nat → Int32 → Int32 → Int32 → Int32 → am_W → Option (am_W × Unit)) : Nat → Nat → Int32 → Int32 → Int32 → Int32 → Int32 → am_W → Option (am_W × Unit)
  | 0, _, _, _, _, _, _, _ => none
  | n + 1, x0, x1, x2, x3, x4, x5, w => ((f_M_broad (x0) w).bind fun r25 => (if r25.2 ≤ x5 then (k30 x0 x1 x2 x3 (x4 + 1) r25.1) else ((am_gr r25.1 x0 7 11).bind fun v28 => ((f_M_four (v28) (x2) (x3) (x4) (x5) r25.1).bind fun r30 => (if r30.2 = 0 then (f_M_laysFours_p165 k7 k19 k30 (f_M_laysFours_p45 k7 k19 k30 n) x0 x1 x2 x3 x4 x5 r30.1) else (if x1 = 0 then (f_M_laysFours_p87 k7 k19 k30 (f_M_laysFours_p45 k7 k19 k30 n) x0 x1 x2 x3 x4 x5 r30.1) else (if r30.2 = x1 then (f_M_laysFours_p87 k7 k19 k30 (f_M_laysFours_p45 k7 k19 k30 n) x0 x1 x2 x3 x4 x5 r30.1) else (f_M_laysFours_p165 k7 k19 k30 (f_M_laysFours_p45 k7 k19 k30 n) x0 x1 x2 x3 x4 x5 r30.1))))))))
def f_M_laysFours_p30 (k7 : Nat → Int32 → Int32 → am_W → Option (am_W × Unit)) (k19 : Nat → Int32 → Int32 → Int32 → am_W → Option (am_W × Unit)) : Nat → Nat → Int32 → Int32 → Int32 → Int32 → am_W → Option (am_W × Unit)
  | 0, _, _, _, _, _, _ => none
  | n + 1, x0, x1, x2, x3, x4, w => ((f_M_broad (x0) w).bind fun r35 => (if r35.2 ≤ x4 then (k19 x0 x1 x2 (x3 + 1) r35.1) else (f_M_laysFours_p45 k7 k19 (f_M_laysFours_p30 k7 k19 n) am_N x0 x1 x2 x3 x4 (x4 + 1) r35.1)))
def f_M_laysFours_p19 (k7 : Nat → Int32 → Int32 → am_W → Option (am_W × Unit)) : Nat → Nat → Int32 → Int32 → Int32 → am_W → Option (am_W × Unit)
  | 0, _, _, _, _, _ => none
  | n + 1, x0, x1, x2, x3, w => ((f_M_high (x0) w).bind fun r38 => (if r38.2 ≤ x3 then (k7 x0 x1 (x2 + 1) r38.1) else (f_M_laysFours_p30 k7 (f_M_laysFours_p19 k7 n) am_N x0 x1 x2 x3 0 r38.1)))
def f_M_laysFours_p7 : Nat → Nat → Int32 → Int32 → am_W → Option (am_W × Unit)
  | 0, _, _, _, _ => none
  | n + 1, x0, x1, x2, w => ((f_M_high (x0) w).bind fun r41 => (if r41.2 ≤ x2 then (some (r41.1, ())) else (f_M_laysFours_p19 (f_M_laysFours_p7 n) am_N x0 x1 x2 (x2 + 1) r41.1)))
def e_M_laysFours (x0 : Nat) (x1 : Int32) (w : am_W) : Option (am_W × Unit) := ((am_pv w x0 7 23 (.int 0)).bind fun w44 => (f_M_laysFours_p7 am_N x0 x1 0 w44))
def f_M_laysFours (x0 : Nat) (x1 : Int32) (w : am_W) : Option (am_W × Unit) := am_self w x0 7 (e_M_laysFours x0 x1 w)
theorem o_M_laysFours_p165 {d : Nat} {k7 : Nat → Int32 → Int32 → am_W → Option (am_W × Unit)} {k19 : Nat → Int32 → Int32 → Int32 → am_W → Option (am_W × Unit)} {k30 : Nat → Int32 → Int32 → Int32 → Int32 → am_W → Option (am_W × Unit)} {k45 : Nat → Int32 → Int32 → Int32 → Int32 → Int32 → am_W → Option (am_W × Unit)} (hk7 : ∀ (x0 : Nat) (x1 : Int32) (x2 : Int32) (y3 y4 y5 y6 : Option Value) (w : am_W), am_Ok am_jv (d + 2) m_M_laysFours 7 [some (.ref x0), some (.int x1), some (.int x2), y3, y4, y5, y6] [] w (k7 x0 x1 x2 w)) (hk19 : ∀ (x0 : Nat) (x1 : Int32) (x2 : Int32) (x3 : Int32) (y4 y5 y6 : Option Value) (w : am_W), am_Ok am_jv (d + 2) m_M_laysFours 19 [some (.ref x0), some (.int x1), some (.int x2), some (.int x3), y4, y5, y6] [] w (k19 x0 x1 x2 x3 w)) (hk30 : ∀ (x0 : Nat) (x1 : Int32) (x2 : Int32) (x3 : Int32) (x4 : Int32) (y5 y6 : Option Value) (w : am_W), am_Ok am_jv (d + 2) m_M_laysFours 30 [some (.ref x0), some (.int x1), some (.int x2), some (.int x3), some (.int x4), y5, y6] [] w (k30 x0 x1 x2 x3 x4 w)) (hk45 : ∀ (x0 : Nat) (x1 : Int32) (x2 : Int32) (x3 : Int32) (x4 : Int32) (x5 : Int32) (y6 : Option Value) (w : am_W), am_Ok am_jv (d + 2) m_M_laysFours 45 [some (.ref x0), some (.int x1), some (.int x2), some (.int x3), some (.int x4), some (.int x5), y6] [] w (k45 x0 x1 x2 x3 x4 x5 w)) (x0 : Nat) (x1 : Int32) (x2 : Int32) (x3 : Int32) (x4 : Int32) (x5 : Int32) (y6 : Option Value) (w : am_W) : am_Ok am_jv (d + 2) m_M_laysFours 165 [some (.ref x0), some (.int x1), some (.int x2), some (.int x3), some (.int x4), some (.int x5), y6] [] w (f_M_laysFours_p165 k7 k19 k30 k45 x0 x1 x2 x3 x4 x5 w) := by
  unfold f_M_laysFours_p165
  refine ok_seg (L := [((.iinc 5 1), 3)]) (pc' := 168) (ls' := [some (.ref x0), some (.int x1), some (.int x2), some (.int x3), some (.int x4), some (.int (x5 + 1)), y6]) (st' := []) (w' := w) (by decide +kernel) rfl ?_
  refine ok_goto (t := 45) (by decide +kernel : decode m_M_laysFours.2.1 168 = .ok ((.goto (-123)), 3)) rfl ?_
  exact hk45 x0 x1 x2 x3 x4 (x5 + 1) y6 w
theorem o_M_laysFours_p87 {d : Nat} {k7 : Nat → Int32 → Int32 → am_W → Option (am_W × Unit)} {k19 : Nat → Int32 → Int32 → Int32 → am_W → Option (am_W × Unit)} {k30 : Nat → Int32 → Int32 → Int32 → Int32 → am_W → Option (am_W × Unit)} {k45 : Nat → Int32 → Int32 → Int32 → Int32 → Int32 → am_W → Option (am_W × Unit)} (hk7 : ∀ (x0 : Nat) (x1 : Int32) (x2 : Int32) (y3 y4 y5 y6 : Option Value) (w : am_W), am_Ok am_jv (d + 2) m_M_laysFours 7 [some (.ref x0), some (.int x1), some (.int x2), y3, y4, y5, y6] [] w (k7 x0 x1 x2 w)) (hk19 : ∀ (x0 : Nat) (x1 : Int32) (x2 : Int32) (x3 : Int32) (y4 y5 y6 : Option Value) (w : am_W), am_Ok am_jv (d + 2) m_M_laysFours 19 [some (.ref x0), some (.int x1), some (.int x2), some (.int x3), y4, y5, y6] [] w (k19 x0 x1 x2 x3 w)) (hk30 : ∀ (x0 : Nat) (x1 : Int32) (x2 : Int32) (x3 : Int32) (x4 : Int32) (y5 y6 : Option Value) (w : am_W), am_Ok am_jv (d + 2) m_M_laysFours 30 [some (.ref x0), some (.int x1), some (.int x2), some (.int x3), some (.int x4), y5, y6] [] w (k30 x0 x1 x2 x3 x4 w)) (hk45 : ∀ (x0 : Nat) (x1 : Int32) (x2 : Int32) (x3 : Int32) (x4 : Int32) (x5 : Int32) (y6 : Option Value) (w : am_W), am_Ok am_jv (d + 2) m_M_laysFours 45 [some (.ref x0), some (.int x1), some (.int x2), some (.int x3), some (.int x4), some (.int x5), y6] [] w (k45 x0 x1 x2 x3 x4 x5 w)) (x0 : Nat) (x1 : Int32) (x2 : Int32) (x3 : Int32) (x4 : Int32) (x5 : Int32) (y6 : Option Value) (w : am_W) : am_Ok am_jv (d + 2) m_M_laysFours 87 [some (.ref x0), some (.int x1), some (.int x2), some (.int x3), some (.int x4), some (.int x5), y6] [] w (f_M_laysFours_p87 k7 k19 k30 k45 x0 x1 x2 x3 x4 x5 w) := by
  unfold f_M_laysFours_p87
  refine ok_seg (L := [((.aload_n 0), 1)]) (pc' := 88) (ls' := [some (.ref x0), some (.int x1), some (.int x2), some (.int x3), some (.int x4), some (.int x5), y6]) (st' := [.ref x0]) (w' := w) (by decide +kernel) rfl ?_
  refine ok_gr (by decide +kernel : decode m_M_laysFours.2.1 88 = .ok ((.getfield 89), 3)) rfl (by decide) (fun v1 h2 => ?_)
  refine ok_seg (L := [((.aload_n 0), 1)]) (pc' := 92) (ls' := [some (.ref x0), some (.int x1), some (.int x2), some (.int x3), some (.int x4), some (.int x5), y6]) (st' := [.ref x0, .ref v1]) (w' := w) (by decide +kernel) rfl ?_
  refine ok_gi (by decide +kernel : decode m_M_laysFours.2.1 92 = .ok ((.getfield 181), 3)) rfl (fun v3 h4 => ?_)
  refine ok_seg (L := [((.sipush 512), 3), ((.iload_n 2), 1), (.imul, 1), ((.bipush 64), 2), ((.iload_n 3), 1), (.imul, 1), (.iadd, 1), ((.bipush 8), 2), ((.iload 4), 2), (.imul, 1), (.iadd, 1), ((.iload 5), 2), (.iadd, 1)]) (pc' := 114) (ls' := [some (.ref x0), some (.int x1), some (.int x2), some (.int x3), some (.int x4), some (.int x5), y6]) (st' := [.int ((((512 * x2) + (64 * x3)) + (8 * x4)) + x5), .int v3, .ref v1]) (w' := w) (by decide +kernel) rfl ?_
  refine ok_si (by decide +kernel : decode m_M_laysFours.2.1 114 = .ok (.iastore, 1)) (fun w5 h6 => ?_)
  refine ok_seg (L := [((.aload_n 0), 1)]) (pc' := 116) (ls' := [some (.ref x0), some (.int x1), some (.int x2), some (.int x3), some (.int x4), some (.int x5), y6]) (st' := [.ref x0]) (w' := w5) (by decide +kernel) rfl ?_
  refine ok_gr (by decide +kernel : decode m_M_laysFours.2.1 116 = .ok ((.getfield 92), 3)) rfl (by decide) (fun v7 h8 => ?_)
  refine ok_seg (L := [((.aload_n 0), 1)]) (pc' := 120) (ls' := [some (.ref x0), some (.int x1), some (.int x2), some (.int x3), some (.int x4), some (.int x5), y6]) (st' := [.ref x0, .ref v7]) (w' := w5) (by decide +kernel) rfl ?_
  refine ok_gi (by decide +kernel : decode m_M_laysFours.2.1 120 = .ok ((.getfield 181), 3)) rfl (fun v9 h10 => ?_)
  refine ok_seg (L := [((.aload_n 0), 1), ((.iload_n 2), 1), ((.iload 4), 2)]) (pc' := 127) (ls' := [some (.ref x0), some (.int x1), some (.int x2), some (.int x3), some (.int x4), some (.int x5), y6]) (st' := [.int x4, .int x2, .ref x0, .int v9, .ref v7]) (w' := w5) (by decide +kernel) rfl ?_
  refine ok_call0 (inj' := am_jj) (by decide +kernel : decode m_M_laysFours.2.1 127 = .ok ((.invokevirtual 184), 3)) rfl (fun q hq => am_iv0 (am_self_eq hq).1 rfl rfl rfl) (o_M_cellBit (d + 0) (x0) (x2) (x4) w5) (fun _ _ => rfl) (fun r11 h12 => ?_)
  refine ok_seg (L := [((.aload_n 0), 1), ((.iload_n 2), 1), ((.iload 5), 2)]) (pc' := 134) (ls' := [some (.ref x0), some (.int x1), some (.int x2), some (.int x3), some (.int x4), some (.int x5), y6]) (st' := [.int x5, .int x2, .ref x0, .long r11.2, .int v9, .ref v7]) (w' := r11.1) (by decide +kernel) rfl ?_
  refine ok_call0 (inj' := am_jj) (by decide +kernel : decode m_M_laysFours.2.1 134 = .ok ((.invokevirtual 184), 3)) rfl (fun q hq => am_iv0 (am_self_eq hq).1 rfl rfl rfl) (o_M_cellBit (d + 0) (x0) (x2) (x5) r11.1) (fun _ _ => rfl) (fun r13 h14 => ?_)
  refine ok_seg (L := [(.lor, 1), ((.aload_n 0), 1), ((.iload_n 3), 1), ((.iload 4), 2)]) (pc' := 142) (ls' := [some (.ref x0), some (.int x1), some (.int x2), some (.int x3), some (.int x4), some (.int x5), y6]) (st' := [.int x4, .int x3, .ref x0, .long (r11.2 ||| r13.2), .int v9, .ref v7]) (w' := r13.1) (by decide +kernel) rfl ?_
  refine ok_call0 (inj' := am_jj) (by decide +kernel : decode m_M_laysFours.2.1 142 = .ok ((.invokevirtual 184), 3)) rfl (fun q hq => am_iv0 (am_self_eq hq).1 rfl rfl rfl) (o_M_cellBit (d + 0) (x0) (x3) (x4) r13.1) (fun _ _ => rfl) (fun r15 h16 => ?_)
  refine ok_seg (L := [(.lor, 1), ((.aload_n 0), 1), ((.iload_n 3), 1), ((.iload 5), 2)]) (pc' := 150) (ls' := [some (.ref x0), some (.int x1), some (.int x2), some (.int x3), some (.int x4), some (.int x5), y6]) (st' := [.int x5, .int x3, .ref x0, .long ((r11.2 ||| r13.2) ||| r15.2), .int v9, .ref v7]) (w' := r15.1) (by decide +kernel) rfl ?_
  refine ok_call0 (inj' := am_jj) (by decide +kernel : decode m_M_laysFours.2.1 150 = .ok ((.invokevirtual 184), 3)) rfl (fun q hq => am_iv0 (am_self_eq hq).1 rfl rfl rfl) (o_M_cellBit (d + 0) (x0) (x3) (x5) r15.1) (fun _ _ => rfl) (fun r17 h18 => ?_)
  refine ok_seg (L := [(.lor, 1)]) (pc' := 154) (ls' := [some (.ref x0), some (.int x1), some (.int x2), some (.int x3), some (.int x4), some (.int x5), y6]) (st' := [.long (((r11.2 ||| r13.2) ||| r15.2) ||| r17.2), .int v9, .ref v7]) (w' := r17.1) (by decide +kernel) rfl ?_
  refine ok_sj (by decide +kernel : decode m_M_laysFours.2.1 154 = .ok (.lastore, 1)) (fun w19 h20 => ?_)
  refine ok_seg (L := [((.aload_n 0), 1), (.dup, 1)]) (pc' := 157) (ls' := [some (.ref x0), some (.int x1), some (.int x2), some (.int x3), some (.int x4), some (.int x5), y6]) (st' := [.ref x0, .ref x0]) (w' := w19) (by decide +kernel) rfl ?_
  refine ok_gi (by decide +kernel : decode m_M_laysFours.2.1 157 = .ok ((.getfield 181), 3)) rfl (fun v21 h22 => ?_)
  refine ok_seg (L := [((.iconst 1), 1), (.iadd, 1)]) (pc' := 162) (ls' := [some (.ref x0), some (.int x1), some (.int x2), some (.int x3), some (.int x4), some (.int x5), y6]) (st' := [.int (v21 + 1), .ref x0]) (w' := w19) (by decide +kernel) rfl ?_
  refine ok_pi (by decide +kernel : decode m_M_laysFours.2.1 162 = .ok ((.putfield 181), 3)) rfl (fun w23 h24 => ?_)
  exact o_M_laysFours_p165 hk7 hk19 hk30 hk45 x0 x1 x2 x3 x4 x5 y6 w23
theorem o_M_laysFours_p45 {d : Nat} {k7 : Nat → Int32 → Int32 → am_W → Option (am_W × Unit)} {k19 : Nat → Int32 → Int32 → Int32 → am_W → Option (am_W × Unit)} {k30 : Nat → Int32 → Int32 → Int32 → Int32 → am_W → Option (am_W × Unit)} (hk7 : ∀ (x0 : Nat) (x1 : Int32) (x2 : Int32) (y3 y4 y5 y6 : Option Value) (w : am_W), am_Ok am_jv (d + 2) m_M_laysFours 7 [some (.ref x0), some (.int x1), some (.int x2), y3, y4, y5, y6] [] w (k7 x0 x1 x2 w)) (hk19 : ∀ (x0 : Nat) (x1 : Int32) (x2 : Int32) (x3 : Int32) (y4 y5 y6 : Option Value) (w : am_W), am_Ok am_jv (d + 2) m_M_laysFours 19 [some (.ref x0), some (.int x1), some (.int x2), some (.int x3), y4, y5, y6] [] w (k19 x0 x1 x2 x3 w)) (hk30 : ∀ (x0 : Nat) (x1 : Int32) (x2 : Int32) (x3 : Int32) (x4 : Int32) (y5 y6 : Option Value) (w : am_W), am_Ok am_jv (d + 2) m_M_laysFours 30 [some (.ref x0), some (.int x1), some (.int x2), some (.int x3), some (.int x4), y5, y6] [] w (k30 x0 x1 x2 x3 x4 w)) : ∀ (n : Nat) (x0 : Nat) (x1 : Int32) (x2 : Int32) (x3 : Int32) (x4 : Int32) (x5 : Int32) (y6 : Option Value) (w : am_W), am_Ok am_jv (d + 2) m_M_laysFours 45 [some (.ref x0), some (.int x1), some (.int x2), some (.int x3), some (.int x4), some (.int x5), y6] [] w (f_M_laysFours_p45 k7 k19 k30 n x0 x1 x2 x3 x4 x5 w) := by
  intro n
  induction n with
  | zero => intros; exact ok_none
  | succ n ih =>
    intro x0 x1 x2 x3 x4 x5 y6 w
    unfold f_M_laysFours_p45
    refine ok_seg (L := [((.iload 5), 2), ((.aload_n 0), 1)]) (pc' := 48) (ls' := [some (.ref x0), some (.int x1), some (.int x2), some (.int x3), some (.int x4), some (.int x5), y6]) (st' := [.ref x0, .int x5]) (w' := w) (by decide +kernel) rfl ?_
    refine ok_call0 (inj' := am_ji) (by decide +kernel : decode m_M_laysFours.2.1 48 = .ok ((.invokevirtual 167), 3)) rfl (fun q hq => am_iv0 (am_self_eq hq).1 rfl rfl rfl) (o_M_broad (d + 1) (x0) w) (fun _ _ => rfl) (fun r25 h26 => ?_)
    refine ok_br (P := r25.2 ≤ x5) (off := 120) (t := 171) (by decide +kernel : decode m_M_laysFours.2.1 51 = .ok ((.if_icmp .ge 120), 3)) rfl rfl rfl rfl (fun c27 => ?_) (fun c27 => ?_)
    · skip
      refine ok_seg (L := [((.iinc 4 1), 3)]) (pc' := 174) (ls' := [some (.ref x0), some (.int x1), some (.int x2), some (.int x3), some (.int (x4 + 1)), some (.int x5), y6]) (st' := []) (w' := r25.1) (by decide +kernel) rfl ?_
      refine ok_goto (t := 30) (by decide +kernel : decode m_M_laysFours.2.1 174 = .ok ((.goto (-144)), 3)) rfl ?_
      exact hk30 x0 x1 x2 x3 (x4 + 1) (some (.int x5)) y6 r25.1
    · skip
      refine ok_seg (L := [((.aload_n 0), 1)]) (pc' := 55) (ls' := [some (.ref x0), some (.int x1), some (.int x2), some (.int x3), some (.int x4), some (.int x5), y6]) (st' := [.ref x0]) (w' := r25.1) (by decide +kernel) rfl ?_
      refine ok_gr (by decide +kernel : decode m_M_laysFours.2.1 55 = .ok ((.getfield 64), 3)) rfl (by decide) (fun v28 h29 => ?_)
      refine ok_seg (L := [((.iload_n 2), 1), ((.iload_n 3), 1), ((.iload 4), 2), ((.iload 5), 2)]) (pc' := 64) (ls' := [some (.ref x0), some (.int x1), some (.int x2), some (.int x3), some (.int x4), some (.int x5), y6]) (st' := [.int x5, .int x4, .int x3, .int x2, .ref v28]) (w' := r25.1) (by decide +kernel) rfl ?_
      refine ok_call0 (inj' := am_ji) (by decide +kernel : decode m_M_laysFours.2.1 64 = .ok ((.invokestatic 177), 3)) rfl (fun _ _ => rfl) (o_M_four (d + 0) (v28) (x2) (x3) (x4) (x5) r25.1) (fun _ _ => rfl) (fun r30 h31 => ?_)
      refine ok_seg (L := [((.istore 6), 2), ((.iload 6), 2)]) (pc' := 71) (ls' := [some (.ref x0), some (.int x1), some (.int x2), some (.int x3), some (.int x4), some (.int x5), some (.int r30.2)]) (st' := [.int r30.2]) (w' := r30.1) (by decide +kernel) rfl ?_
      refine ok_br (P := r30.2 = 0) (off := 94) (t := 165) (by decide +kernel : decode m_M_laysFours.2.1 71 = .ok ((.ifCond .eq 94), 3)) rfl rfl rfl rfl (fun c32 => ?_) (fun c32 => ?_)
      · skip
        exact o_M_laysFours_p165 hk7 hk19 hk30 ih x0 x1 x2 x3 x4 x5 (some (.int r30.2)) r30.1
      · skip
        refine ok_seg (L := [((.iload_n 1), 1)]) (pc' := 75) (ls' := [some (.ref x0), some (.int x1), some (.int x2), some (.int x3), some (.int x4), some (.int x5), some (.int r30.2)]) (st' := [.int x1]) (w' := r30.1) (by decide +kernel) rfl ?_
        refine ok_br (P := x1 = 0) (off := 12) (t := 87) (by decide +kernel : decode m_M_laysFours.2.1 75 = .ok ((.ifCond .eq 12), 3)) rfl rfl rfl rfl (fun c33 => ?_) (fun c33 => ?_)
        · skip
          exact o_M_laysFours_p87 hk7 hk19 hk30 ih x0 x1 x2 x3 x4 x5 (some (.int r30.2)) r30.1
        · skip
          refine ok_seg (L := [((.iload 6), 2), ((.iload_n 1), 1)]) (pc' := 81) (ls' := [some (.ref x0), some (.int x1), some (.int x2), some (.int x3), some (.int x4), some (.int x5), some (.int r30.2)]) (st' := [.int x1, .int r30.2]) (w' := r30.1) (by decide +kernel) rfl ?_
          refine ok_br (P := r30.2 = x1) (off := 6) (t := 87) (by decide +kernel : decode m_M_laysFours.2.1 81 = .ok ((.if_icmp .eq 6), 3)) rfl rfl rfl rfl (fun c34 => ?_) (fun c34 => ?_)
          · skip
            exact o_M_laysFours_p87 hk7 hk19 hk30 ih x0 x1 x2 x3 x4 x5 (some (.int r30.2)) r30.1
          · skip
            refine ok_goto (t := 165) (by decide +kernel : decode m_M_laysFours.2.1 84 = .ok ((.goto 81), 3)) rfl ?_
            exact o_M_laysFours_p165 hk7 hk19 hk30 ih x0 x1 x2 x3 x4 x5 (some (.int r30.2)) r30.1
theorem o_M_laysFours_p30 {d : Nat} {k7 : Nat → Int32 → Int32 → am_W → Option (am_W × Unit)} {k19 : Nat → Int32 → Int32 → Int32 → am_W → Option (am_W × Unit)} (hk7 : ∀ (x0 : Nat) (x1 : Int32) (x2 : Int32) (y3 y4 y5 y6 : Option Value) (w : am_W), am_Ok am_jv (d + 2) m_M_laysFours 7 [some (.ref x0), some (.int x1), some (.int x2), y3, y4, y5, y6] [] w (k7 x0 x1 x2 w)) (hk19 : ∀ (x0 : Nat) (x1 : Int32) (x2 : Int32) (x3 : Int32) (y4 y5 y6 : Option Value) (w : am_W), am_Ok am_jv (d + 2) m_M_laysFours 19 [some (.ref x0), some (.int x1), some (.int x2), some (.int x3), y4, y5, y6] [] w (k19 x0 x1 x2 x3 w)) : ∀ (n : Nat) (x0 : Nat) (x1 : Int32) (x2 : Int32) (x3 : Int32) (x4 : Int32) (y5 y6 : Option Value) (w : am_W), am_Ok am_jv (d + 2) m_M_laysFours 30 [some (.ref x0), some (.int x1), some (.int x2), some (.int x3), some (.int x4), y5, y6] [] w (f_M_laysFours_p30 k7 k19 n x0 x1 x2 x3 x4 w) := by
  intro n
  induction n with
  | zero => intros; exact ok_none
  | succ n ih =>
    intro x0 x1 x2 x3 x4 y5 y6 w
    unfold f_M_laysFours_p30
    refine ok_seg (L := [((.iload 4), 2), ((.aload_n 0), 1)]) (pc' := 33) (ls' := [some (.ref x0), some (.int x1), some (.int x2), some (.int x3), some (.int x4), y5, y6]) (st' := [.ref x0, .int x4]) (w' := w) (by decide +kernel) rfl ?_
    refine ok_call0 (inj' := am_ji) (by decide +kernel : decode m_M_laysFours.2.1 33 = .ok ((.invokevirtual 167), 3)) rfl (fun q hq => am_iv0 (am_self_eq hq).1 rfl rfl rfl) (o_M_broad (d + 1) (x0) w) (fun _ _ => rfl) (fun r35 h36 => ?_)
    refine ok_br (P := r35.2 ≤ x4) (off := 141) (t := 177) (by decide +kernel : decode m_M_laysFours.2.1 36 = .ok ((.if_icmp .ge 141), 3)) rfl rfl rfl rfl (fun c37 => ?_) (fun c37 => ?_)
    · skip
      refine ok_seg (L := [((.iinc 3 1), 3)]) (pc' := 180) (ls' := [some (.ref x0), some (.int x1), some (.int x2), some (.int (x3 + 1)), some (.int x4), y5, y6]) (st' := []) (w' := r35.1) (by decide +kernel) rfl ?_
      refine ok_goto (t := 19) (by decide +kernel : decode m_M_laysFours.2.1 180 = .ok ((.goto (-161)), 3)) rfl ?_
      exact hk19 x0 x1 x2 (x3 + 1) (some (.int x4)) y5 y6 r35.1
    · skip
      refine ok_seg (L := [((.iload 4), 2), ((.iconst 1), 1), (.iadd, 1), ((.istore 5), 2)]) (pc' := 45) (ls' := [some (.ref x0), some (.int x1), some (.int x2), some (.int x3), some (.int x4), some (.int (x4 + 1)), y6]) (st' := []) (w' := r35.1) (by decide +kernel) rfl ?_
      exact o_M_laysFours_p45 hk7 hk19 ih am_N x0 x1 x2 x3 x4 (x4 + 1) y6 r35.1
theorem o_M_laysFours_p19 {d : Nat} {k7 : Nat → Int32 → Int32 → am_W → Option (am_W × Unit)} (hk7 : ∀ (x0 : Nat) (x1 : Int32) (x2 : Int32) (y3 y4 y5 y6 : Option Value) (w : am_W), am_Ok am_jv (d + 2) m_M_laysFours 7 [some (.ref x0), some (.int x1), some (.int x2), y3, y4, y5, y6] [] w (k7 x0 x1 x2 w)) : ∀ (n : Nat) (x0 : Nat) (x1 : Int32) (x2 : Int32) (x3 : Int32) (y4 y5 y6 : Option Value) (w : am_W), am_Ok am_jv (d + 2) m_M_laysFours 19 [some (.ref x0), some (.int x1), some (.int x2), some (.int x3), y4, y5, y6] [] w (f_M_laysFours_p19 k7 n x0 x1 x2 x3 w) := by
  intro n
  induction n with
  | zero => intros; exact ok_none
  | succ n ih =>
    intro x0 x1 x2 x3 y4 y5 y6 w
    unfold f_M_laysFours_p19
    refine ok_seg (L := [((.iload_n 3), 1), ((.aload_n 0), 1)]) (pc' := 21) (ls' := [some (.ref x0), some (.int x1), some (.int x2), some (.int x3), y4, y5, y6]) (st' := [.ref x0, .int x3]) (w' := w) (by decide +kernel) rfl ?_
    refine ok_call0 (inj' := am_ji) (by decide +kernel : decode m_M_laysFours.2.1 21 = .ok ((.invokevirtual 163), 3)) rfl (fun q hq => am_iv0 (am_self_eq hq).1 rfl rfl rfl) (o_M_high (d + 1) (x0) w) (fun _ _ => rfl) (fun r38 h39 => ?_)
    refine ok_br (P := r38.2 ≤ x3) (off := 159) (t := 183) (by decide +kernel : decode m_M_laysFours.2.1 24 = .ok ((.if_icmp .ge 159), 3)) rfl rfl rfl rfl (fun c40 => ?_) (fun c40 => ?_)
    · skip
      refine ok_seg (L := [((.iinc 2 1), 3)]) (pc' := 186) (ls' := [some (.ref x0), some (.int x1), some (.int (x2 + 1)), some (.int x3), y4, y5, y6]) (st' := []) (w' := r38.1) (by decide +kernel) rfl ?_
      refine ok_goto (t := 7) (by decide +kernel : decode m_M_laysFours.2.1 186 = .ok ((.goto (-179)), 3)) rfl ?_
      exact hk7 x0 x1 (x2 + 1) (some (.int x3)) y4 y5 y6 r38.1
    · skip
      refine ok_seg (L := [((.iconst 0), 1), ((.istore 4), 2)]) (pc' := 30) (ls' := [some (.ref x0), some (.int x1), some (.int x2), some (.int x3), some (.int 0), y5, y6]) (st' := []) (w' := r38.1) (by decide +kernel) rfl ?_
      exact o_M_laysFours_p30 hk7 ih am_N x0 x1 x2 x3 0 y5 y6 r38.1
theorem o_M_laysFours_p7 {d : Nat} : ∀ (n : Nat) (x0 : Nat) (x1 : Int32) (x2 : Int32) (y3 y4 y5 y6 : Option Value) (w : am_W), am_Ok am_jv (d + 2) m_M_laysFours 7 [some (.ref x0), some (.int x1), some (.int x2), y3, y4, y5, y6] [] w (f_M_laysFours_p7 n x0 x1 x2 w) := by
  intro n
  induction n with
  | zero => intros; exact ok_none
  | succ n ih =>
    intro x0 x1 x2 y3 y4 y5 y6 w
    unfold f_M_laysFours_p7
    refine ok_seg (L := [((.iload_n 2), 1), ((.aload_n 0), 1)]) (pc' := 9) (ls' := [some (.ref x0), some (.int x1), some (.int x2), y3, y4, y5, y6]) (st' := [.ref x0, .int x2]) (w' := w) (by decide +kernel) rfl ?_
    refine ok_call0 (inj' := am_ji) (by decide +kernel : decode m_M_laysFours.2.1 9 = .ok ((.invokevirtual 163), 3)) rfl (fun q hq => am_iv0 (am_self_eq hq).1 rfl rfl rfl) (o_M_high (d + 1) (x0) w) (fun _ _ => rfl) (fun r41 h42 => ?_)
    refine ok_br (P := r41.2 ≤ x2) (off := 177) (t := 189) (by decide +kernel : decode m_M_laysFours.2.1 12 = .ok ((.if_icmp .ge 177), 3)) rfl rfl rfl rfl (fun c43 => ?_) (fun c43 => ?_)
    · skip
      exact ok_ret (v := ()) (by decide +kernel : decode m_M_laysFours.2.1 189 = .ok (.return_, 1)) rfl
    · skip
      refine ok_seg (L := [((.iload_n 2), 1), ((.iconst 1), 1), (.iadd, 1), ((.istore_n 3), 1)]) (pc' := 19) (ls' := [some (.ref x0), some (.int x1), some (.int x2), some (.int (x2 + 1)), y4, y5, y6]) (st' := []) (w' := r41.1) (by decide +kernel) rfl ?_
      exact o_M_laysFours_p19 ih am_N x0 x1 x2 (x2 + 1) y4 y5 y6 r41.1
theorem o_M_laysFours (d : Nat) (x0 : Nat) (x1 : Int32) (w : am_W) : am_Ok am_jv (d + 2) m_M_laysFours 0 (am_en m_M_laysFours [.ref x0, .int x1]) [] w (f_M_laysFours x0 x1 w) := by
  show am_Ok _ _ _ 0 [some (.ref x0), some (.int x1), none, none, none, none, none] [] w _
  unfold f_M_laysFours
  refine ok_self ?_
  unfold e_M_laysFours
  refine ok_seg (L := [((.aload_n 0), 1), ((.iconst 0), 1)]) (pc' := 2) (ls' := [some (.ref x0), some (.int x1), none, none, none, none, none]) (st' := [.int 0, .ref x0]) (w' := w) (by decide +kernel) rfl ?_
  refine ok_pi (by decide +kernel : decode m_M_laysFours.2.1 2 = .ok ((.putfield 181), 3)) rfl (fun w44 h45 => ?_)
  refine ok_seg (L := [((.iconst 0), 1), ((.istore_n 2), 1)]) (pc' := 7) (ls' := [some (.ref x0), some (.int x1), some (.int 0), none, none, none, none]) (st' := []) (w' := w44) (by decide +kernel) rfl ?_
  exact o_M_laysFours_p7 am_N x0 x1 0 none none none none w44
-- m_M_isGood
def f_M_isGood_p17 (s0 : Int32) (w : am_W) : Option (am_W × Int32) := (am_rb w s0)
def e_M_isGood (x0 : Nat) (w : am_W) : Option (am_W × Int32) := ((f_M_laysFours (x0) (0) w).bind fun r1 => ((am_gi r1.1 x0 7 23).bind fun v3 => (if ¬ v3 = 0 then (f_M_isGood_p17 0 r1.1) else (f_M_isGood_p17 1 r1.1))))
def f_M_isGood (x0 : Nat) (w : am_W) : Option (am_W × Int32) := am_self w x0 7 (e_M_isGood x0 w)
theorem o_M_isGood_p17 {d : Nat} (s0 : Int32) (y0 : Option Value) (w : am_W) : am_Ok am_ji (d + 3) m_M_isGood 17 [y0] [.int s0] w (f_M_isGood_p17 s0 w) := by
  unfold f_M_isGood_p17
  exact ok_retb (len := 1) (by decide +kernel : decode m_M_isGood.2.1 17 = .ok (.ireturn, 1)) rfl
theorem o_M_isGood (d : Nat) (x0 : Nat) (w : am_W) : am_Ok am_ji (d + 3) m_M_isGood 0 (am_en m_M_isGood [.ref x0]) [] w (f_M_isGood x0 w) := by
  show am_Ok _ _ _ 0 [some (.ref x0)] [] w _
  unfold f_M_isGood
  refine ok_self ?_
  unfold e_M_isGood
  refine ok_seg (L := [((.aload_n 0), 1), ((.iconst 0), 1)]) (pc' := 2) (ls' := [some (.ref x0)]) (st' := [.int 0, .ref x0]) (w' := w) (by decide +kernel) rfl ?_
  refine ok_call0 (inj' := am_jv) (by decide +kernel : decode m_M_isGood.2.1 2 = .ok ((.invokevirtual 188), 3)) rfl (fun q hq => am_iv0 (am_self_eq hq).1 rfl rfl rfl) (o_M_laysFours (d + 0) (x0) (0) w) (fun _ _ => rfl) (fun r1 h2 => ?_)
  refine ok_seg (L := [((.aload_n 0), 1)]) (pc' := 6) (ls' := [some (.ref x0)]) (st' := [.ref x0]) (w' := r1.1) (by decide +kernel) rfl ?_
  refine ok_gi (by decide +kernel : decode m_M_isGood.2.1 6 = .ok ((.getfield 181), 3)) rfl (fun v3 h4 => ?_)
  refine ok_br (P := ¬ v3 = 0) (off := 7) (t := 16) (by decide +kernel : decode m_M_isGood.2.1 9 = .ok ((.ifCond .ne 7), 3)) rfl rfl rfl rfl (fun c5 => ?_) (fun c5 => ?_)
  · skip
    refine ok_seg (L := [((.iconst 0), 1)]) (pc' := 17) (ls' := [some (.ref x0)]) (st' := [.int 0]) (w' := r1.1) (by decide +kernel) rfl ?_
    exact o_M_isGood_p17 0 (some (.ref x0)) r1.1
  · skip
    refine ok_seg (L := [((.iconst 1), 1)]) (pc' := 13) (ls' := [some (.ref x0)]) (st' := [.int 1]) (w' := r1.1) (by decide +kernel) rfl ?_
    refine ok_goto (t := 17) (by decide +kernel : decode m_M_isGood.2.1 13 = .ok ((.goto 4), 3)) rfl ?_
    exact o_M_isGood_p17 1 (some (.ref x0)) r1.1
-- m_M_now
def f_M_now_p86 (s0 : Int32) (w : am_W) : Option (am_W × Int32) := (some (w, s0))
def e_M_now (x0 : Nat) (x1 : Int32) (w : am_W) : Option (am_W × Int32) := ((am_pv w x0 7 0 (.int 0)).bind fun w1 => (am_sw7 x1 ((f_M_high (x0) w1).bind fun r4 => (some (r4.1, r4.2))) ((f_M_broad (x0) w1).bind fun r6 => (some (r6.1, r6.2))) ((am_gr w1 x0 7 11).bind fun v8 => ((am_ai w1 v8 2).bind fun v10 => (some (w1, v10)))) ((am_gr w1 x0 7 11).bind fun v12 => ((f_M_blanks (x0) (v12) w1).bind fun r14 => (some (r14.1, r14.2)))) ((f_M_isGood (x0) w1).bind fun r16 => (if r16.2 = 0 then (f_M_now_p86 0 r16.1) else (f_M_now_p86 1 r16.1))) ((am_gi w1 x0 7 19).bind fun v19 => (some (w1, v19))) ((am_gi w1 x0 7 2).bind fun v21 => (some (w1, v21))) (some (w1, (-1)))))
def f_M_now (x0 : Nat) (x1 : Int32) (w : am_W) : Option (am_W × Int32) := am_self w x0 7 (e_M_now x0 x1 w)
theorem o_M_now_p86 {d : Nat} (s0 : Int32) (y0 y1 : Option Value) (w : am_W) : am_Ok am_ji (d + 4) m_M_now 86 [y0, y1] [.int s0] w (f_M_now_p86 s0 w) := by
  unfold f_M_now_p86
  exact ok_ret (v := s0) (by decide +kernel : decode m_M_now.2.1 86 = .ok (.ireturn, 1)) rfl
theorem o_M_now (d : Nat) (x0 : Nat) (x1 : Int32) (w : am_W) : am_Ok am_ji (d + 4) m_M_now 0 (am_en m_M_now [.ref x0, .int x1]) [] w (f_M_now x0 x1 w) := by
  show am_Ok _ _ _ 0 [some (.ref x0), some (.int x1)] [] w _
  unfold f_M_now
  refine ok_self ?_
  unfold e_M_now
  refine ok_seg (L := [((.aload_n 0), 1), ((.iconst 0), 1)]) (pc' := 2) (ls' := [some (.ref x0), some (.int x1)]) (st' := [.int 0, .ref x0]) (w' := w) (by decide +kernel) rfl ?_
  refine ok_pi (by decide +kernel : decode m_M_now.2.1 2 = .ok ((.putfield 1), 3)) rfl (fun w1 h2 => ?_)
  refine ok_seg (L := [((.iload_n 1), 1)]) (pc' := 6) (ls' := [some (.ref x0), some (.int x1)]) (st' := [.int x1]) (w' := w1) (by decide +kernel) rfl ?_
  refine ok_sw7 (by decide +kernel : decode m_M_now.2.1 6 = .ok ((.tableswitch 91 0 6 #[42, 47, 52, 59, 68, 81, 86]), 42)) rfl rfl rfl rfl rfl rfl rfl rfl ?_ ?_ ?_ ?_ ?_ ?_ ?_ ?_ rfl rfl
  · skip
    refine ok_seg (L := [((.aload_n 0), 1)]) (pc' := 49) (ls' := [some (.ref x0), some (.int x1)]) (st' := [.ref x0]) (w' := w1) (by decide +kernel) rfl ?_
    refine ok_call0 (inj' := am_ji) (by decide +kernel : decode m_M_now.2.1 49 = .ok ((.invokevirtual 163), 3)) rfl (fun q hq => am_iv0 (am_self_eq hq).1 rfl rfl rfl) (o_M_high (d + 3) (x0) w1) (fun _ _ => rfl) (fun r4 h5 => ?_)
    exact ok_ret (v := r4.2) (by decide +kernel : decode m_M_now.2.1 52 = .ok (.ireturn, 1)) rfl
  · skip
    refine ok_seg (L := [((.aload_n 0), 1)]) (pc' := 54) (ls' := [some (.ref x0), some (.int x1)]) (st' := [.ref x0]) (w' := w1) (by decide +kernel) rfl ?_
    refine ok_call0 (inj' := am_ji) (by decide +kernel : decode m_M_now.2.1 54 = .ok ((.invokevirtual 167), 3)) rfl (fun q hq => am_iv0 (am_self_eq hq).1 rfl rfl rfl) (o_M_broad (d + 3) (x0) w1) (fun _ _ => rfl) (fun r6 h7 => ?_)
    exact ok_ret (v := r6.2) (by decide +kernel : decode m_M_now.2.1 57 = .ok (.ireturn, 1)) rfl
  · skip
    refine ok_seg (L := [((.aload_n 0), 1)]) (pc' := 59) (ls' := [some (.ref x0), some (.int x1)]) (st' := [.ref x0]) (w' := w1) (by decide +kernel) rfl ?_
    refine ok_gr (by decide +kernel : decode m_M_now.2.1 59 = .ok ((.getfield 64), 3)) rfl (by decide) (fun v8 h9 => ?_)
    refine ok_seg (L := [((.iconst 2), 1)]) (pc' := 63) (ls' := [some (.ref x0), some (.int x1)]) (st' := [.int 2, .ref v8]) (w' := w1) (by decide +kernel) rfl ?_
    refine ok_ai (by decide +kernel : decode m_M_now.2.1 63 = .ok (.iaload, 1)) (fun v10 h11 => ?_)
    exact ok_ret (v := v10) (by decide +kernel : decode m_M_now.2.1 64 = .ok (.ireturn, 1)) rfl
  · skip
    refine ok_seg (L := [((.aload_n 0), 1), ((.aload_n 0), 1)]) (pc' := 67) (ls' := [some (.ref x0), some (.int x1)]) (st' := [.ref x0, .ref x0]) (w' := w1) (by decide +kernel) rfl ?_
    refine ok_gr (by decide +kernel : decode m_M_now.2.1 67 = .ok ((.getfield 64), 3)) rfl (by decide) (fun v12 h13 => ?_)
    refine ok_call0 (inj' := am_ji) (by decide +kernel : decode m_M_now.2.1 70 = .ok ((.invokevirtual 191), 3)) rfl (fun q hq => am_iv0 (am_self_eq hq).1 rfl rfl rfl) (o_M_blanks (d + 3) (x0) (v12) w1) (fun _ _ => rfl) (fun r14 h15 => ?_)
    exact ok_ret (v := r14.2) (by decide +kernel : decode m_M_now.2.1 73 = .ok (.ireturn, 1)) rfl
  · skip
    refine ok_seg (L := [((.aload_n 0), 1)]) (pc' := 75) (ls' := [some (.ref x0), some (.int x1)]) (st' := [.ref x0]) (w' := w1) (by decide +kernel) rfl ?_
    refine ok_call0 (inj' := am_ji) (by decide +kernel : decode m_M_now.2.1 75 = .ok ((.invokevirtual 195), 3)) rfl (fun q hq => am_iv0 (am_self_eq hq).1 rfl rfl rfl) (o_M_isGood (d + 0) (x0) w1) (fun _ _ => rfl) (fun r16 h17 => ?_)
    refine ok_br (P := r16.2 = 0) (off := 7) (t := 85) (by decide +kernel : decode m_M_now.2.1 78 = .ok ((.ifCond .eq 7), 3)) rfl rfl rfl rfl (fun c18 => ?_) (fun c18 => ?_)
    · skip
      refine ok_seg (L := [((.iconst 0), 1)]) (pc' := 86) (ls' := [some (.ref x0), some (.int x1)]) (st' := [.int 0]) (w' := r16.1) (by decide +kernel) rfl ?_
      exact o_M_now_p86 0 (some (.ref x0)) (some (.int x1)) r16.1
    · skip
      refine ok_seg (L := [((.iconst 1), 1)]) (pc' := 82) (ls' := [some (.ref x0), some (.int x1)]) (st' := [.int 1]) (w' := r16.1) (by decide +kernel) rfl ?_
      refine ok_goto (t := 86) (by decide +kernel : decode m_M_now.2.1 82 = .ok ((.goto 4), 3)) rfl ?_
      exact o_M_now_p86 1 (some (.ref x0)) (some (.int x1)) r16.1
  · skip
    refine ok_seg (L := [((.aload_n 0), 1)]) (pc' := 88) (ls' := [some (.ref x0), some (.int x1)]) (st' := [.ref x0]) (w' := w1) (by decide +kernel) rfl ?_
    refine ok_gi (by decide +kernel : decode m_M_now.2.1 88 = .ok ((.getfield 160), 3)) rfl (fun v19 h20 => ?_)
    exact ok_ret (v := v19) (by decide +kernel : decode m_M_now.2.1 91 = .ok (.ireturn, 1)) rfl
  · skip
    refine ok_seg (L := [((.aload_n 0), 1)]) (pc' := 93) (ls' := [some (.ref x0), some (.int x1)]) (st' := [.ref x0]) (w' := w1) (by decide +kernel) rfl ?_
    refine ok_gi (by decide +kernel : decode m_M_now.2.1 93 = .ok ((.getfield 11), 3)) rfl (fun v21 h22 => ?_)
    exact ok_ret (v := v21) (by decide +kernel : decode m_M_now.2.1 96 = .ok (.ireturn, 1)) rfl
  · skip
    refine ok_seg (L := [((.iconst (-1)), 1)]) (pc' := 98) (ls' := [some (.ref x0), some (.int x1)]) (st' := [.int (-1)]) (w' := w1) (by decide +kernel) rfl ?_
    exact ok_ret (v := (-1)) (by decide +kernel : decode m_M_now.2.1 98 = .ok (.ireturn, 1)) rfl
-- m_M_cellMany
def e_M_cellMany (x0 : Nat) (w : am_W) : Option (am_W × Int32) := ((f_M_high (x0) w).bind fun r1 => ((f_M_broad (x0) r1.1).bind fun r3 => (some (r3.1, (r1.2 * r3.2)))))
def f_M_cellMany (x0 : Nat) (w : am_W) : Option (am_W × Int32) := am_self w x0 7 (e_M_cellMany x0 w)
theorem o_M_cellMany (d : Nat) (x0 : Nat) (w : am_W) : am_Ok am_ji (d + 1) m_M_cellMany 0 (am_en m_M_cellMany [.ref x0]) [] w (f_M_cellMany x0 w) := by
  show am_Ok _ _ _ 0 [some (.ref x0)] [] w _
  unfold f_M_cellMany
  refine ok_self ?_
  unfold e_M_cellMany
  refine ok_seg (L := [((.aload_n 0), 1)]) (pc' := 1) (ls' := [some (.ref x0)]) (st' := [.ref x0]) (w' := w) (by decide +kernel) rfl ?_
  refine ok_call0 (inj' := am_ji) (by decide +kernel : decode m_M_cellMany.2.1 1 = .ok ((.invokevirtual 163), 3)) rfl (fun q hq => am_iv0 (am_self_eq hq).1 rfl rfl rfl) (o_M_high (d + 0) (x0) w) (fun _ _ => rfl) (fun r1 h2 => ?_)
  refine ok_seg (L := [((.aload_n 0), 1)]) (pc' := 5) (ls' := [some (.ref x0)]) (st' := [.ref x0, .int r1.2]) (w' := r1.1) (by decide +kernel) rfl ?_
  refine ok_call0 (inj' := am_ji) (by decide +kernel : decode m_M_cellMany.2.1 5 = .ok ((.invokevirtual 167), 3)) rfl (fun q hq => am_iv0 (am_self_eq hq).1 rfl rfl rfl) (o_M_broad (d + 0) (x0) r1.1) (fun _ _ => rfl) (fun r3 h4 => ?_)
  refine ok_seg (L := [(.imul, 1)]) (pc' := 9) (ls' := [some (.ref x0)]) (st' := [.int (r1.2 * r3.2)]) (w' := r3.1) (by decide +kernel) rfl ?_
  exact ok_ret (v := (r1.2 * r3.2)) (by decide +kernel : decode m_M_cellMany.2.1 9 = .ok (.ireturn, 1)) rfl
-- m_M_isCell
def e_M_isCell (x0 : Nat) (x1 : Int32) (w : am_W) : Option (am_W × Int32) := ((f_M_cellMany (x0) w).bind fun r1 => ((f_M_isIn (x1) (0) ((r1.2 - 1)) r1.1).bind fun r3 => (am_rb r3.1 r3.2)))
def f_M_isCell (x0 : Nat) (x1 : Int32) (w : am_W) : Option (am_W × Int32) := am_self w x0 7 (e_M_isCell x0 x1 w)
theorem o_M_isCell (d : Nat) (x0 : Nat) (x1 : Int32) (w : am_W) : am_Ok am_ji (d + 2) m_M_isCell 0 (am_en m_M_isCell [.ref x0, .int x1]) [] w (f_M_isCell x0 x1 w) := by
  show am_Ok _ _ _ 0 [some (.ref x0), some (.int x1)] [] w _
  unfold f_M_isCell
  refine ok_self ?_
  unfold e_M_isCell
  refine ok_seg (L := [((.iload_n 1), 1), ((.iconst 0), 1), ((.aload_n 0), 1)]) (pc' := 3) (ls' := [some (.ref x0), some (.int x1)]) (st' := [.ref x0, .int 0, .int x1]) (w' := w) (by decide +kernel) rfl ?_
  refine ok_call0 (inj' := am_ji) (by decide +kernel : decode m_M_isCell.2.1 3 = .ok ((.invokevirtual 170), 3)) rfl (fun q hq => am_iv0 (am_self_eq hq).1 rfl rfl rfl) (o_M_cellMany (d + 0) (x0) w) (fun _ _ => rfl) (fun r1 h2 => ?_)
  refine ok_seg (L := [((.iconst 1), 1), (.isub, 1)]) (pc' := 8) (ls' := [some (.ref x0), some (.int x1)]) (st' := [.int (r1.2 - 1), .int 0, .int x1]) (w' := r1.1) (by decide +kernel) rfl ?_
  refine ok_call0 (inj' := am_ji) (by decide +kernel : decode m_M_isCell.2.1 8 = .ok ((.invokestatic 121), 3)) rfl (fun _ _ => rfl) (o_M_isIn (d + 1) (x1) (0) ((r1.2 - 1)) r1.1) (fun _ _ => rfl) (fun r3 h4 => ?_)
  exact ok_retb (len := 1) (by decide +kernel : decode m_M_isCell.2.1 11 = .ok (.ireturn, 1)) rfl
-- m_M_at
def f_M_at_p25 (s0 : Int32) (w : am_W) : Option (am_W × Int32) := (some (w, s0))
def e_M_at (x0 : Nat) (x1 : Int32) (w : am_W) : Option (am_W × Int32) := ((am_pv w x0 7 0 (.int 0)).bind fun w1 => ((f_M_isCell (x0) (x1) w1).bind fun r3 => (if r3.2 = 0 then (f_M_at_p25 (-1) r3.1) else ((am_gr r3.1 x0 7 11).bind fun v6 => ((am_ai r3.1 v6 (3 + x1)).bind fun v8 => (f_M_at_p25 v8 r3.1))))))
def f_M_at (x0 : Nat) (x1 : Int32) (w : am_W) : Option (am_W × Int32) := am_self w x0 7 (e_M_at x0 x1 w)
theorem o_M_at_p25 {d : Nat} (s0 : Int32) (y0 y1 : Option Value) (w : am_W) : am_Ok am_ji (d + 3) m_M_at 25 [y0, y1] [.int s0] w (f_M_at_p25 s0 w) := by
  unfold f_M_at_p25
  exact ok_ret (v := s0) (by decide +kernel : decode m_M_at.2.1 25 = .ok (.ireturn, 1)) rfl
theorem o_M_at (d : Nat) (x0 : Nat) (x1 : Int32) (w : am_W) : am_Ok am_ji (d + 3) m_M_at 0 (am_en m_M_at [.ref x0, .int x1]) [] w (f_M_at x0 x1 w) := by
  show am_Ok _ _ _ 0 [some (.ref x0), some (.int x1)] [] w _
  unfold f_M_at
  refine ok_self ?_
  unfold e_M_at
  refine ok_seg (L := [((.aload_n 0), 1), ((.iconst 0), 1)]) (pc' := 2) (ls' := [some (.ref x0), some (.int x1)]) (st' := [.int 0, .ref x0]) (w' := w) (by decide +kernel) rfl ?_
  refine ok_pi (by decide +kernel : decode m_M_at.2.1 2 = .ok ((.putfield 1), 3)) rfl (fun w1 h2 => ?_)
  refine ok_seg (L := [((.aload_n 0), 1), ((.iload_n 1), 1)]) (pc' := 7) (ls' := [some (.ref x0), some (.int x1)]) (st' := [.int x1, .ref x0]) (w' := w1) (by decide +kernel) rfl ?_
  refine ok_call0 (inj' := am_ji) (by decide +kernel : decode m_M_at.2.1 7 = .ok ((.invokevirtual 198), 3)) rfl (fun q hq => am_iv0 (am_self_eq hq).1 rfl rfl rfl) (o_M_isCell (d + 0) (x0) (x1) w1) (fun _ _ => rfl) (fun r3 h4 => ?_)
  refine ok_br (P := r3.2 = 0) (off := 14) (t := 24) (by decide +kernel : decode m_M_at.2.1 10 = .ok ((.ifCond .eq 14), 3)) rfl rfl rfl rfl (fun c5 => ?_) (fun c5 => ?_)
  · skip
    refine ok_seg (L := [((.iconst (-1)), 1)]) (pc' := 25) (ls' := [some (.ref x0), some (.int x1)]) (st' := [.int (-1)]) (w' := r3.1) (by decide +kernel) rfl ?_
    exact o_M_at_p25 (-1) (some (.ref x0)) (some (.int x1)) r3.1
  · skip
    refine ok_seg (L := [((.aload_n 0), 1)]) (pc' := 14) (ls' := [some (.ref x0), some (.int x1)]) (st' := [.ref x0]) (w' := r3.1) (by decide +kernel) rfl ?_
    refine ok_gr (by decide +kernel : decode m_M_at.2.1 14 = .ok ((.getfield 64), 3)) rfl (by decide) (fun v6 h7 => ?_)
    refine ok_seg (L := [((.iconst 3), 1), ((.iload_n 1), 1), (.iadd, 1)]) (pc' := 20) (ls' := [some (.ref x0), some (.int x1)]) (st' := [.int (3 + x1), .ref v6]) (w' := r3.1) (by decide +kernel) rfl ?_
    refine ok_ai (by decide +kernel : decode m_M_at.2.1 20 = .ok (.iaload, 1)) (fun v8 h9 => ?_)
    refine ok_goto (t := 25) (by decide +kernel : decode m_M_at.2.1 21 = .ok ((.goto 4), 3)) rfl ?_
    exact o_M_at_p25 v8 (some (.ref x0)) (some (.int x1)) r3.1
-- m_M_isColour
def f_M_isColour_p26 (s0 : Int32) (w : am_W) : Option (am_W × Int32) := (am_rb w s0)
def f_M_isColour_p25 (w : am_W) : Option (am_W × Int32) := (f_M_isColour_p26 0 w)
def e_M_isColour (x0 : Nat) (x1 : Int32) (x2 : Int32) (w : am_W) : Option (am_W × Int32) := ((f_M_high (x0) w).bind fun r1 => (if r1.2 ≤ 0 then (f_M_isColour_p25 r1.1) else ((am_gr r1.1 x0 7 11).bind fun v4 => ((am_ai r1.1 v4 2).bind fun v6 => ((f_M_isIn (x2) (x1) (v6) r1.1).bind fun r8 => (if r8.2 = 0 then (f_M_isColour_p25 r8.1) else (f_M_isColour_p26 1 r8.1)))))))
def f_M_isColour (x0 : Nat) (x1 : Int32) (x2 : Int32) (w : am_W) : Option (am_W × Int32) := am_self w x0 7 (e_M_isColour x0 x1 x2 w)
theorem o_M_isColour_p26 {d : Nat} (s0 : Int32) (y0 y1 y2 : Option Value) (w : am_W) : am_Ok am_ji (d + 1) m_M_isColour 26 [y0, y1, y2] [.int s0] w (f_M_isColour_p26 s0 w) := by
  unfold f_M_isColour_p26
  exact ok_retb (len := 1) (by decide +kernel : decode m_M_isColour.2.1 26 = .ok (.ireturn, 1)) rfl
theorem o_M_isColour_p25 {d : Nat} (y0 y1 y2 : Option Value) (w : am_W) : am_Ok am_ji (d + 1) m_M_isColour 25 [y0, y1, y2] [] w (f_M_isColour_p25 w) := by
  unfold f_M_isColour_p25
  refine ok_seg (L := [((.iconst 0), 1)]) (pc' := 26) (ls' := [y0, y1, y2]) (st' := [.int 0]) (w' := w) (by decide +kernel) rfl ?_
  exact o_M_isColour_p26 0 y0 y1 y2 w
theorem o_M_isColour (d : Nat) (x0 : Nat) (x1 : Int32) (x2 : Int32) (w : am_W) : am_Ok am_ji (d + 1) m_M_isColour 0 (am_en m_M_isColour [.ref x0, .int x1, .int x2]) [] w (f_M_isColour x0 x1 x2 w) := by
  show am_Ok _ _ _ 0 [some (.ref x0), some (.int x1), some (.int x2)] [] w _
  unfold f_M_isColour
  refine ok_self ?_
  unfold e_M_isColour
  refine ok_seg (L := [((.aload_n 0), 1)]) (pc' := 1) (ls' := [some (.ref x0), some (.int x1), some (.int x2)]) (st' := [.ref x0]) (w' := w) (by decide +kernel) rfl ?_
  refine ok_call0 (inj' := am_ji) (by decide +kernel : decode m_M_isColour.2.1 1 = .ok ((.invokevirtual 163), 3)) rfl (fun q hq => am_iv0 (am_self_eq hq).1 rfl rfl rfl) (o_M_high (d + 0) (x0) w) (fun _ _ => rfl) (fun r1 h2 => ?_)
  refine ok_br (P := r1.2 ≤ 0) (off := 21) (t := 25) (by decide +kernel : decode m_M_isColour.2.1 4 = .ok ((.ifCond .le 21), 3)) rfl rfl rfl rfl (fun c3 => ?_) (fun c3 => ?_)
  · skip
    exact o_M_isColour_p25 (some (.ref x0)) (some (.int x1)) (some (.int x2)) r1.1
  · skip
    refine ok_seg (L := [((.iload_n 2), 1), ((.iload_n 1), 1), ((.aload_n 0), 1)]) (pc' := 10) (ls' := [some (.ref x0), some (.int x1), some (.int x2)]) (st' := [.ref x0, .int x1, .int x2]) (w' := r1.1) (by decide +kernel) rfl ?_
    refine ok_gr (by decide +kernel : decode m_M_isColour.2.1 10 = .ok ((.getfield 64), 3)) rfl (by decide) (fun v4 h5 => ?_)
    refine ok_seg (L := [((.iconst 2), 1)]) (pc' := 14) (ls' := [some (.ref x0), some (.int x1), some (.int x2)]) (st' := [.int 2, .ref v4, .int x1, .int x2]) (w' := r1.1) (by decide +kernel) rfl ?_
    refine ok_ai (by decide +kernel : decode m_M_isColour.2.1 14 = .ok (.iaload, 1)) (fun v6 h7 => ?_)
    refine ok_call0 (inj' := am_ji) (by decide +kernel : decode m_M_isColour.2.1 15 = .ok ((.invokestatic 121), 3)) rfl (fun _ _ => rfl) (o_M_isIn (d + 0) (x2) (x1) (v6) r1.1) (fun _ _ => rfl) (fun r8 h9 => ?_)
    refine ok_br (P := r8.2 = 0) (off := 7) (t := 25) (by decide +kernel : decode m_M_isColour.2.1 18 = .ok ((.ifCond .eq 7), 3)) rfl rfl rfl rfl (fun c10 => ?_) (fun c10 => ?_)
    · skip
      exact o_M_isColour_p25 (some (.ref x0)) (some (.int x1)) (some (.int x2)) r8.1
    · skip
      refine ok_seg (L := [((.iconst 1), 1)]) (pc' := 22) (ls' := [some (.ref x0), some (.int x1), some (.int x2)]) (st' := [.int 1]) (w' := r8.1) (by decide +kernel) rfl ?_
      refine ok_goto (t := 26) (by decide +kernel : decode m_M_isColour.2.1 22 = .ok ((.goto 4), 3)) rfl ?_
      exact o_M_isColour_p26 1 (some (.ref x0)) (some (.int x1)) (some (.int x2)) r8.1
-- m_M_refuse
def e_M_refuse (x0 : Nat) (w : am_W) : Option (am_W × Int32) := ((am_pv w x0 7 0 (.int 1)).bind fun w1 => (some (w1, 0)))
def f_M_refuse (x0 : Nat) (w : am_W) : Option (am_W × Int32) := am_self w x0 7 (e_M_refuse x0 w)
theorem o_M_refuse (d : Nat) (x0 : Nat) (w : am_W) : am_Ok am_ji (d + 0) m_M_refuse 0 (am_en m_M_refuse [.ref x0]) [] w (f_M_refuse x0 w) := by
  show am_Ok _ _ _ 0 [some (.ref x0)] [] w _
  unfold f_M_refuse
  refine ok_self ?_
  unfold e_M_refuse
  refine ok_seg (L := [((.aload_n 0), 1), ((.iconst 1), 1)]) (pc' := 2) (ls' := [some (.ref x0)]) (st' := [.int 1, .ref x0]) (w' := w) (by decide +kernel) rfl ?_
  refine ok_pi (by decide +kernel : decode m_M_refuse.2.1 2 = .ok ((.putfield 1), 3)) rfl (fun w1 h2 => ?_)
  refine ok_seg (L := [((.iconst 0), 1)]) (pc' := 6) (ls' := [some (.ref x0)]) (st' := [.int 0]) (w' := w1) (by decide +kernel) rfl ?_
  exact ok_ret (v := 0) (by decide +kernel : decode m_M_refuse.2.1 6 = .ok (.ireturn, 1)) rfl
-- m_M_having
def f_M_having_p54 (k25 : Nat → Int32 → Int64 → Int32 → am_W → Option (am_W × Int64)) (x0 : Nat) (x1 : Int32) (x2 : Int64) (x4 : Int32) (w : am_W) : Option (am_W × Int64) := (k25 x0 x1 x2 (x4 + 1) w)
def f_M_having_p25 : Nat → Nat → Int32 → Int64 → Int32 → am_W → Option (am_W × Int64)
  | 0, _, _, _, _, _ => none
  | n + 1, x0, x1, x2, x4, w => ((f_M_cellMany (x0) w).bind fun r1 => (if r1.2 ≤ x4 then (some (r1.1, x2)) else ((am_gr r1.1 x0 7 11).bind fun v4 => ((am_ai r1.1 v4 (3 + x4)).bind fun v6 => (if ¬ v6 = x1 then (f_M_having_p54 (f_M_having_p25 n) x0 x1 x2 x4 r1.1) else (f_M_having_p54 (f_M_having_p25 n) x0 x1 (x2 ||| (1 <<< (Int32.toInt64 x4 &&& 63))) x4 r1.1))))))
def e_M_having (x0 : Nat) (x1 : Int32) (w : am_W) : Option (am_W × Int64) := ((am_pv w x0 7 0 (.int 0)).bind fun w9 => ((f_M_isColour (x0) (0) (x1) w9).bind fun r11 => (if ¬ r11.2 = 0 then (f_M_having_p25 am_N x0 x1 0 0 r11.1) else ((f_M_refuse (x0) r11.1).bind fun r14 => (some (r14.1, (Int32.toInt64 r14.2)))))))
def f_M_having (x0 : Nat) (x1 : Int32) (w : am_W) : Option (am_W × Int64) := am_self w x0 7 (e_M_having x0 x1 w)
theorem o_M_having_p54 {d : Nat} {k25 : Nat → Int32 → Int64 → Int32 → am_W → Option (am_W × Int64)} (hk25 : ∀ (x0 : Nat) (x1 : Int32) (x2 : Int64) (x4 : Int32) (y3 : Option Value) (w : am_W), am_Ok am_jj (d + 2) m_M_having 25 [some (.ref x0), some (.int x1), some (.long x2), y3, some (.int x4)] [] w (k25 x0 x1 x2 x4 w)) (x0 : Nat) (x1 : Int32) (x2 : Int64) (x4 : Int32) (y3 : Option Value) (w : am_W) : am_Ok am_jj (d + 2) m_M_having 54 [some (.ref x0), some (.int x1), some (.long x2), y3, some (.int x4)] [] w (f_M_having_p54 k25 x0 x1 x2 x4 w) := by
  unfold f_M_having_p54
  refine ok_seg (L := [((.iinc 4 1), 3)]) (pc' := 57) (ls' := [some (.ref x0), some (.int x1), some (.long x2), y3, some (.int (x4 + 1))]) (st' := []) (w' := w) (by decide +kernel) rfl ?_
  refine ok_goto (t := 25) (by decide +kernel : decode m_M_having.2.1 57 = .ok ((.goto (-32)), 3)) rfl ?_
  exact hk25 x0 x1 x2 (x4 + 1) y3 w
theorem o_M_having_p25 {d : Nat} : ∀ (n : Nat) (x0 : Nat) (x1 : Int32) (x2 : Int64) (x4 : Int32) (y3 : Option Value) (w : am_W), am_Ok am_jj (d + 2) m_M_having 25 [some (.ref x0), some (.int x1), some (.long x2), y3, some (.int x4)] [] w (f_M_having_p25 n x0 x1 x2 x4 w) := by
  intro n
  induction n with
  | zero => intros; exact ok_none
  | succ n ih =>
    intro x0 x1 x2 x4 y3 w
    unfold f_M_having_p25
    refine ok_seg (L := [((.iload 4), 2), ((.aload_n 0), 1)]) (pc' := 28) (ls' := [some (.ref x0), some (.int x1), some (.long x2), y3, some (.int x4)]) (st' := [.ref x0, .int x4]) (w' := w) (by decide +kernel) rfl ?_
    refine ok_call0 (inj' := am_ji) (by decide +kernel : decode m_M_having.2.1 28 = .ok ((.invokevirtual 170), 3)) rfl (fun q hq => am_iv0 (am_self_eq hq).1 rfl rfl rfl) (o_M_cellMany (d + 0) (x0) w) (fun _ _ => rfl) (fun r1 h2 => ?_)
    refine ok_br (P := r1.2 ≤ x4) (off := 29) (t := 60) (by decide +kernel : decode m_M_having.2.1 31 = .ok ((.if_icmp .ge 29), 3)) rfl rfl rfl rfl (fun c3 => ?_) (fun c3 => ?_)
    · skip
      refine ok_seg (L := [((.lload_n 2), 1)]) (pc' := 61) (ls' := [some (.ref x0), some (.int x1), some (.long x2), y3, some (.int x4)]) (st' := [.long x2]) (w' := r1.1) (by decide +kernel) rfl ?_
      exact ok_ret (v := x2) (by decide +kernel : decode m_M_having.2.1 61 = .ok (.lreturn, 1)) rfl
    · skip
      refine ok_seg (L := [((.aload_n 0), 1)]) (pc' := 35) (ls' := [some (.ref x0), some (.int x1), some (.long x2), y3, some (.int x4)]) (st' := [.ref x0]) (w' := r1.1) (by decide +kernel) rfl ?_
      refine ok_gr (by decide +kernel : decode m_M_having.2.1 35 = .ok ((.getfield 64), 3)) rfl (by decide) (fun v4 h5 => ?_)
      refine ok_seg (L := [((.iconst 3), 1), ((.iload 4), 2), (.iadd, 1)]) (pc' := 42) (ls' := [some (.ref x0), some (.int x1), some (.long x2), y3, some (.int x4)]) (st' := [.int (3 + x4), .ref v4]) (w' := r1.1) (by decide +kernel) rfl ?_
      refine ok_ai (by decide +kernel : decode m_M_having.2.1 42 = .ok (.iaload, 1)) (fun v6 h7 => ?_)
      refine ok_seg (L := [((.iload_n 1), 1)]) (pc' := 44) (ls' := [some (.ref x0), some (.int x1), some (.long x2), y3, some (.int x4)]) (st' := [.int x1, .int v6]) (w' := r1.1) (by decide +kernel) rfl ?_
      refine ok_br (P := ¬ v6 = x1) (off := 10) (t := 54) (by decide +kernel : decode m_M_having.2.1 44 = .ok ((.if_icmp .ne 10), 3)) rfl rfl rfl rfl (fun c8 => ?_) (fun c8 => ?_)
      · skip
        exact o_M_having_p54 ih x0 x1 x2 x4 y3 r1.1
      · skip
        refine ok_seg (L := [((.lload_n 2), 1), ((.lconst 1), 1), ((.iload 4), 2), (.lshl, 1), (.lor, 1), ((.lstore_n 2), 1)]) (pc' := 54) (ls' := [some (.ref x0), some (.int x1), some (.long (x2 ||| (1 <<< (Int32.toInt64 x4 &&& 63)))), none, some (.int x4)]) (st' := []) (w' := r1.1) (by decide +kernel) rfl ?_
        exact o_M_having_p54 ih x0 x1 (x2 ||| (1 <<< (Int32.toInt64 x4 &&& 63))) x4 none r1.1
theorem o_M_having (d : Nat) (x0 : Nat) (x1 : Int32) (w : am_W) : am_Ok am_jj (d + 2) m_M_having 0 (am_en m_M_having [.ref x0, .int x1]) [] w (f_M_having x0 x1 w) := by
  show am_Ok _ _ _ 0 [some (.ref x0), some (.int x1), none, none, none] [] w _
  unfold f_M_having
  refine ok_self ?_
  unfold e_M_having
  refine ok_seg (L := [((.aload_n 0), 1), ((.iconst 0), 1)]) (pc' := 2) (ls' := [some (.ref x0), some (.int x1), none, none, none]) (st' := [.int 0, .ref x0]) (w' := w) (by decide +kernel) rfl ?_
  refine ok_pi (by decide +kernel : decode m_M_having.2.1 2 = .ok ((.putfield 1), 3)) rfl (fun w9 h10 => ?_)
  refine ok_seg (L := [((.aload_n 0), 1), ((.iconst 0), 1), ((.iload_n 1), 1)]) (pc' := 8) (ls' := [some (.ref x0), some (.int x1), none, none, none]) (st' := [.int x1, .int 0, .ref x0]) (w' := w9) (by decide +kernel) rfl ?_
  refine ok_call0 (inj' := am_ji) (by decide +kernel : decode m_M_having.2.1 8 = .ok ((.invokevirtual 201), 3)) rfl (fun q hq => am_iv0 (am_self_eq hq).1 rfl rfl rfl) (o_M_isColour (d + 0) (x0) (0) (x1) w9) (fun _ _ => rfl) (fun r11 h12 => ?_)
  refine ok_br (P := ¬ r11.2 = 0) (off := 9) (t := 20) (by decide +kernel : decode m_M_having.2.1 11 = .ok ((.ifCond .ne 9), 3)) rfl rfl rfl rfl (fun c13 => ?_) (fun c13 => ?_)
  · skip
    refine ok_seg (L := [((.lconst 0), 1), ((.lstore_n 2), 1), ((.iconst 0), 1), ((.istore 4), 2)]) (pc' := 25) (ls' := [some (.ref x0), some (.int x1), some (.long 0), none, some (.int 0)]) (st' := []) (w' := r11.1) (by decide +kernel) rfl ?_
    exact o_M_having_p25 am_N x0 x1 0 0 none r11.1
  · skip
    refine ok_seg (L := [((.aload_n 0), 1)]) (pc' := 15) (ls' := [some (.ref x0), some (.int x1), none, none, none]) (st' := [.ref x0]) (w' := r11.1) (by decide +kernel) rfl ?_
    refine ok_call0 (inj' := am_ji) (by decide +kernel : decode m_M_having.2.1 15 = .ok ((.invokevirtual 205), 3)) rfl (fun q hq => am_iv0 (am_self_eq hq).1 rfl rfl rfl) (o_M_refuse (d + 1) (x0) r11.1) (fun _ _ => rfl) (fun r14 h15 => ?_)
    refine ok_seg (L := [(.i2l, 1)]) (pc' := 19) (ls' := [some (.ref x0), some (.int x1), none, none, none]) (st' := [.long (Int32.toInt64 r14.2)]) (w' := r14.1) (by decide +kernel) rfl ?_
    exact ok_ret (v := (Int32.toInt64 r14.2)) (by decide +kernel : decode m_M_having.2.1 19 = .ok (.lreturn, 1)) rfl
-- m_M_rectangles
def e_M_rectangles (x0 : Nat) (x1 : Int32) (w : am_W) : Option (am_W × Int32) := ((am_pv w x0 7 0 (.int 0)).bind fun w1 => ((f_M_isColour (x0) (0) (x1) w1).bind fun r3 => (if ¬ r3.2 = 0 then ((f_M_laysFours (x0) (x1) r3.1).bind fun r6 => ((am_gi r6.1 x0 7 23).bind fun v8 => (some (r6.1, v8)))) else (some (r3.1, (-1))))))
def f_M_rectangles (x0 : Nat) (x1 : Int32) (w : am_W) : Option (am_W × Int32) := am_self w x0 7 (e_M_rectangles x0 x1 w)
theorem o_M_rectangles (d : Nat) (x0 : Nat) (x1 : Int32) (w : am_W) : am_Ok am_ji (d + 3) m_M_rectangles 0 (am_en m_M_rectangles [.ref x0, .int x1]) [] w (f_M_rectangles x0 x1 w) := by
  show am_Ok _ _ _ 0 [some (.ref x0), some (.int x1)] [] w _
  unfold f_M_rectangles
  refine ok_self ?_
  unfold e_M_rectangles
  refine ok_seg (L := [((.aload_n 0), 1), ((.iconst 0), 1)]) (pc' := 2) (ls' := [some (.ref x0), some (.int x1)]) (st' := [.int 0, .ref x0]) (w' := w) (by decide +kernel) rfl ?_
  refine ok_pi (by decide +kernel : decode m_M_rectangles.2.1 2 = .ok ((.putfield 1), 3)) rfl (fun w1 h2 => ?_)
  refine ok_seg (L := [((.aload_n 0), 1), ((.iconst 0), 1), ((.iload_n 1), 1)]) (pc' := 8) (ls' := [some (.ref x0), some (.int x1)]) (st' := [.int x1, .int 0, .ref x0]) (w' := w1) (by decide +kernel) rfl ?_
  refine ok_call0 (inj' := am_ji) (by decide +kernel : decode m_M_rectangles.2.1 8 = .ok ((.invokevirtual 201), 3)) rfl (fun q hq => am_iv0 (am_self_eq hq).1 rfl rfl rfl) (o_M_isColour (d + 1) (x0) (0) (x1) w1) (fun _ _ => rfl) (fun r3 h4 => ?_)
  refine ok_br (P := ¬ r3.2 = 0) (off := 5) (t := 16) (by decide +kernel : decode m_M_rectangles.2.1 11 = .ok ((.ifCond .ne 5), 3)) rfl rfl rfl rfl (fun c5 => ?_) (fun c5 => ?_)
  · skip
    refine ok_seg (L := [((.aload_n 0), 1), ((.iload_n 1), 1)]) (pc' := 18) (ls' := [some (.ref x0), some (.int x1)]) (st' := [.int x1, .ref x0]) (w' := r3.1) (by decide +kernel) rfl ?_
    refine ok_call0 (inj' := am_jv) (by decide +kernel : decode m_M_rectangles.2.1 18 = .ok ((.invokevirtual 188), 3)) rfl (fun q hq => am_iv0 (am_self_eq hq).1 rfl rfl rfl) (o_M_laysFours (d + 0) (x0) (x1) r3.1) (fun _ _ => rfl) (fun r6 h7 => ?_)
    refine ok_seg (L := [((.aload_n 0), 1)]) (pc' := 22) (ls' := [some (.ref x0), some (.int x1)]) (st' := [.ref x0]) (w' := r6.1) (by decide +kernel) rfl ?_
    refine ok_gi (by decide +kernel : decode m_M_rectangles.2.1 22 = .ok ((.getfield 181), 3)) rfl (fun v8 h9 => ?_)
    exact ok_ret (v := v8) (by decide +kernel : decode m_M_rectangles.2.1 25 = .ok (.ireturn, 1)) rfl
  · skip
    refine ok_seg (L := [((.iconst (-1)), 1)]) (pc' := 15) (ls' := [some (.ref x0), some (.int x1)]) (st' := [.int (-1)]) (w' := r3.1) (by decide +kernel) rfl ?_
    exact ok_ret (v := (-1)) (by decide +kernel : decode m_M_rectangles.2.1 15 = .ok (.ireturn, 1)) rfl
-- m_M_rectangle
def f_M_rectangle_p33 (w : am_W) : Option (am_W × Int32) := (some (w, (-1)))
def e_M_rectangle (x0 : Nat) (x1 : Int32) (x2 : Int32) (w : am_W) : Option (am_W × Int32) := ((am_pv w x0 7 0 (.int 0)).bind fun w1 => ((f_M_laysFours (x0) (0) w1).bind fun r3 => ((am_gi r3.1 x0 7 23).bind fun v5 => ((f_M_isIn (x1) (0) ((v5 - 1)) r3.1).bind fun r7 => (if r7.2 = 0 then (f_M_rectangle_p33 r7.1) else ((f_M_isIn (x2) (0) (3) r7.1).bind fun r10 => (if ¬ r10.2 = 0 then ((am_gr r10.1 x0 7 21).bind fun v13 => ((am_ai r10.1 v13 x1).bind fun v15 => (some (r10.1, ((v15 >>> ((9 - (3 * x2)) &&& 31)) &&& 7))))) else (f_M_rectangle_p33 r10.1))))))))
def f_M_rectangle (x0 : Nat) (x1 : Int32) (x2 : Int32) (w : am_W) : Option (am_W × Int32) := am_self w x0 7 (e_M_rectangle x0 x1 x2 w)
theorem o_M_rectangle_p33 {d : Nat} (y0 y1 y2 : Option Value) (w : am_W) : am_Ok am_ji (d + 3) m_M_rectangle 33 [y0, y1, y2] [] w (f_M_rectangle_p33 w) := by
  unfold f_M_rectangle_p33
  refine ok_seg (L := [((.iconst (-1)), 1)]) (pc' := 34) (ls' := [y0, y1, y2]) (st' := [.int (-1)]) (w' := w) (by decide +kernel) rfl ?_
  exact ok_ret (v := (-1)) (by decide +kernel : decode m_M_rectangle.2.1 34 = .ok (.ireturn, 1)) rfl
theorem o_M_rectangle (d : Nat) (x0 : Nat) (x1 : Int32) (x2 : Int32) (w : am_W) : am_Ok am_ji (d + 3) m_M_rectangle 0 (am_en m_M_rectangle [.ref x0, .int x1, .int x2]) [] w (f_M_rectangle x0 x1 x2 w) := by
  show am_Ok _ _ _ 0 [some (.ref x0), some (.int x1), some (.int x2)] [] w _
  unfold f_M_rectangle
  refine ok_self ?_
  unfold e_M_rectangle
  refine ok_seg (L := [((.aload_n 0), 1), ((.iconst 0), 1)]) (pc' := 2) (ls' := [some (.ref x0), some (.int x1), some (.int x2)]) (st' := [.int 0, .ref x0]) (w' := w) (by decide +kernel) rfl ?_
  refine ok_pi (by decide +kernel : decode m_M_rectangle.2.1 2 = .ok ((.putfield 1), 3)) rfl (fun w1 h2 => ?_)
  refine ok_seg (L := [((.aload_n 0), 1), ((.iconst 0), 1)]) (pc' := 7) (ls' := [some (.ref x0), some (.int x1), some (.int x2)]) (st' := [.int 0, .ref x0]) (w' := w1) (by decide +kernel) rfl ?_
  refine ok_call0 (inj' := am_jv) (by decide +kernel : decode m_M_rectangle.2.1 7 = .ok ((.invokevirtual 188), 3)) rfl (fun q hq => am_iv0 (am_self_eq hq).1 rfl rfl rfl) (o_M_laysFours (d + 0) (x0) (0) w1) (fun _ _ => rfl) (fun r3 h4 => ?_)
  refine ok_seg (L := [((.iload_n 1), 1), ((.iconst 0), 1), ((.aload_n 0), 1)]) (pc' := 13) (ls' := [some (.ref x0), some (.int x1), some (.int x2)]) (st' := [.ref x0, .int 0, .int x1]) (w' := r3.1) (by decide +kernel) rfl ?_
  refine ok_gi (by decide +kernel : decode m_M_rectangle.2.1 13 = .ok ((.getfield 181), 3)) rfl (fun v5 h6 => ?_)
  refine ok_seg (L := [((.iconst 1), 1), (.isub, 1)]) (pc' := 18) (ls' := [some (.ref x0), some (.int x1), some (.int x2)]) (st' := [.int (v5 - 1), .int 0, .int x1]) (w' := r3.1) (by decide +kernel) rfl ?_
  refine ok_call0 (inj' := am_ji) (by decide +kernel : decode m_M_rectangle.2.1 18 = .ok ((.invokestatic 121), 3)) rfl (fun _ _ => rfl) (o_M_isIn (d + 2) (x1) (0) ((v5 - 1)) r3.1) (fun _ _ => rfl) (fun r7 h8 => ?_)
  refine ok_br (P := r7.2 = 0) (off := 12) (t := 33) (by decide +kernel : decode m_M_rectangle.2.1 21 = .ok ((.ifCond .eq 12), 3)) rfl rfl rfl rfl (fun c9 => ?_) (fun c9 => ?_)
  · skip
    exact o_M_rectangle_p33 (some (.ref x0)) (some (.int x1)) (some (.int x2)) r7.1
  · skip
    refine ok_seg (L := [((.iload_n 2), 1), ((.iconst 0), 1), ((.iconst 3), 1)]) (pc' := 27) (ls' := [some (.ref x0), some (.int x1), some (.int x2)]) (st' := [.int 3, .int 0, .int x2]) (w' := r7.1) (by decide +kernel) rfl ?_
    refine ok_call0 (inj' := am_ji) (by decide +kernel : decode m_M_rectangle.2.1 27 = .ok ((.invokestatic 121), 3)) rfl (fun _ _ => rfl) (o_M_isIn (d + 2) (x2) (0) (3) r7.1) (fun _ _ => rfl) (fun r10 h11 => ?_)
    refine ok_br (P := ¬ r10.2 = 0) (off := 5) (t := 35) (by decide +kernel : decode m_M_rectangle.2.1 30 = .ok ((.ifCond .ne 5), 3)) rfl rfl rfl rfl (fun c12 => ?_) (fun c12 => ?_)
    · skip
      refine ok_seg (L := [((.aload_n 0), 1)]) (pc' := 36) (ls' := [some (.ref x0), some (.int x1), some (.int x2)]) (st' := [.ref x0]) (w' := r10.1) (by decide +kernel) rfl ?_
      refine ok_gr (by decide +kernel : decode m_M_rectangle.2.1 36 = .ok ((.getfield 89), 3)) rfl (by decide) (fun v13 h14 => ?_)
      refine ok_seg (L := [((.iload_n 1), 1)]) (pc' := 40) (ls' := [some (.ref x0), some (.int x1), some (.int x2)]) (st' := [.int x1, .ref v13]) (w' := r10.1) (by decide +kernel) rfl ?_
      refine ok_ai (by decide +kernel : decode m_M_rectangle.2.1 40 = .ok (.iaload, 1)) (fun v15 h16 => ?_)
      refine ok_seg (L := [((.bipush 9), 2), ((.iconst 3), 1), ((.iload_n 2), 1), (.imul, 1), (.isub, 1), (.ishr, 1), ((.bipush 7), 2), (.iand, 1)]) (pc' := 51) (ls' := [some (.ref x0), some (.int x1), some (.int x2)]) (st' := [.int ((v15 >>> ((9 - (3 * x2)) &&& 31)) &&& 7)]) (w' := r10.1) (by decide +kernel) rfl ?_
      exact ok_ret (v := ((v15 >>> ((9 - (3 * x2)) &&& 31)) &&& 7)) (by decide +kernel : decode m_M_rectangle.2.1 51 = .ok (.ireturn, 1)) rfl
    · skip
      exact o_M_rectangle_p33 (some (.ref x0)) (some (.int x1)) (some (.int x2)) r10.1
-- m_M_through_1
def f_M_through_1_p65 (k18 : Nat → Int32 → Int32 → Int32 → Int32 → am_W → Option (am_W × Int32)) (k29 : Nat → Int32 → Int32 → Int32 → Int32 → Int32 → am_W → Option (am_W × Int32)) (x0 : Nat) (x2 : Int32) (x3 : Int32) (x4 : Int32) (x5 : Int32) (x6 : Int32) (w : am_W) : Option (am_W × Int32) := (k29 x0 x2 x3 x4 x5 (x6 + 1) w)
def f_M_through_1_p29 (k18 : Nat → Int32 → Int32 → Int32 → Int32 → am_W → Option (am_W × Int32)) : Nat → Nat → Int32 → Int32 → Int32 → Int32 → Int32 → am_W → Option (am_W × Int32)
  | 0, _, _, _, _, _, _, _ => none
  | n + 1, x0, x2, x3, x4, x5, x6, w => ((am_ai w x0 1).bind fun v1 => (if v1 ≤ x6 then (k18 x0 x2 x3 x4 (x5 + 1) w) else (if x5 = x2 then (f_M_through_1_p65 k18 (f_M_through_1_p29 k18 n) x0 x2 x3 x4 x5 x6 w) else (if x6 = x3 then (f_M_through_1_p65 k18 (f_M_through_1_p29 k18 n) x0 x2 x3 x4 x5 x6 w) else ((f_M_four (x0) (x2) (x5) (x3) (x6) w).bind fun r6 => (if r6.2 = 0 then (f_M_through_1_p65 k18 (f_M_through_1_p29 k18 n) x0 x2 x3 x4 x5 x6 r6.1) else (f_M_through_1_p65 k18 (f_M_through_1_p29 k18 n) x0 x2 x3 (x4 + 1) x5 x6 r6.1)))))))
def f_M_through_1_p18 : Nat → Nat → Int32 → Int32 → Int32 → Int32 → am_W → Option (am_W × Int32)
  | 0, _, _, _, _, _, _ => none
  | n + 1, x0, x2, x3, x4, x5, w => ((am_ai w x0 0).bind fun v9 => (if v9 ≤ x5 then (some (w, x4)) else (f_M_through_1_p29 (f_M_through_1_p18 n) am_N x0 x2 x3 x4 x5 0 w)))
def e_M_through_1 (x0 : Nat) (x1 : Int32) (w : am_W) : Option (am_W × Int32) := ((am_ai w x0 1).bind fun v12 => (if v12 = 0 then none else ((am_ai w x0 1).bind fun v15 => (if v15 = 0 then none else (f_M_through_1_p18 am_N x0 (x1 / v12) (x1 - x1 / v15 * v15) 0 0 w)))))
def f_M_through_1 (x0 : Nat) (x1 : Int32) (w : am_W) : Option (am_W × Int32) := e_M_through_1 x0 x1 w
theorem o_M_through_1_p65 {d : Nat} {k18 : Nat → Int32 → Int32 → Int32 → Int32 → am_W → Option (am_W × Int32)} {k29 : Nat → Int32 → Int32 → Int32 → Int32 → Int32 → am_W → Option (am_W × Int32)} (hk18 : ∀ (x0 : Nat) (x2 : Int32) (x3 : Int32) (x4 : Int32) (x5 : Int32) (y1 y6 : Option Value) (w : am_W), am_Ok am_ji (d + 2) m_M_through_1 18 [some (.ref x0), y1, some (.int x2), some (.int x3), some (.int x4), some (.int x5), y6] [] w (k18 x0 x2 x3 x4 x5 w)) (hk29 : ∀ (x0 : Nat) (x2 : Int32) (x3 : Int32) (x4 : Int32) (x5 : Int32) (x6 : Int32) (y1 : Option Value) (w : am_W), am_Ok am_ji (d + 2) m_M_through_1 29 [some (.ref x0), y1, some (.int x2), some (.int x3), some (.int x4), some (.int x5), some (.int x6)] [] w (k29 x0 x2 x3 x4 x5 x6 w)) (x0 : Nat) (x2 : Int32) (x3 : Int32) (x4 : Int32) (x5 : Int32) (x6 : Int32) (y1 : Option Value) (w : am_W) : am_Ok am_ji (d + 2) m_M_through_1 65 [some (.ref x0), y1, some (.int x2), some (.int x3), some (.int x4), some (.int x5), some (.int x6)] [] w (f_M_through_1_p65 k18 k29 x0 x2 x3 x4 x5 x6 w) := by
  unfold f_M_through_1_p65
  refine ok_seg (L := [((.iinc 6 1), 3)]) (pc' := 68) (ls' := [some (.ref x0), y1, some (.int x2), some (.int x3), some (.int x4), some (.int x5), some (.int (x6 + 1))]) (st' := []) (w' := w) (by decide +kernel) rfl ?_
  refine ok_goto (t := 29) (by decide +kernel : decode m_M_through_1.2.1 68 = .ok ((.goto (-39)), 3)) rfl ?_
  exact hk29 x0 x2 x3 x4 x5 (x6 + 1) y1 w
theorem o_M_through_1_p29 {d : Nat} {k18 : Nat → Int32 → Int32 → Int32 → Int32 → am_W → Option (am_W × Int32)} (hk18 : ∀ (x0 : Nat) (x2 : Int32) (x3 : Int32) (x4 : Int32) (x5 : Int32) (y1 y6 : Option Value) (w : am_W), am_Ok am_ji (d + 2) m_M_through_1 18 [some (.ref x0), y1, some (.int x2), some (.int x3), some (.int x4), some (.int x5), y6] [] w (k18 x0 x2 x3 x4 x5 w)) : ∀ (n : Nat) (x0 : Nat) (x2 : Int32) (x3 : Int32) (x4 : Int32) (x5 : Int32) (x6 : Int32) (y1 : Option Value) (w : am_W), am_Ok am_ji (d + 2) m_M_through_1 29 [some (.ref x0), y1, some (.int x2), some (.int x3), some (.int x4), some (.int x5), some (.int x6)] [] w (f_M_through_1_p29 k18 n x0 x2 x3 x4 x5 x6 w) := by
  intro n
  induction n with
  | zero => intros; exact ok_none
  | succ n ih =>
    intro x0 x2 x3 x4 x5 x6 y1 w
    unfold f_M_through_1_p29
    refine ok_seg (L := [((.iload 6), 2), ((.aload_n 0), 1), ((.iconst 1), 1)]) (pc' := 33) (ls' := [some (.ref x0), y1, some (.int x2), some (.int x3), some (.int x4), some (.int x5), some (.int x6)]) (st' := [.int 1, .ref x0, .int x6]) (w' := w) (by decide +kernel) rfl ?_
    refine ok_ai (by decide +kernel : decode m_M_through_1.2.1 33 = .ok (.iaload, 1)) (fun v1 h2 => ?_)
    refine ok_br (P := v1 ≤ x6) (off := 37) (t := 71) (by decide +kernel : decode m_M_through_1.2.1 34 = .ok ((.if_icmp .ge 37), 3)) rfl rfl rfl rfl (fun c3 => ?_) (fun c3 => ?_)
    · skip
      refine ok_seg (L := [((.iinc 5 1), 3)]) (pc' := 74) (ls' := [some (.ref x0), y1, some (.int x2), some (.int x3), some (.int x4), some (.int (x5 + 1)), some (.int x6)]) (st' := []) (w' := w) (by decide +kernel) rfl ?_
      refine ok_goto (t := 18) (by decide +kernel : decode m_M_through_1.2.1 74 = .ok ((.goto (-56)), 3)) rfl ?_
      exact hk18 x0 x2 x3 x4 (x5 + 1) y1 (some (.int x6)) w
    · skip
      refine ok_seg (L := [((.iload 5), 2), ((.iload_n 2), 1)]) (pc' := 40) (ls' := [some (.ref x0), y1, some (.int x2), some (.int x3), some (.int x4), some (.int x5), some (.int x6)]) (st' := [.int x2, .int x5]) (w' := w) (by decide +kernel) rfl ?_
      refine ok_br (P := x5 = x2) (off := 25) (t := 65) (by decide +kernel : decode m_M_through_1.2.1 40 = .ok ((.if_icmp .eq 25), 3)) rfl rfl rfl rfl (fun c4 => ?_) (fun c4 => ?_)
      · skip
        exact o_M_through_1_p65 hk18 ih x0 x2 x3 x4 x5 x6 y1 w
      · skip
        refine ok_seg (L := [((.iload 6), 2), ((.iload_n 3), 1)]) (pc' := 46) (ls' := [some (.ref x0), y1, some (.int x2), some (.int x3), some (.int x4), some (.int x5), some (.int x6)]) (st' := [.int x3, .int x6]) (w' := w) (by decide +kernel) rfl ?_
        refine ok_br (P := x6 = x3) (off := 19) (t := 65) (by decide +kernel : decode m_M_through_1.2.1 46 = .ok ((.if_icmp .eq 19), 3)) rfl rfl rfl rfl (fun c5 => ?_) (fun c5 => ?_)
        · skip
          exact o_M_through_1_p65 hk18 ih x0 x2 x3 x4 x5 x6 y1 w
        · skip
          refine ok_seg (L := [((.aload_n 0), 1), ((.iload_n 2), 1), ((.iload 5), 2), ((.iload_n 3), 1), ((.iload 6), 2)]) (pc' := 56) (ls' := [some (.ref x0), y1, some (.int x2), some (.int x3), some (.int x4), some (.int x5), some (.int x6)]) (st' := [.int x6, .int x3, .int x5, .int x2, .ref x0]) (w' := w) (by decide +kernel) rfl ?_
          refine ok_call0 (inj' := am_ji) (by decide +kernel : decode m_M_through_1.2.1 56 = .ok ((.invokestatic 177), 3)) rfl (fun _ _ => rfl) (o_M_four (d + 0) (x0) (x2) (x5) (x3) (x6) w) (fun _ _ => rfl) (fun r6 h7 => ?_)
          refine ok_br (P := r6.2 = 0) (off := 6) (t := 65) (by decide +kernel : decode m_M_through_1.2.1 59 = .ok ((.ifCond .eq 6), 3)) rfl rfl rfl rfl (fun c8 => ?_) (fun c8 => ?_)
          · skip
            exact o_M_through_1_p65 hk18 ih x0 x2 x3 x4 x5 x6 y1 r6.1
          · skip
            refine ok_seg (L := [((.iinc 4 1), 3)]) (pc' := 65) (ls' := [some (.ref x0), y1, some (.int x2), some (.int x3), some (.int (x4 + 1)), some (.int x5), some (.int x6)]) (st' := []) (w' := r6.1) (by decide +kernel) rfl ?_
            exact o_M_through_1_p65 hk18 ih x0 x2 x3 (x4 + 1) x5 x6 y1 r6.1
theorem o_M_through_1_p18 {d : Nat} : ∀ (n : Nat) (x0 : Nat) (x2 : Int32) (x3 : Int32) (x4 : Int32) (x5 : Int32) (y1 y6 : Option Value) (w : am_W), am_Ok am_ji (d + 2) m_M_through_1 18 [some (.ref x0), y1, some (.int x2), some (.int x3), some (.int x4), some (.int x5), y6] [] w (f_M_through_1_p18 n x0 x2 x3 x4 x5 w) := by
  intro n
  induction n with
  | zero => intros; exact ok_none
  | succ n ih =>
    intro x0 x2 x3 x4 x5 y1 y6 w
    unfold f_M_through_1_p18
    refine ok_seg (L := [((.iload 5), 2), ((.aload_n 0), 1), ((.iconst 0), 1)]) (pc' := 22) (ls' := [some (.ref x0), y1, some (.int x2), some (.int x3), some (.int x4), some (.int x5), y6]) (st' := [.int 0, .ref x0, .int x5]) (w' := w) (by decide +kernel) rfl ?_
    refine ok_ai (by decide +kernel : decode m_M_through_1.2.1 22 = .ok (.iaload, 1)) (fun v9 h10 => ?_)
    refine ok_br (P := v9 ≤ x5) (off := 54) (t := 77) (by decide +kernel : decode m_M_through_1.2.1 23 = .ok ((.if_icmp .ge 54), 3)) rfl rfl rfl rfl (fun c11 => ?_) (fun c11 => ?_)
    · skip
      refine ok_seg (L := [((.iload 4), 2)]) (pc' := 79) (ls' := [some (.ref x0), y1, some (.int x2), some (.int x3), some (.int x4), some (.int x5), y6]) (st' := [.int x4]) (w' := w) (by decide +kernel) rfl ?_
      exact ok_ret (v := x4) (by decide +kernel : decode m_M_through_1.2.1 79 = .ok (.ireturn, 1)) rfl
    · skip
      refine ok_seg (L := [((.iconst 0), 1), ((.istore 6), 2)]) (pc' := 29) (ls' := [some (.ref x0), y1, some (.int x2), some (.int x3), some (.int x4), some (.int x5), some (.int 0)]) (st' := []) (w' := w) (by decide +kernel) rfl ?_
      exact o_M_through_1_p29 ih am_N x0 x2 x3 x4 x5 0 y1 w
theorem o_M_through_1 (d : Nat) (x0 : Nat) (x1 : Int32) (w : am_W) : am_Ok am_ji (d + 2) m_M_through_1 0 (am_en m_M_through_1 [.ref x0, .int x1]) [] w (f_M_through_1 x0 x1 w) := by
  show am_Ok _ _ _ 0 [some (.ref x0), some (.int x1), none, none, none, none, none] [] w _
  unfold f_M_through_1
  unfold e_M_through_1
  refine ok_seg (L := [((.iload_n 1), 1), ((.aload_n 0), 1), ((.iconst 1), 1)]) (pc' := 3) (ls' := [some (.ref x0), some (.int x1), none, none, none, none, none]) (st' := [.int 1, .ref x0, .int x1]) (w' := w) (by decide +kernel) rfl ?_
  refine ok_ai (by decide +kernel : decode m_M_through_1.2.1 3 = .ok (.iaload, 1)) (fun v12 h13 => ?_)
  refine ok_div (by decide +kernel : decode m_M_through_1.2.1 4 = .ok (.idiv, 1)) (fun c14 => ?_)
  refine ok_seg (L := [((.istore_n 2), 1), ((.iload_n 1), 1), ((.aload_n 0), 1), ((.iconst 1), 1)]) (pc' := 9) (ls' := [some (.ref x0), some (.int x1), some (.int (x1 / v12)), none, none, none, none]) (st' := [.int 1, .ref x0, .int x1]) (w' := w) (by decide +kernel) rfl ?_
  refine ok_ai (by decide +kernel : decode m_M_through_1.2.1 9 = .ok (.iaload, 1)) (fun v15 h16 => ?_)
  refine ok_rem (by decide +kernel : decode m_M_through_1.2.1 10 = .ok (.irem, 1)) (fun c17 => ?_)
  refine ok_seg (L := [((.istore_n 3), 1), ((.iconst 0), 1), ((.istore 4), 2), ((.iconst 0), 1), ((.istore 5), 2)]) (pc' := 18) (ls' := [some (.ref x0), some (.int x1), some (.int (x1 / v12)), some (.int (x1 - x1 / v15 * v15)), some (.int 0), some (.int 0), none]) (st' := []) (w' := w) (by decide +kernel) rfl ?_
  exact o_M_through_1_p18 am_N x0 (x1 / v12) (x1 - x1 / v15 * v15) 0 0 (some (.int x1)) none w
-- m_M_through
def f_M_through_p40 (s0 : Int32) (w : am_W) : Option (am_W × Int32) := (some (w, s0))
def e_M_through (x0 : Nat) (x1 : Int32) (w : am_W) : Option (am_W × Int32) := ((am_pv w x0 7 0 (.int 0)).bind fun w1 => ((f_M_isCell (x0) (x1) w1).bind fun r3 => (if r3.2 = 0 then (f_M_through_p40 (-1) r3.1) else ((am_gr r3.1 x0 7 11).bind fun v6 => ((am_ai r3.1 v6 (3 + x1)).bind fun v8 => (if ¬ v8 = 0 then ((am_gr r3.1 x0 7 11).bind fun v11 => ((f_M_through_1 (v11) (x1) r3.1).bind fun r13 => (f_M_through_p40 r13.2 r13.1))) else (f_M_through_p40 0 r3.1)))))))
def f_M_through (x0 : Nat) (x1 : Int32) (w : am_W) : Option (am_W × Int32) := am_self w x0 7 (e_M_through x0 x1 w)
theorem o_M_through_p40 {d : Nat} (s0 : Int32) (y0 y1 : Option Value) (w : am_W) : am_Ok am_ji (d + 3) m_M_through 40 [y0, y1] [.int s0] w (f_M_through_p40 s0 w) := by
  unfold f_M_through_p40
  exact ok_ret (v := s0) (by decide +kernel : decode m_M_through.2.1 40 = .ok (.ireturn, 1)) rfl
theorem o_M_through (d : Nat) (x0 : Nat) (x1 : Int32) (w : am_W) : am_Ok am_ji (d + 3) m_M_through 0 (am_en m_M_through [.ref x0, .int x1]) [] w (f_M_through x0 x1 w) := by
  show am_Ok _ _ _ 0 [some (.ref x0), some (.int x1)] [] w _
  unfold f_M_through
  refine ok_self ?_
  unfold e_M_through
  refine ok_seg (L := [((.aload_n 0), 1), ((.iconst 0), 1)]) (pc' := 2) (ls' := [some (.ref x0), some (.int x1)]) (st' := [.int 0, .ref x0]) (w' := w) (by decide +kernel) rfl ?_
  refine ok_pi (by decide +kernel : decode m_M_through.2.1 2 = .ok ((.putfield 1), 3)) rfl (fun w1 h2 => ?_)
  refine ok_seg (L := [((.aload_n 0), 1), ((.iload_n 1), 1)]) (pc' := 7) (ls' := [some (.ref x0), some (.int x1)]) (st' := [.int x1, .ref x0]) (w' := w1) (by decide +kernel) rfl ?_
  refine ok_call0 (inj' := am_ji) (by decide +kernel : decode m_M_through.2.1 7 = .ok ((.invokevirtual 198), 3)) rfl (fun q hq => am_iv0 (am_self_eq hq).1 rfl rfl rfl) (o_M_isCell (d + 0) (x0) (x1) w1) (fun _ _ => rfl) (fun r3 h4 => ?_)
  refine ok_br (P := r3.2 = 0) (off := 29) (t := 39) (by decide +kernel : decode m_M_through.2.1 10 = .ok ((.ifCond .eq 29), 3)) rfl rfl rfl rfl (fun c5 => ?_) (fun c5 => ?_)
  · skip
    refine ok_seg (L := [((.iconst (-1)), 1)]) (pc' := 40) (ls' := [some (.ref x0), some (.int x1)]) (st' := [.int (-1)]) (w' := r3.1) (by decide +kernel) rfl ?_
    exact o_M_through_p40 (-1) (some (.ref x0)) (some (.int x1)) r3.1
  · skip
    refine ok_seg (L := [((.aload_n 0), 1)]) (pc' := 14) (ls' := [some (.ref x0), some (.int x1)]) (st' := [.ref x0]) (w' := r3.1) (by decide +kernel) rfl ?_
    refine ok_gr (by decide +kernel : decode m_M_through.2.1 14 = .ok ((.getfield 64), 3)) rfl (by decide) (fun v6 h7 => ?_)
    refine ok_seg (L := [((.iconst 3), 1), ((.iload_n 1), 1), (.iadd, 1)]) (pc' := 20) (ls' := [some (.ref x0), some (.int x1)]) (st' := [.int (3 + x1), .ref v6]) (w' := r3.1) (by decide +kernel) rfl ?_
    refine ok_ai (by decide +kernel : decode m_M_through.2.1 20 = .ok (.iaload, 1)) (fun v8 h9 => ?_)
    refine ok_br (P := ¬ v8 = 0) (off := 7) (t := 28) (by decide +kernel : decode m_M_through.2.1 21 = .ok ((.ifCond .ne 7), 3)) rfl rfl rfl rfl (fun c10 => ?_) (fun c10 => ?_)
    · skip
      refine ok_seg (L := [((.aload_n 0), 1)]) (pc' := 29) (ls' := [some (.ref x0), some (.int x1)]) (st' := [.ref x0]) (w' := r3.1) (by decide +kernel) rfl ?_
      refine ok_gr (by decide +kernel : decode m_M_through.2.1 29 = .ok ((.getfield 64), 3)) rfl (by decide) (fun v11 h12 => ?_)
      refine ok_seg (L := [((.iload_n 1), 1)]) (pc' := 33) (ls' := [some (.ref x0), some (.int x1)]) (st' := [.int x1, .ref v11]) (w' := r3.1) (by decide +kernel) rfl ?_
      refine ok_call0 (inj' := am_ji) (by decide +kernel : decode m_M_through.2.1 33 = .ok ((.invokestatic 208), 3)) rfl (fun _ _ => rfl) (o_M_through_1 (d + 0) (v11) (x1) r3.1) (fun _ _ => rfl) (fun r13 h14 => ?_)
      refine ok_goto (t := 40) (by decide +kernel : decode m_M_through.2.1 36 = .ok ((.goto 4), 3)) rfl ?_
      exact o_M_through_p40 r13.2 (some (.ref x0)) (some (.int x1)) r13.1
    · skip
      refine ok_seg (L := [((.iconst 0), 1)]) (pc' := 25) (ls' := [some (.ref x0), some (.int x1)]) (st' := [.int 0]) (w' := r3.1) (by decide +kernel) rfl ?_
      refine ok_goto (t := 40) (by decide +kernel : decode m_M_through.2.1 25 = .ok ((.goto 15), 3)) rfl ?_
      exact o_M_through_p40 0 (some (.ref x0)) (some (.int x1)) r3.1
