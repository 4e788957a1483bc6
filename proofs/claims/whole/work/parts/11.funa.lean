-- m_G_init
def e_G_init (x0 : Nat) (w : am_W) : Option (am_W × Unit) := ((am_na w 1 5).bind fun w1 => ((am_pv w1 x0 1 0 (.ref w.2.2.length)).bind fun w3 => ((am_pv w3 x0 1 1 (.int 0)).bind fun w5 => ((am_pv w5 x0 1 2 (.int 0)).bind fun w7 => ((am_pv w7 x0 1 3 (.int 0)).bind fun w9 => (some (w9, ())))))))
def f_G_init (x0 : Nat) (w : am_W) : Option (am_W × Unit) := e_G_init x0 w
theorem o_G_init (d : Nat) (x0 : Nat) (w : am_W) : am_Ok am_jv (d + 0) m_G_init 0 (am_en m_G_init [.ref x0]) [] w (f_G_init x0 w) := by
  show am_Ok _ _ _ 0 [some (.ref x0)] [] w _
  unfold f_G_init
  unfold e_G_init
  refine ok_seg (L := [((.aload_n 0), 1), ((.invokespecial 3), 3), ((.aload_n 0), 1), ((.iconst 5), 1)]) (pc' := 6) (ls' := [some (.ref x0)]) (st' := [.int 5, .ref x0]) (w' := w) (by decide +kernel) rfl ?_
  refine ok_na (by decide +kernel : decode m_G_init.2.1 6 = .ok ((.newarray .long), 2)) (by decide) (fun w1 h2 => ?_)
  refine ok_pr (by decide +kernel : decode m_G_init.2.1 8 = .ok ((.putfield 9), 3)) rfl (by decide) (fun w3 h4 => ?_)
  refine ok_seg (L := [((.aload_n 0), 1), ((.iconst 0), 1)]) (pc' := 13) (ls' := [some (.ref x0)]) (st' := [.int 0, .ref x0]) (w' := w3) (by decide +kernel) rfl ?_
  refine ok_pi (by decide +kernel : decode m_G_init.2.1 13 = .ok ((.putfield 15), 3)) rfl (fun w5 h6 => ?_)
  refine ok_seg (L := [((.aload_n 0), 1), ((.iconst 0), 1)]) (pc' := 18) (ls' := [some (.ref x0)]) (st' := [.int 0, .ref x0]) (w' := w5) (by decide +kernel) rfl ?_
  refine ok_pi (by decide +kernel : decode m_G_init.2.1 18 = .ok ((.putfield 19), 3)) rfl (fun w7 h8 => ?_)
  refine ok_seg (L := [((.aload_n 0), 1), ((.iconst 0), 1)]) (pc' := 23) (ls' := [some (.ref x0)]) (st' := [.int 0, .ref x0]) (w' := w7) (by decide +kernel) rfl ?_
  refine ok_pi (by decide +kernel : decode m_G_init.2.1 23 = .ok ((.putfield 22), 3)) rfl (fun w9 h10 => ?_)
  exact ok_ret (v := ()) (by decide +kernel : decode m_G_init.2.1 26 = .ok (.return_, 1)) rfl
-- m_F_init
def f_F_init_p27 : Nat → Nat → Int32 → Int32 → am_W → Option (am_W × Unit)
  | 0, _, _, _, _ => none
  | n + 1, x0, x2, x3, w => (if x2 ≤ x3 then (some (w, ())) else ((am_gr w x0 5 0).bind fun v2 => ((am_nw w (.inr (1, am_d1)) 4).bind fun w4 => ((f_G_init (w.2.2.length) w4).bind fun r6 => ((am_sx r6.1 v2 x3 w.2.2.length).bind fun w8 => (f_F_init_p27 n x0 x2 (x3 + 1) w8))))))
def e_F_init (x0 : Nat) (x1 : Int32) (w : am_W) : Option (am_W × Unit) := ((am_na w 3 (am_max x1 0)).bind fun w10 => ((am_pv w10 x0 5 0 (.ref w.2.2.length)).bind fun w12 => ((am_na w12 2 (am_max x1 0)).bind fun w14 => ((am_pv w14 x0 5 1 (.ref w12.2.2.length)).bind fun w16 => (f_F_init_p27 am_N x0 (am_max x1 0) 0 w16)))))
def f_F_init (x0 : Nat) (x1 : Int32) (w : am_W) : Option (am_W × Unit) := e_F_init x0 x1 w
theorem o_F_init_p27 {d : Nat} : ∀ (n : Nat) (x0 : Nat) (x2 : Int32) (x3 : Int32) (y1 : Option Value) (w : am_W), am_Ok am_jv (d + 1) m_F_init 27 [some (.ref x0), y1, some (.int x2), some (.int x3)] [] w (f_F_init_p27 n x0 x2 x3 w) := by
  intro n
  induction n with
  | zero => intros; exact ok_none
  | succ n ih =>
    intro x0 x2 x3 y1 w
    unfold f_F_init_p27
    refine ok_seg (L := [((.iload_n 3), 1), ((.iload_n 2), 1)]) (pc' := 29) (ls' := [some (.ref x0), y1, some (.int x2), some (.int x3)]) (st' := [.int x2, .int x3]) (w' := w) (by decide +kernel) rfl ?_
    refine ok_br (P := x2 ≤ x3) (off := 22) (t := 51) (by decide +kernel : decode m_F_init.2.1 29 = .ok ((.if_icmp .ge 22), 3)) rfl rfl rfl rfl (fun c1 => ?_) (fun c1 => ?_)
    · skip
      exact ok_ret (v := ()) (by decide +kernel : decode m_F_init.2.1 51 = .ok (.return_, 1)) rfl
    · skip
      refine ok_seg (L := [((.aload_n 0), 1)]) (pc' := 33) (ls' := [some (.ref x0), y1, some (.int x2), some (.int x3)]) (st' := [.ref x0]) (w' := w) (by decide +kernel) rfl ?_
      refine ok_gr (by decide +kernel : decode m_F_init.2.1 33 = .ok ((.getfield 15), 3)) rfl (by decide) (fun v2 h3 => ?_)
      refine ok_seg (L := [((.iload_n 3), 1)]) (pc' := 37) (ls' := [some (.ref x0), y1, some (.int x2), some (.int x3)]) (st' := [.int x3, .ref v2]) (w' := w) (by decide +kernel) rfl ?_
      refine ok_new (fs := am_d1) (by decide +kernel : decode m_F_init.2.1 37 = .ok ((.new 13), 3)) rfl rfl rfl rfl (fun w4 h5 => ?_)
      refine ok_seg (L := [(.dup, 1)]) (pc' := 41) (ls' := [some (.ref x0), y1, some (.int x2), some (.int x3)]) (st' := [.ref w.2.2.length, .ref w.2.2.length, .int x3, .ref v2]) (w' := w4) (by decide +kernel) rfl ?_
      refine ok_call0 (inj' := am_jv) (by decide +kernel : decode m_F_init.2.1 41 = .ok ((.invokespecial 25), 3)) rfl (fun _ _ => rfl) (o_G_init (d + 0) (w.2.2.length) w4) (fun _ _ => rfl) (fun r6 h7 => ?_)
      refine ok_sx (by decide +kernel : decode m_F_init.2.1 44 = .ok (.aastore, 1)) (fun w8 h9 => ?_)
      refine ok_seg (L := [((.iinc 3 1), 3)]) (pc' := 48) (ls' := [some (.ref x0), y1, some (.int x2), some (.int (x3 + 1))]) (st' := []) (w' := w8) (by decide +kernel) rfl ?_
      refine ok_goto (t := 27) (by decide +kernel : decode m_F_init.2.1 48 = .ok ((.goto (-21)), 3)) rfl ?_
      exact ih x0 x2 (x3 + 1) y1 w8
theorem o_F_init (d : Nat) (x0 : Nat) (x1 : Int32) (w : am_W) : am_Ok am_jv (d + 1) m_F_init 0 (am_en m_F_init [.ref x0, .int x1]) [] w (f_F_init x0 x1 w) := by
  show am_Ok _ _ _ 0 [some (.ref x0), some (.int x1), none, none] [] w _
  unfold f_F_init
  unfold e_F_init
  refine ok_seg (L := [((.aload_n 0), 1), ((.invokespecial 1), 3), ((.iload_n 1), 1), ((.iconst 0), 1), ((.invokestatic 7), 3), ((.istore_n 2), 1), ((.aload_n 0), 1), ((.iload_n 2), 1)]) (pc' := 12) (ls' := [some (.ref x0), some (.int x1), some (.int (am_max x1 0)), none]) (st' := [.int (am_max x1 0), .ref x0]) (w' := w) (by decide +kernel) rfl ?_
  refine ok_nq (by decide +kernel : decode m_F_init.2.1 12 = .ok ((.anewarray 13), 3)) rfl (fun w10 h11 => ?_)
  refine ok_pr (by decide +kernel : decode m_F_init.2.1 15 = .ok ((.putfield 15), 3)) rfl (by decide) (fun w12 h13 => ?_)
  refine ok_seg (L := [((.aload_n 0), 1), ((.iload_n 2), 1)]) (pc' := 20) (ls' := [some (.ref x0), some (.int x1), some (.int (am_max x1 0)), none]) (st' := [.int (am_max x1 0), .ref x0]) (w' := w12) (by decide +kernel) rfl ?_
  refine ok_na (by decide +kernel : decode m_F_init.2.1 20 = .ok ((.newarray .boolean), 2)) (by decide) (fun w14 h15 => ?_)
  refine ok_pr (by decide +kernel : decode m_F_init.2.1 22 = .ok ((.putfield 21), 3)) rfl (by decide) (fun w16 h17 => ?_)
  refine ok_seg (L := [((.iconst 0), 1), ((.istore_n 3), 1)]) (pc' := 27) (ls' := [some (.ref x0), some (.int x1), some (.int (am_max x1 0)), some (.int 0)]) (st' := []) (w' := w16) (by decide +kernel) rfl ?_
  exact o_F_init_p27 am_N x0 (am_max x1 0) 0 (some (.int x1)) w16
-- m_H_init
def e_H_init (x0 : Nat) (w : am_W) : Option (am_W × Unit) := ((am_nw w (.inr (5, am_d5)) 2).bind fun w1 => ((f_F_init (w.2.2.length) (8) w1).bind fun r3 => ((am_pv r3.1 x0 2 0 (.ref w.2.2.length)).bind fun w5 => ((am_pv w5 x0 2 1 (.int 0)).bind fun w7 => ((am_pv w7 x0 2 2 (.int 0)).bind fun w9 => (some (w9, ())))))))
def f_H_init (x0 : Nat) (w : am_W) : Option (am_W × Unit) := e_H_init x0 w
theorem o_H_init (d : Nat) (x0 : Nat) (w : am_W) : am_Ok am_jv (d + 2) m_H_init 0 (am_en m_H_init [.ref x0]) [] w (f_H_init x0 w) := by
  show am_Ok _ _ _ 0 [some (.ref x0)] [] w _
  unfold f_H_init
  unfold e_H_init
  refine ok_seg (L := [((.aload_n 0), 1), ((.invokespecial 3), 3), ((.aload_n 0), 1)]) (pc' := 5) (ls' := [some (.ref x0)]) (st' := [.ref x0]) (w' := w) (by decide +kernel) rfl ?_
  refine ok_new (fs := am_d5) (by decide +kernel : decode m_H_init.2.1 5 = .ok ((.new 9), 3)) rfl rfl rfl rfl (fun w1 h2 => ?_)
  refine ok_seg (L := [(.dup, 1), ((.bipush 8), 2)]) (pc' := 11) (ls' := [some (.ref x0)]) (st' := [.int 8, .ref w.2.2.length, .ref w.2.2.length, .ref x0]) (w' := w1) (by decide +kernel) rfl ?_
  refine ok_call0 (inj' := am_jv) (by decide +kernel : decode m_H_init.2.1 11 = .ok ((.invokespecial 11), 3)) rfl (fun _ _ => rfl) (o_F_init (d + 0) (w.2.2.length) (8) w1) (fun _ _ => rfl) (fun r3 h4 => ?_)
  refine ok_pr (by decide +kernel : decode m_H_init.2.1 14 = .ok ((.putfield 14), 3)) rfl (by decide) (fun w5 h6 => ?_)
  refine ok_seg (L := [((.aload_n 0), 1), ((.iconst 0), 1)]) (pc' := 19) (ls' := [some (.ref x0)]) (st' := [.int 0, .ref x0]) (w' := w5) (by decide +kernel) rfl ?_
  refine ok_pi (by decide +kernel : decode m_H_init.2.1 19 = .ok ((.putfield 20), 3)) rfl (fun w7 h8 => ?_)
  refine ok_seg (L := [((.aload_n 0), 1), ((.iconst 0), 1)]) (pc' := 24) (ls' := [some (.ref x0)]) (st' := [.int 0, .ref x0]) (w' := w7) (by decide +kernel) rfl ?_
  refine ok_pi (by decide +kernel : decode m_H_init.2.1 24 = .ok ((.putfield 24), 3)) rfl (fun w9 h10 => ?_)
  exact ok_ret (v := ()) (by decide +kernel : decode m_H_init.2.1 27 = .ok (.return_, 1)) rfl
-- m_R_init
def e_R_init (x0 : Nat) (w : am_W) : Option (am_W × Unit) := ((am_nw w (.inr (1, am_d1)) 4).bind fun w1 => ((f_G_init (w.2.2.length) w1).bind fun r3 => ((am_pv r3.1 x0 3 0 (.ref w.2.2.length)).bind fun w5 => ((am_pv w5 x0 3 1 (.int 0)).bind fun w7 => ((am_pv w7 x0 3 2 (.int 0)).bind fun w9 => ((am_pv w9 x0 3 3 (.int 0)).bind fun w11 => ((am_pv w11 x0 3 4 (.int 0)).bind fun w13 => ((am_pv w13 x0 3 5 (.int 0)).bind fun w15 => ((am_pv w15 x0 3 6 (.int 0)).bind fun w17 => ((am_pv w17 x0 3 7 (.int 0)).bind fun w19 => (some (w19, ()))))))))))))
def f_R_init (x0 : Nat) (w : am_W) : Option (am_W × Unit) := e_R_init x0 w
theorem o_R_init (d : Nat) (x0 : Nat) (w : am_W) : am_Ok am_jv (d + 1) m_R_init 0 (am_en m_R_init [.ref x0]) [] w (f_R_init x0 w) := by
  show am_Ok _ _ _ 0 [some (.ref x0)] [] w _
  unfold f_R_init
  unfold e_R_init
  refine ok_seg (L := [((.aload_n 0), 1), ((.invokespecial 3), 3), ((.aload_n 0), 1)]) (pc' := 5) (ls' := [some (.ref x0)]) (st' := [.ref x0]) (w' := w) (by decide +kernel) rfl ?_
  refine ok_new (fs := am_d1) (by decide +kernel : decode m_R_init.2.1 5 = .ok ((.new 9), 3)) rfl rfl rfl rfl (fun w1 h2 => ?_)
  refine ok_seg (L := [(.dup, 1)]) (pc' := 9) (ls' := [some (.ref x0)]) (st' := [.ref w.2.2.length, .ref w.2.2.length, .ref x0]) (w' := w1) (by decide +kernel) rfl ?_
  refine ok_call0 (inj' := am_jv) (by decide +kernel : decode m_R_init.2.1 9 = .ok ((.invokespecial 11), 3)) rfl (fun _ _ => rfl) (o_G_init (d + 0) (w.2.2.length) w1) (fun _ _ => rfl) (fun r3 h4 => ?_)
  refine ok_pr (by decide +kernel : decode m_R_init.2.1 12 = .ok ((.putfield 12), 3)) rfl (by decide) (fun w5 h6 => ?_)
  refine ok_seg (L := [((.aload_n 0), 1), ((.iconst 0), 1)]) (pc' := 17) (ls' := [some (.ref x0)]) (st' := [.int 0, .ref x0]) (w' := w5) (by decide +kernel) rfl ?_
  refine ok_pi (by decide +kernel : decode m_R_init.2.1 17 = .ok ((.putfield 18), 3)) rfl (fun w7 h8 => ?_)
  refine ok_seg (L := [((.aload_n 0), 1), ((.iconst 0), 1)]) (pc' := 22) (ls' := [some (.ref x0)]) (st' := [.int 0, .ref x0]) (w' := w7) (by decide +kernel) rfl ?_
  refine ok_pi (by decide +kernel : decode m_R_init.2.1 22 = .ok ((.putfield 22), 3)) rfl (fun w9 h10 => ?_)
  refine ok_seg (L := [((.aload_n 0), 1), ((.iconst 0), 1)]) (pc' := 27) (ls' := [some (.ref x0)]) (st' := [.int 0, .ref x0]) (w' := w9) (by decide +kernel) rfl ?_
  refine ok_pi (by decide +kernel : decode m_R_init.2.1 27 = .ok ((.putfield 25), 3)) rfl (fun w11 h12 => ?_)
  refine ok_seg (L := [((.aload_n 0), 1), ((.iconst 0), 1)]) (pc' := 32) (ls' := [some (.ref x0)]) (st' := [.int 0, .ref x0]) (w' := w11) (by decide +kernel) rfl ?_
  refine ok_pi (by decide +kernel : decode m_R_init.2.1 32 = .ok ((.putfield 28), 3)) rfl (fun w13 h14 => ?_)
  refine ok_seg (L := [((.aload_n 0), 1), ((.iconst 0), 1)]) (pc' := 37) (ls' := [some (.ref x0)]) (st' := [.int 0, .ref x0]) (w' := w13) (by decide +kernel) rfl ?_
  refine ok_pi (by decide +kernel : decode m_R_init.2.1 37 = .ok ((.putfield 31), 3)) rfl (fun w15 h16 => ?_)
  refine ok_seg (L := [((.aload_n 0), 1), ((.iconst 0), 1)]) (pc' := 42) (ls' := [some (.ref x0)]) (st' := [.int 0, .ref x0]) (w' := w15) (by decide +kernel) rfl ?_
  refine ok_pi (by decide +kernel : decode m_R_init.2.1 42 = .ok ((.putfield 34), 3)) rfl (fun w17 h18 => ?_)
  refine ok_seg (L := [((.aload_n 0), 1), ((.iconst 0), 1)]) (pc' := 47) (ls' := [some (.ref x0)]) (st' := [.int 0, .ref x0]) (w' := w17) (by decide +kernel) rfl ?_
  refine ok_pi (by decide +kernel : decode m_R_init.2.1 47 = .ok ((.putfield 37), 3)) rfl (fun w19 h20 => ?_)
  exact ok_ret (v := ()) (by decide +kernel : decode m_R_init.2.1 50 = .ok (.return_, 1)) rfl
-- m_S_init
def e_S_init (x0 : Nat) (w : am_W) : Option (am_W × Unit) := ((am_nw w (.inr (1, am_d1)) 4).bind fun w1 => ((f_G_init (w.2.2.length) w1).bind fun r3 => ((am_pv r3.1 x0 4 0 (.ref w.2.2.length)).bind fun w5 => ((am_nw w5 (.inr (1, am_d1)) 4).bind fun w7 => ((f_G_init (w5.2.2.length) w7).bind fun r9 => ((am_pv r9.1 x0 4 1 (.ref w5.2.2.length)).bind fun w11 => ((am_na w11 0 64).bind fun w13 => ((am_pv w13 x0 4 2 (.ref w11.2.2.length)).bind fun w15 => ((am_pv w15 x0 4 3 (.int 0)).bind fun w17 => ((am_pv w17 x0 4 4 (.int 0)).bind fun w19 => ((am_pv w19 x0 4 5 (.int 0)).bind fun w21 => (some (w21, ())))))))))))))
def f_S_init (x0 : Nat) (w : am_W) : Option (am_W × Unit) := e_S_init x0 w
theorem o_S_init (d : Nat) (x0 : Nat) (w : am_W) : am_Ok am_jv (d + 1) m_S_init 0 (am_en m_S_init [.ref x0]) [] w (f_S_init x0 w) := by
  show am_Ok _ _ _ 0 [some (.ref x0)] [] w _
  unfold f_S_init
  unfold e_S_init
  refine ok_seg (L := [((.aload_n 0), 1), ((.invokespecial 3), 3), ((.aload_n 0), 1)]) (pc' := 5) (ls' := [some (.ref x0)]) (st' := [.ref x0]) (w' := w) (by decide +kernel) rfl ?_
  refine ok_new (fs := am_d1) (by decide +kernel : decode m_S_init.2.1 5 = .ok ((.new 9), 3)) rfl rfl rfl rfl (fun w1 h2 => ?_)
  refine ok_seg (L := [(.dup, 1)]) (pc' := 9) (ls' := [some (.ref x0)]) (st' := [.ref w.2.2.length, .ref w.2.2.length, .ref x0]) (w' := w1) (by decide +kernel) rfl ?_
  refine ok_call0 (inj' := am_jv) (by decide +kernel : decode m_S_init.2.1 9 = .ok ((.invokespecial 11), 3)) rfl (fun _ _ => rfl) (o_G_init (d + 0) (w.2.2.length) w1) (fun _ _ => rfl) (fun r3 h4 => ?_)
  refine ok_pr (by decide +kernel : decode m_S_init.2.1 12 = .ok ((.putfield 12), 3)) rfl (by decide) (fun w5 h6 => ?_)
  refine ok_seg (L := [((.aload_n 0), 1)]) (pc' := 16) (ls' := [some (.ref x0)]) (st' := [.ref x0]) (w' := w5) (by decide +kernel) rfl ?_
  refine ok_new (fs := am_d1) (by decide +kernel : decode m_S_init.2.1 16 = .ok ((.new 9), 3)) rfl rfl rfl rfl (fun w7 h8 => ?_)
  refine ok_seg (L := [(.dup, 1)]) (pc' := 20) (ls' := [some (.ref x0)]) (st' := [.ref w5.2.2.length, .ref w5.2.2.length, .ref x0]) (w' := w7) (by decide +kernel) rfl ?_
  refine ok_call0 (inj' := am_jv) (by decide +kernel : decode m_S_init.2.1 20 = .ok ((.invokespecial 11), 3)) rfl (fun _ _ => rfl) (o_G_init (d + 0) (w5.2.2.length) w7) (fun _ _ => rfl) (fun r9 h10 => ?_)
  refine ok_pr (by decide +kernel : decode m_S_init.2.1 23 = .ok ((.putfield 18), 3)) rfl (by decide) (fun w11 h12 => ?_)
  refine ok_seg (L := [((.aload_n 0), 1), ((.bipush 64), 2)]) (pc' := 29) (ls' := [some (.ref x0)]) (st' := [.int 64, .ref x0]) (w' := w11) (by decide +kernel) rfl ?_
  refine ok_na (by decide +kernel : decode m_S_init.2.1 29 = .ok ((.newarray .int), 2)) (by decide) (fun w13 h14 => ?_)
  refine ok_pr (by decide +kernel : decode m_S_init.2.1 31 = .ok ((.putfield 21), 3)) rfl (by decide) (fun w15 h16 => ?_)
  refine ok_seg (L := [((.aload_n 0), 1), ((.iconst 0), 1)]) (pc' := 36) (ls' := [some (.ref x0)]) (st' := [.int 0, .ref x0]) (w' := w15) (by decide +kernel) rfl ?_
  refine ok_pi (by decide +kernel : decode m_S_init.2.1 36 = .ok ((.putfield 25), 3)) rfl (fun w17 h18 => ?_)
  refine ok_seg (L := [((.aload_n 0), 1), ((.iconst 0), 1)]) (pc' := 41) (ls' := [some (.ref x0)]) (st' := [.int 0, .ref x0]) (w' := w17) (by decide +kernel) rfl ?_
  refine ok_pi (by decide +kernel : decode m_S_init.2.1 41 = .ok ((.putfield 29), 3)) rfl (fun w19 h20 => ?_)
  refine ok_seg (L := [((.aload_n 0), 1), ((.iconst 0), 1)]) (pc' := 46) (ls' := [some (.ref x0)]) (st' := [.int 0, .ref x0]) (w' := w19) (by decide +kernel) rfl ?_
  refine ok_pi (by decide +kernel : decode m_S_init.2.1 46 = .ok ((.putfield 32), 3)) rfl (fun w21 h22 => ?_)
  exact ok_ret (v := ()) (by decide +kernel : decode m_S_init.2.1 49 = .ok (.return_, 1)) rfl
-- m_T_init
def e_T_init (x0 : Nat) (w : am_W) : Option (am_W × Unit) := ((am_na w 0 440).bind fun w1 => ((am_pv w1 x0 6 0 (.ref w.2.2.length)).bind fun w3 => ((am_pv w3 x0 6 1 (.int 0)).bind fun w5 => (some (w5, ())))))
def f_T_init (x0 : Nat) (w : am_W) : Option (am_W × Unit) := e_T_init x0 w
theorem o_T_init (d : Nat) (x0 : Nat) (w : am_W) : am_Ok am_jv (d + 0) m_T_init 0 (am_en m_T_init [.ref x0]) [] w (f_T_init x0 w) := by
  show am_Ok _ _ _ 0 [some (.ref x0)] [] w _
  unfold f_T_init
  unfold e_T_init
  refine ok_seg (L := [((.aload_n 0), 1), ((.invokespecial 3), 3), ((.aload_n 0), 1), ((.sipush 440), 3)]) (pc' := 8) (ls' := [some (.ref x0)]) (st' := [.int 440, .ref x0]) (w' := w) (by decide +kernel) rfl ?_
  refine ok_na (by decide +kernel : decode m_T_init.2.1 8 = .ok ((.newarray .int), 2)) (by decide) (fun w1 h2 => ?_)
  refine ok_pr (by decide +kernel : decode m_T_init.2.1 10 = .ok ((.putfield 9), 3)) rfl (by decide) (fun w3 h4 => ?_)
  refine ok_seg (L := [((.aload_n 0), 1), ((.iconst 0), 1)]) (pc' := 15) (ls' := [some (.ref x0)]) (st' := [.int 0, .ref x0]) (w' := w3) (by decide +kernel) rfl ?_
  refine ok_pi (by decide +kernel : decode m_T_init.2.1 15 = .ok ((.putfield 15), 3)) rfl (fun w5 h6 => ?_)
  exact ok_ret (v := ()) (by decide +kernel : decode m_T_init.2.1 18 = .ok (.return_, 1)) rfl
-- m_C_init
def e_C_init (x0 : Nat) (w : am_W) : Option (am_W × Unit) := ((am_nw w (.inr (6, am_d6)) 2).bind fun w1 => ((f_T_init (w.2.2.length) w1).bind fun r3 => ((am_pv r3.1 x0 0 0 (.ref w.2.2.length)).bind fun w5 => ((am_nw w5 (.inr (1, am_d1)) 4).bind fun w7 => ((f_G_init (w5.2.2.length) w7).bind fun r9 => ((am_pv r9.1 x0 0 1 (.ref w5.2.2.length)).bind fun w11 => ((am_nw w11 (.inr (1, am_d1)) 4).bind fun w13 => ((f_G_init (w11.2.2.length) w13).bind fun r15 => ((am_pv r15.1 x0 0 2 (.ref w11.2.2.length)).bind fun w17 => ((am_nw w17 (.inr (3, am_d3)) 8).bind fun w19 => ((f_R_init (w17.2.2.length) w19).bind fun r21 => ((am_pv r21.1 x0 0 3 (.ref w17.2.2.length)).bind fun w23 => ((am_nw w23 (.inr (4, am_d4)) 6).bind fun w25 => ((f_S_init (w23.2.2.length) w25).bind fun r27 => ((am_pv r27.1 x0 0 4 (.ref w23.2.2.length)).bind fun w29 => ((am_nw w29 (.inr (2, am_d2)) 3).bind fun w31 => ((f_H_init (w29.2.2.length) w31).bind fun r33 => ((am_pv r33.1 x0 0 5 (.ref w29.2.2.length)).bind fun w35 => ((am_nw w35 (.inr (5, am_d5)) 2).bind fun w37 => ((f_F_init (w35.2.2.length) (2) w37).bind fun r39 => ((am_pv r39.1 x0 0 6 (.ref w35.2.2.length)).bind fun w41 => ((am_pv w41 x0 0 7 (.int 0)).bind fun w43 => (some (w43, ()))))))))))))))))))))))))
def f_C_init (x0 : Nat) (w : am_W) : Option (am_W × Unit) := e_C_init x0 w
theorem o_C_init (d : Nat) (x0 : Nat) (w : am_W) : am_Ok am_jv (d + 3) m_C_init 0 (am_en m_C_init [.ref x0]) [] w (f_C_init x0 w) := by
  show am_Ok _ _ _ 0 [some (.ref x0)] [] w _
  unfold f_C_init
  unfold e_C_init
  refine ok_seg (L := [((.aload_n 0), 1), ((.invokespecial 1), 3), ((.aload_n 0), 1)]) (pc' := 5) (ls' := [some (.ref x0)]) (st' := [.ref x0]) (w' := w) (by decide +kernel) rfl ?_
  refine ok_new (fs := am_d6) (by decide +kernel : decode m_C_init.2.1 5 = .ok ((.new 7), 3)) rfl rfl rfl rfl (fun w1 h2 => ?_)
  refine ok_seg (L := [(.dup, 1)]) (pc' := 9) (ls' := [some (.ref x0)]) (st' := [.ref w.2.2.length, .ref w.2.2.length, .ref x0]) (w' := w1) (by decide +kernel) rfl ?_
  refine ok_call0 (inj' := am_jv) (by decide +kernel : decode m_C_init.2.1 9 = .ok ((.invokespecial 9), 3)) rfl (fun _ _ => rfl) (o_T_init (d + 2) (w.2.2.length) w1) (fun _ _ => rfl) (fun r3 h4 => ?_)
  refine ok_pr (by decide +kernel : decode m_C_init.2.1 12 = .ok ((.putfield 10), 3)) rfl (by decide) (fun w5 h6 => ?_)
  refine ok_seg (L := [((.aload_n 0), 1)]) (pc' := 16) (ls' := [some (.ref x0)]) (st' := [.ref x0]) (w' := w5) (by decide +kernel) rfl ?_
  refine ok_new (fs := am_d1) (by decide +kernel : decode m_C_init.2.1 16 = .ok ((.new 16), 3)) rfl rfl rfl rfl (fun w7 h8 => ?_)
  refine ok_seg (L := [(.dup, 1)]) (pc' := 20) (ls' := [some (.ref x0)]) (st' := [.ref w5.2.2.length, .ref w5.2.2.length, .ref x0]) (w' := w7) (by decide +kernel) rfl ?_
  refine ok_call0 (inj' := am_jv) (by decide +kernel : decode m_C_init.2.1 20 = .ok ((.invokespecial 18), 3)) rfl (fun _ _ => rfl) (o_G_init (d + 2) (w5.2.2.length) w7) (fun _ _ => rfl) (fun r9 h10 => ?_)
  refine ok_pr (by decide +kernel : decode m_C_init.2.1 23 = .ok ((.putfield 19), 3)) rfl (by decide) (fun w11 h12 => ?_)
  refine ok_seg (L := [((.aload_n 0), 1)]) (pc' := 27) (ls' := [some (.ref x0)]) (st' := [.ref x0]) (w' := w11) (by decide +kernel) rfl ?_
  refine ok_new (fs := am_d1) (by decide +kernel : decode m_C_init.2.1 27 = .ok ((.new 16), 3)) rfl rfl rfl rfl (fun w13 h14 => ?_)
  refine ok_seg (L := [(.dup, 1)]) (pc' := 31) (ls' := [some (.ref x0)]) (st' := [.ref w11.2.2.length, .ref w11.2.2.length, .ref x0]) (w' := w13) (by decide +kernel) rfl ?_
  refine ok_call0 (inj' := am_jv) (by decide +kernel : decode m_C_init.2.1 31 = .ok ((.invokespecial 18), 3)) rfl (fun _ _ => rfl) (o_G_init (d + 2) (w11.2.2.length) w13) (fun _ _ => rfl) (fun r15 h16 => ?_)
  refine ok_pr (by decide +kernel : decode m_C_init.2.1 34 = .ok ((.putfield 23), 3)) rfl (by decide) (fun w17 h18 => ?_)
  refine ok_seg (L := [((.aload_n 0), 1)]) (pc' := 38) (ls' := [some (.ref x0)]) (st' := [.ref x0]) (w' := w17) (by decide +kernel) rfl ?_
  refine ok_new (fs := am_d3) (by decide +kernel : decode m_C_init.2.1 38 = .ok ((.new 26), 3)) rfl rfl rfl rfl (fun w19 h20 => ?_)
  refine ok_seg (L := [(.dup, 1)]) (pc' := 42) (ls' := [some (.ref x0)]) (st' := [.ref w17.2.2.length, .ref w17.2.2.length, .ref x0]) (w' := w19) (by decide +kernel) rfl ?_
  refine ok_call0 (inj' := am_jv) (by decide +kernel : decode m_C_init.2.1 42 = .ok ((.invokespecial 28), 3)) rfl (fun _ _ => rfl) (o_R_init (d + 1) (w17.2.2.length) w19) (fun _ _ => rfl) (fun r21 h22 => ?_)
  refine ok_pr (by decide +kernel : decode m_C_init.2.1 45 = .ok ((.putfield 29), 3)) rfl (by decide) (fun w23 h24 => ?_)
  refine ok_seg (L := [((.aload_n 0), 1)]) (pc' := 49) (ls' := [some (.ref x0)]) (st' := [.ref x0]) (w' := w23) (by decide +kernel) rfl ?_
  refine ok_new (fs := am_d4) (by decide +kernel : decode m_C_init.2.1 49 = .ok ((.new 33), 3)) rfl rfl rfl rfl (fun w25 h26 => ?_)
  refine ok_seg (L := [(.dup, 1)]) (pc' := 53) (ls' := [some (.ref x0)]) (st' := [.ref w23.2.2.length, .ref w23.2.2.length, .ref x0]) (w' := w25) (by decide +kernel) rfl ?_
  refine ok_call0 (inj' := am_jv) (by decide +kernel : decode m_C_init.2.1 53 = .ok ((.invokespecial 35), 3)) rfl (fun _ _ => rfl) (o_S_init (d + 1) (w23.2.2.length) w25) (fun _ _ => rfl) (fun r27 h28 => ?_)
  refine ok_pr (by decide +kernel : decode m_C_init.2.1 56 = .ok ((.putfield 36), 3)) rfl (by decide) (fun w29 h30 => ?_)
  refine ok_seg (L := [((.aload_n 0), 1)]) (pc' := 60) (ls' := [some (.ref x0)]) (st' := [.ref x0]) (w' := w29) (by decide +kernel) rfl ?_
  refine ok_new (fs := am_d2) (by decide +kernel : decode m_C_init.2.1 60 = .ok ((.new 40), 3)) rfl rfl rfl rfl (fun w31 h32 => ?_)
  refine ok_seg (L := [(.dup, 1)]) (pc' := 64) (ls' := [some (.ref x0)]) (st' := [.ref w29.2.2.length, .ref w29.2.2.length, .ref x0]) (w' := w31) (by decide +kernel) rfl ?_
  refine ok_call0 (inj' := am_jv) (by decide +kernel : decode m_C_init.2.1 64 = .ok ((.invokespecial 42), 3)) rfl (fun _ _ => rfl) (o_H_init (d + 0) (w29.2.2.length) w31) (fun _ _ => rfl) (fun r33 h34 => ?_)
  refine ok_pr (by decide +kernel : decode m_C_init.2.1 67 = .ok ((.putfield 43), 3)) rfl (by decide) (fun w35 h36 => ?_)
  refine ok_seg (L := [((.aload_n 0), 1)]) (pc' := 71) (ls' := [some (.ref x0)]) (st' := [.ref x0]) (w' := w35) (by decide +kernel) rfl ?_
  refine ok_new (fs := am_d5) (by decide +kernel : decode m_C_init.2.1 71 = .ok ((.new 47), 3)) rfl rfl rfl rfl (fun w37 h38 => ?_)
  refine ok_seg (L := [(.dup, 1), ((.iconst 2), 1)]) (pc' := 76) (ls' := [some (.ref x0)]) (st' := [.int 2, .ref w35.2.2.length, .ref w35.2.2.length, .ref x0]) (w' := w37) (by decide +kernel) rfl ?_
  refine ok_call0 (inj' := am_jv) (by decide +kernel : decode m_C_init.2.1 76 = .ok ((.invokespecial 49), 3)) rfl (fun _ _ => rfl) (o_F_init (d + 1) (w35.2.2.length) (2) w37) (fun _ _ => rfl) (fun r39 h40 => ?_)
  refine ok_pr (by decide +kernel : decode m_C_init.2.1 79 = .ok ((.putfield 52), 3)) rfl (by decide) (fun w41 h42 => ?_)
  refine ok_seg (L := [((.aload_n 0), 1), ((.iconst 0), 1)]) (pc' := 84) (ls' := [some (.ref x0)]) (st' := [.int 0, .ref x0]) (w' := w41) (by decide +kernel) rfl ?_
  refine ok_pi (by decide +kernel : decode m_C_init.2.1 84 = .ok ((.putfield 56), 3)) rfl (fun w43 h44 => ?_)
  exact ok_ret (v := ()) (by decide +kernel : decode m_C_init.2.1 87 = .ok (.return_, 1)) rfl
-- m_T_append
def f_T_append_p52 (k3 : Nat → Int32 → Int32 → am_W → Option (am_W × Unit)) (x0 : Nat) (x1 : Int32) (x2 : Int32) (w : am_W) : Option (am_W × Unit) := (k3 x0 x1 (x2 + (-8)) w)
def f_T_append_p3 : Nat → Nat → Int32 → Int32 → am_W → Option (am_W × Unit)
  | 0, _, _, _, _ => none
  | n + 1, x0, x1, x2, w => (if x2 < 0 then (some (w, ())) else ((am_gi w x0 6 1).bind fun v2 => (if v2 < 0 then (f_T_append_p52 (f_T_append_p3 n) x0 x1 x2 w) else ((am_gi w x0 6 1).bind fun v5 => ((am_gr w x0 6 0).bind fun v7 => ((am_al w v7).bind fun v9 => (if v9 ≤ v5 then (f_T_append_p52 (f_T_append_p3 n) x0 x1 x2 w) else ((am_gr w x0 6 0).bind fun v12 => ((am_gi w x0 6 1).bind fun v14 => ((am_si w v12 v14 ((am_iu x1 x2) &&& 255)).bind fun w16 => ((am_gi w16 x0 6 1).bind fun v18 => ((am_pv w16 x0 6 1 (.int (v18 + 1))).bind fun w20 => (f_T_append_p52 (f_T_append_p3 n) x0 x1 x2 w20)))))))))))))
def e_T_append (x0 : Nat) (x1 : Int32) (w : am_W) : Option (am_W × Unit) := (f_T_append_p3 am_N x0 x1 24 w)
def f_T_append (x0 : Nat) (x1 : Int32) (w : am_W) : Option (am_W × Unit) := am_self w x0 6 (e_T_append x0 x1 w)
theorem o_T_append_p52 {d : Nat} {k3 : Nat → Int32 → Int32 → am_W → Option (am_W × Unit)} (hk3 : ∀ (x0 : Nat) (x1 : Int32) (x2 : Int32) (w : am_W), am_Ok am_jv (d + 0) m_T_append 3 [some (.ref x0), some (.int x1), some (.int x2)] [] w (k3 x0 x1 x2 w)) (x0 : Nat) (x1 : Int32) (x2 : Int32) (w : am_W) : am_Ok am_jv (d + 0) m_T_append 52 [some (.ref x0), some (.int x1), some (.int x2)] [] w (f_T_append_p52 k3 x0 x1 x2 w) := by
  unfold f_T_append_p52
  refine ok_seg (L := [((.iinc 2 (-8)), 3)]) (pc' := 55) (ls' := [some (.ref x0), some (.int x1), some (.int (x2 + (-8)))]) (st' := []) (w' := w) (by decide +kernel) rfl ?_
  refine ok_goto (t := 3) (by decide +kernel : decode m_T_append.2.1 55 = .ok ((.goto (-52)), 3)) rfl ?_
  exact hk3 x0 x1 (x2 + (-8)) w
theorem o_T_append_p3 {d : Nat} : ∀ (n : Nat) (x0 : Nat) (x1 : Int32) (x2 : Int32) (w : am_W), am_Ok am_jv (d + 0) m_T_append 3 [some (.ref x0), some (.int x1), some (.int x2)] [] w (f_T_append_p3 n x0 x1 x2 w) := by
  intro n
  induction n with
  | zero => intros; exact ok_none
  | succ n ih =>
    intro x0 x1 x2 w
    unfold f_T_append_p3
    refine ok_seg (L := [((.iload_n 2), 1)]) (pc' := 4) (ls' := [some (.ref x0), some (.int x1), some (.int x2)]) (st' := [.int x2]) (w' := w) (by decide +kernel) rfl ?_
    refine ok_br (P := x2 < 0) (off := 54) (t := 58) (by decide +kernel : decode m_T_append.2.1 4 = .ok ((.ifCond .lt 54), 3)) rfl rfl rfl rfl (fun c1 => ?_) (fun c1 => ?_)
    · skip
      exact ok_ret (v := ()) (by decide +kernel : decode m_T_append.2.1 58 = .ok (.return_, 1)) rfl
    · skip
      refine ok_seg (L := [((.aload_n 0), 1)]) (pc' := 8) (ls' := [some (.ref x0), some (.int x1), some (.int x2)]) (st' := [.ref x0]) (w' := w) (by decide +kernel) rfl ?_
      refine ok_gi (by decide +kernel : decode m_T_append.2.1 8 = .ok ((.getfield 15), 3)) rfl (fun v2 h3 => ?_)
      refine ok_br (P := v2 < 0) (off := 41) (t := 52) (by decide +kernel : decode m_T_append.2.1 11 = .ok ((.ifCond .lt 41), 3)) rfl rfl rfl rfl (fun c4 => ?_) (fun c4 => ?_)
      · skip
        exact o_T_append_p52 ih x0 x1 x2 w
      · skip
        refine ok_seg (L := [((.aload_n 0), 1)]) (pc' := 15) (ls' := [some (.ref x0), some (.int x1), some (.int x2)]) (st' := [.ref x0]) (w' := w) (by decide +kernel) rfl ?_
        refine ok_gi (by decide +kernel : decode m_T_append.2.1 15 = .ok ((.getfield 15), 3)) rfl (fun v5 h6 => ?_)
        refine ok_seg (L := [((.aload_n 0), 1)]) (pc' := 19) (ls' := [some (.ref x0), some (.int x1), some (.int x2)]) (st' := [.ref x0, .int v5]) (w' := w) (by decide +kernel) rfl ?_
        refine ok_gr (by decide +kernel : decode m_T_append.2.1 19 = .ok ((.getfield 9), 3)) rfl (by decide) (fun v7 h8 => ?_)
        refine ok_al (by decide +kernel : decode m_T_append.2.1 22 = .ok (.arraylength, 1)) (fun v9 h10 => ?_)
        refine ok_br (P := v9 ≤ v5) (off := 29) (t := 52) (by decide +kernel : decode m_T_append.2.1 23 = .ok ((.if_icmp .ge 29), 3)) rfl rfl rfl rfl (fun c11 => ?_) (fun c11 => ?_)
        · skip
          exact o_T_append_p52 ih x0 x1 x2 w
        · skip
          refine ok_seg (L := [((.aload_n 0), 1)]) (pc' := 27) (ls' := [some (.ref x0), some (.int x1), some (.int x2)]) (st' := [.ref x0]) (w' := w) (by decide +kernel) rfl ?_
          refine ok_gr (by decide +kernel : decode m_T_append.2.1 27 = .ok ((.getfield 9), 3)) rfl (by decide) (fun v12 h13 => ?_)
          refine ok_seg (L := [((.aload_n 0), 1)]) (pc' := 31) (ls' := [some (.ref x0), some (.int x1), some (.int x2)]) (st' := [.ref x0, .ref v12]) (w' := w) (by decide +kernel) rfl ?_
          refine ok_gi (by decide +kernel : decode m_T_append.2.1 31 = .ok ((.getfield 15), 3)) rfl (fun v14 h15 => ?_)
          refine ok_seg (L := [((.iload_n 1), 1), ((.iload_n 2), 1), (.iushr, 1), ((.sipush 255), 3), (.iand, 1)]) (pc' := 41) (ls' := [some (.ref x0), some (.int x1), some (.int x2)]) (st' := [.int ((am_iu x1 x2) &&& 255), .int v14, .ref v12]) (w' := w) (by decide +kernel) rfl ?_
          refine ok_si (by decide +kernel : decode m_T_append.2.1 41 = .ok (.iastore, 1)) (fun w16 h17 => ?_)
          refine ok_seg (L := [((.aload_n 0), 1), (.dup, 1)]) (pc' := 44) (ls' := [some (.ref x0), some (.int x1), some (.int x2)]) (st' := [.ref x0, .ref x0]) (w' := w16) (by decide +kernel) rfl ?_
          refine ok_gi (by decide +kernel : decode m_T_append.2.1 44 = .ok ((.getfield 15), 3)) rfl (fun v18 h19 => ?_)
          refine ok_seg (L := [((.iconst 1), 1), (.iadd, 1)]) (pc' := 49) (ls' := [some (.ref x0), some (.int x1), some (.int x2)]) (st' := [.int (v18 + 1), .ref x0]) (w' := w16) (by decide +kernel) rfl ?_
          refine ok_pi (by decide +kernel : decode m_T_append.2.1 49 = .ok ((.putfield 15), 3)) rfl (fun w20 h21 => ?_)
          exact o_T_append_p52 ih x0 x1 x2 w20
theorem o_T_append (d : Nat) (x0 : Nat) (x1 : Int32) (w : am_W) : am_Ok am_jv (d + 0) m_T_append 0 (am_en m_T_append [.ref x0, .int x1]) [] w (f_T_append x0 x1 w) := by
  show am_Ok _ _ _ 0 [some (.ref x0), some (.int x1), none] [] w _
  unfold f_T_append
  refine ok_self ?_
  unfold e_T_append
  refine ok_seg (L := [((.bipush 24), 2), ((.istore_n 2), 1)]) (pc' := 3) (ls' := [some (.ref x0), some (.int x1), some (.int 24)]) (st' := []) (w' := w) (by decide +kernel) rfl ?_
  exact o_T_append_p3 am_N x0 x1 24 w
-- m_T_length
def e_T_length (x0 : Nat) (w : am_W) : Option (am_W × Int32) := ((am_gi w x0 6 1).bind fun v1 => (some (w, v1)))
def f_T_length (x0 : Nat) (w : am_W) : Option (am_W × Int32) := am_self w x0 6 (e_T_length x0 w)
theorem o_T_length (d : Nat) (x0 : Nat) (w : am_W) : am_Ok am_ji (d + 0) m_T_length 0 (am_en m_T_length [.ref x0]) [] w (f_T_length x0 w) := by
  show am_Ok _ _ _ 0 [some (.ref x0)] [] w _
  unfold f_T_length
  refine ok_self ?_
  unfold e_T_length
  refine ok_seg (L := [((.aload_n 0), 1)]) (pc' := 1) (ls' := [some (.ref x0)]) (st' := [.ref x0]) (w' := w) (by decide +kernel) rfl ?_
  refine ok_gi (by decide +kernel : decode m_T_length.2.1 1 = .ok ((.getfield 15), 3)) rfl (fun v1 h2 => ?_)
  exact ok_ret (v := v1) (by decide +kernel : decode m_T_length.2.1 4 = .ok (.ireturn, 1)) rfl
-- m_C_feed
def e_C_feed (x0 : Nat) (x1 : Int32) (x2 : Int32) (x3 : Int32) (x4 : Int32) (x5 : Int32) (w : am_W) : Option (am_W × Int32) := ((am_gr w x0 0 0).bind fun v1 => ((f_T_length (v1) w).bind fun r3 => (if (r3.2 + 20) ≤ 440 then ((am_gr r3.1 x0 0 0).bind fun v6 => ((f_T_append (v6) (x1) r3.1).bind fun r8 => ((am_gr r8.1 x0 0 0).bind fun v10 => ((f_T_append (v10) (x2) r8.1).bind fun r12 => ((am_gr r12.1 x0 0 0).bind fun v14 => ((f_T_append (v14) (x3) r12.1).bind fun r16 => ((am_gr r16.1 x0 0 0).bind fun v18 => ((f_T_append (v18) (x4) r16.1).bind fun r20 => ((am_gr r20.1 x0 0 0).bind fun v22 => ((f_T_append (v22) (x5) r20.1).bind fun r24 => ((am_gr r24.1 x0 0 0).bind fun v26 => ((f_T_length (v26) r24.1).bind fun r28 => (some (r28.1, r28.2)))))))))))))) else (some (r3.1, (-1))))))
def f_C_feed (x0 : Nat) (x1 : Int32) (x2 : Int32) (x3 : Int32) (x4 : Int32) (x5 : Int32) (w : am_W) : Option (am_W × Int32) := am_self w x0 0 (e_C_feed x0 x1 x2 x3 x4 x5 w)
theorem o_C_feed (d : Nat) (x0 : Nat) (x1 : Int32) (x2 : Int32) (x3 : Int32) (x4 : Int32) (x5 : Int32) (w : am_W) : am_Ok am_ji (d + 1) m_C_feed 0 (am_en m_C_feed [.ref x0, .int x1, .int x2, .int x3, .int x4, .int x5]) [] w (f_C_feed x0 x1 x2 x3 x4 x5 w) := by
  show am_Ok _ _ _ 0 [some (.ref x0), some (.int x1), some (.int x2), some (.int x3), some (.int x4), some (.int x5)] [] w _
  unfold f_C_feed
  refine ok_self ?_
  unfold e_C_feed
  refine ok_seg (L := [((.aload_n 0), 1)]) (pc' := 1) (ls' := [some (.ref x0), some (.int x1), some (.int x2), some (.int x3), some (.int x4), some (.int x5)]) (st' := [.ref x0]) (w' := w) (by decide +kernel) rfl ?_
  refine ok_gr (by decide +kernel : decode m_C_feed.2.1 1 = .ok ((.getfield 10), 3)) rfl (by decide) (fun v1 h2 => ?_)
  refine ok_call0 (inj' := am_ji) (by decide +kernel : decode m_C_feed.2.1 4 = .ok ((.invokevirtual 60), 3)) rfl (fun q hq => am_iv0 (am_self_eq hq).1 rfl rfl rfl) (o_T_length (d + 0) (v1) w) (fun _ _ => rfl) (fun r3 h4 => ?_)
  refine ok_seg (L := [((.bipush 20), 2), (.iadd, 1), ((.sipush 440), 3)]) (pc' := 13) (ls' := [some (.ref x0), some (.int x1), some (.int x2), some (.int x3), some (.int x4), some (.int x5)]) (st' := [.int 440, .int (r3.2 + 20)]) (w' := r3.1) (by decide +kernel) rfl ?_
  refine ok_br (P := (r3.2 + 20) ≤ 440) (off := 5) (t := 18) (by decide +kernel : decode m_C_feed.2.1 13 = .ok ((.if_icmp .le 5), 3)) rfl rfl rfl rfl (fun c5 => ?_) (fun c5 => ?_)
  · skip
    refine ok_seg (L := [((.aload_n 0), 1)]) (pc' := 19) (ls' := [some (.ref x0), some (.int x1), some (.int x2), some (.int x3), some (.int x4), some (.int x5)]) (st' := [.ref x0]) (w' := r3.1) (by decide +kernel) rfl ?_
    refine ok_gr (by decide +kernel : decode m_C_feed.2.1 19 = .ok ((.getfield 10), 3)) rfl (by decide) (fun v6 h7 => ?_)
    refine ok_seg (L := [((.iload_n 1), 1)]) (pc' := 23) (ls' := [some (.ref x0), some (.int x1), some (.int x2), some (.int x3), some (.int x4), some (.int x5)]) (st' := [.int x1, .ref v6]) (w' := r3.1) (by decide +kernel) rfl ?_
    refine ok_call0 (inj' := am_jv) (by decide +kernel : decode m_C_feed.2.1 23 = .ok ((.invokevirtual 64), 3)) rfl (fun q hq => am_iv0 (am_self_eq hq).1 rfl rfl rfl) (o_T_append (d + 0) (v6) (x1) r3.1) (fun _ _ => rfl) (fun r8 h9 => ?_)
    refine ok_seg (L := [((.aload_n 0), 1)]) (pc' := 27) (ls' := [some (.ref x0), some (.int x1), some (.int x2), some (.int x3), some (.int x4), some (.int x5)]) (st' := [.ref x0]) (w' := r8.1) (by decide +kernel) rfl ?_
    refine ok_gr (by decide +kernel : decode m_C_feed.2.1 27 = .ok ((.getfield 10), 3)) rfl (by decide) (fun v10 h11 => ?_)
    refine ok_seg (L := [((.iload_n 2), 1)]) (pc' := 31) (ls' := [some (.ref x0), some (.int x1), some (.int x2), some (.int x3), some (.int x4), some (.int x5)]) (st' := [.int x2, .ref v10]) (w' := r8.1) (by decide +kernel) rfl ?_
    refine ok_call0 (inj' := am_jv) (by decide +kernel : decode m_C_feed.2.1 31 = .ok ((.invokevirtual 64), 3)) rfl (fun q hq => am_iv0 (am_self_eq hq).1 rfl rfl rfl) (o_T_append (d + 0) (v10) (x2) r8.1) (fun _ _ => rfl) (fun r12 h13 => ?_)
    refine ok_seg (L := [((.aload_n 0), 1)]) (pc' := 35) (ls' := [some (.ref x0), some (.int x1), some (.int x2), some (.int x3), some (.int x4), some (.int x5)]) (st' := [.ref x0]) (w' := r12.1) (by decide +kernel) rfl ?_
    refine ok_gr (by decide +kernel : decode m_C_feed.2.1 35 = .ok ((.getfield 10), 3)) rfl (by decide) (fun v14 h15 => ?_)
    refine ok_seg (L := [((.iload_n 3), 1)]) (pc' := 39) (ls' := [some (.ref x0), some (.int x1), some (.int x2), some (.int x3), some (.int x4), some (.int x5)]) (st' := [.int x3, .ref v14]) (w' := r12.1) (by decide +kernel) rfl ?_
    refine ok_call0 (inj' := am_jv) (by decide +kernel : decode m_C_feed.2.1 39 = .ok ((.invokevirtual 64), 3)) rfl (fun q hq => am_iv0 (am_self_eq hq).1 rfl rfl rfl) (o_T_append (d + 0) (v14) (x3) r12.1) (fun _ _ => rfl) (fun r16 h17 => ?_)
    refine ok_seg (L := [((.aload_n 0), 1)]) (pc' := 43) (ls' := [some (.ref x0), some (.int x1), some (.int x2), some (.int x3), some (.int x4), some (.int x5)]) (st' := [.ref x0]) (w' := r16.1) (by decide +kernel) rfl ?_
    refine ok_gr (by decide +kernel : decode m_C_feed.2.1 43 = .ok ((.getfield 10), 3)) rfl (by decide) (fun v18 h19 => ?_)
    refine ok_seg (L := [((.iload 4), 2)]) (pc' := 48) (ls' := [some (.ref x0), some (.int x1), some (.int x2), some (.int x3), some (.int x4), some (.int x5)]) (st' := [.int x4, .ref v18]) (w' := r16.1) (by decide +kernel) rfl ?_
    refine ok_call0 (inj' := am_jv) (by decide +kernel : decode m_C_feed.2.1 48 = .ok ((.invokevirtual 64), 3)) rfl (fun q hq => am_iv0 (am_self_eq hq).1 rfl rfl rfl) (o_T_append (d + 0) (v18) (x4) r16.1) (fun _ _ => rfl) (fun r20 h21 => ?_)
    refine ok_seg (L := [((.aload_n 0), 1)]) (pc' := 52) (ls' := [some (.ref x0), some (.int x1), some (.int x2), some (.int x3), some (.int x4), some (.int x5)]) (st' := [.ref x0]) (w' := r20.1) (by decide +kernel) rfl ?_
    refine ok_gr (by decide +kernel : decode m_C_feed.2.1 52 = .ok ((.getfield 10), 3)) rfl (by decide) (fun v22 h23 => ?_)
    refine ok_seg (L := [((.iload 5), 2)]) (pc' := 57) (ls' := [some (.ref x0), some (.int x1), some (.int x2), some (.int x3), some (.int x4), some (.int x5)]) (st' := [.int x5, .ref v22]) (w' := r20.1) (by decide +kernel) rfl ?_
    refine ok_call0 (inj' := am_jv) (by decide +kernel : decode m_C_feed.2.1 57 = .ok ((.invokevirtual 64), 3)) rfl (fun q hq => am_iv0 (am_self_eq hq).1 rfl rfl rfl) (o_T_append (d + 0) (v22) (x5) r20.1) (fun _ _ => rfl) (fun r24 h25 => ?_)
    refine ok_seg (L := [((.aload_n 0), 1)]) (pc' := 61) (ls' := [some (.ref x0), some (.int x1), some (.int x2), some (.int x3), some (.int x4), some (.int x5)]) (st' := [.ref x0]) (w' := r24.1) (by decide +kernel) rfl ?_
    refine ok_gr (by decide +kernel : decode m_C_feed.2.1 61 = .ok ((.getfield 10), 3)) rfl (by decide) (fun v26 h27 => ?_)
    refine ok_call0 (inj' := am_ji) (by decide +kernel : decode m_C_feed.2.1 64 = .ok ((.invokevirtual 60), 3)) rfl (fun q hq => am_iv0 (am_self_eq hq).1 rfl rfl rfl) (o_T_length (d + 0) (v26) r24.1) (fun _ _ => rfl) (fun r28 h29 => ?_)
    exact ok_ret (v := r28.2) (by decide +kernel : decode m_C_feed.2.1 67 = .ok (.ireturn, 1)) rfl
  · skip
    refine ok_seg (L := [((.iconst (-1)), 1)]) (pc' := 17) (ls' := [some (.ref x0), some (.int x1), some (.int x2), some (.int x3), some (.int x4), some (.int x5)]) (st' := [.int (-1)]) (w' := r3.1) (by decide +kernel) rfl ?_
    exact ok_ret (v := (-1)) (by decide +kernel : decode m_C_feed.2.1 17 = .ok (.ireturn, 1)) rfl
-- m_T_cut
def f_T_cut_p12 (w : am_W) : Option (am_W × Int32) := (some (w, 0))
def e_T_cut (x0 : Nat) (x1 : Int32) (w : am_W) : Option (am_W × Int32) := (if x1 < 0 then (f_T_cut_p12 w) else ((am_gi w x0 6 1).bind fun v2 => (if x1 ≤ v2 then ((am_pv w x0 6 1 (.int x1)).bind fun w5 => (some (w5, 1))) else (f_T_cut_p12 w))))
def f_T_cut (x0 : Nat) (x1 : Int32) (w : am_W) : Option (am_W × Int32) := am_self w x0 6 (e_T_cut x0 x1 w)
theorem o_T_cut_p12 {d : Nat} (y0 y1 : Option Value) (w : am_W) : am_Ok am_ji (d + 0) m_T_cut 12 [y0, y1] [] w (f_T_cut_p12 w) := by
  unfold f_T_cut_p12
  refine ok_seg (L := [((.iconst 0), 1)]) (pc' := 13) (ls' := [y0, y1]) (st' := [.int 0]) (w' := w) (by decide +kernel) rfl ?_
  exact ok_ret (v := 0) (by decide +kernel : decode m_T_cut.2.1 13 = .ok (.ireturn, 1)) rfl
theorem o_T_cut (d : Nat) (x0 : Nat) (x1 : Int32) (w : am_W) : am_Ok am_ji (d + 0) m_T_cut 0 (am_en m_T_cut [.ref x0, .int x1]) [] w (f_T_cut x0 x1 w) := by
  show am_Ok _ _ _ 0 [some (.ref x0), some (.int x1)] [] w _
  unfold f_T_cut
  refine ok_self ?_
  unfold e_T_cut
  refine ok_seg (L := [((.iload_n 1), 1)]) (pc' := 1) (ls' := [some (.ref x0), some (.int x1)]) (st' := [.int x1]) (w' := w) (by decide +kernel) rfl ?_
  refine ok_br (P := x1 < 0) (off := 11) (t := 12) (by decide +kernel : decode m_T_cut.2.1 1 = .ok ((.ifCond .lt 11), 3)) rfl rfl rfl rfl (fun c1 => ?_) (fun c1 => ?_)
  · skip
    exact o_T_cut_p12 (some (.ref x0)) (some (.int x1)) w
  · skip
    refine ok_seg (L := [((.iload_n 1), 1), ((.aload_n 0), 1)]) (pc' := 6) (ls' := [some (.ref x0), some (.int x1)]) (st' := [.ref x0, .int x1]) (w' := w) (by decide +kernel) rfl ?_
    refine ok_gi (by decide +kernel : decode m_T_cut.2.1 6 = .ok ((.getfield 15), 3)) rfl (fun v2 h3 => ?_)
    refine ok_br (P := x1 ≤ v2) (off := 5) (t := 14) (by decide +kernel : decode m_T_cut.2.1 9 = .ok ((.if_icmp .le 5), 3)) rfl rfl rfl rfl (fun c4 => ?_) (fun c4 => ?_)
    · skip
      refine ok_seg (L := [((.aload_n 0), 1), ((.iload_n 1), 1)]) (pc' := 16) (ls' := [some (.ref x0), some (.int x1)]) (st' := [.int x1, .ref x0]) (w' := w) (by decide +kernel) rfl ?_
      refine ok_pi (by decide +kernel : decode m_T_cut.2.1 16 = .ok ((.putfield 15), 3)) rfl (fun w5 h6 => ?_)
      refine ok_seg (L := [((.iconst 1), 1)]) (pc' := 20) (ls' := [some (.ref x0), some (.int x1)]) (st' := [.int 1]) (w' := w5) (by decide +kernel) rfl ?_
      exact ok_ret (v := 1) (by decide +kernel : decode m_T_cut.2.1 20 = .ok (.ireturn, 1)) rfl
    · skip
      exact o_T_cut_p12 (some (.ref x0)) (some (.int x1)) w
-- m_C_end
def e_C_end (x0 : Nat) (x1 : Int32) (w : am_W) : Option (am_W × Int32) := ((am_gr w x0 0 0).bind fun v1 => ((f_T_cut (v1) (x1) w).bind fun r3 => (am_rb r3.1 r3.2)))
def f_C_end (x0 : Nat) (x1 : Int32) (w : am_W) : Option (am_W × Int32) := am_self w x0 0 (e_C_end x0 x1 w)
theorem o_C_end (d : Nat) (x0 : Nat) (x1 : Int32) (w : am_W) : am_Ok am_ji (d + 1) m_C_end 0 (am_en m_C_end [.ref x0, .int x1]) [] w (f_C_end x0 x1 w) := by
  show am_Ok _ _ _ 0 [some (.ref x0), some (.int x1)] [] w _
  unfold f_C_end
  refine ok_self ?_
  unfold e_C_end
  refine ok_seg (L := [((.aload_n 0), 1)]) (pc' := 1) (ls' := [some (.ref x0), some (.int x1)]) (st' := [.ref x0]) (w' := w) (by decide +kernel) rfl ?_
  refine ok_gr (by decide +kernel : decode m_C_end.2.1 1 = .ok ((.getfield 10), 3)) rfl (by decide) (fun v1 h2 => ?_)
  refine ok_seg (L := [((.iload_n 1), 1)]) (pc' := 5) (ls' := [some (.ref x0), some (.int x1)]) (st' := [.int x1, .ref v1]) (w' := w) (by decide +kernel) rfl ?_
  refine ok_call0 (inj' := am_ji) (by decide +kernel : decode m_C_end.2.1 5 = .ok ((.invokevirtual 67), 3)) rfl (fun q hq => am_iv0 (am_self_eq hq).1 rfl rfl rfl) (o_T_cut (d + 0) (v1) (x1) w) (fun _ _ => rfl) (fun r3 h4 => ?_)
  exact ok_retb (len := 1) (by decide +kernel : decode m_C_end.2.1 8 = .ok (.ireturn, 1)) rfl
-- m_G_cellsOf
def f_G_cellsOf_p23 (s0 : Int64) (w : am_W) : Option (am_W × Int64) := (some (w, s0))
def f_G_cellsOf_p22 (w : am_W) : Option (am_W × Int64) := (f_G_cellsOf_p23 0 w)
def e_G_cellsOf (x0 : Nat) (x1 : Int32) (w : am_W) : Option (am_W × Int64) := (if x1 < 0 then (f_G_cellsOf_p22 w) else ((am_gr w x0 1 0).bind fun v2 => ((am_al w v2).bind fun v4 => (if v4 ≤ x1 then (f_G_cellsOf_p22 w) else ((am_gr w x0 1 0).bind fun v7 => ((am_aj w v7 x1).bind fun v9 => (f_G_cellsOf_p23 v9 w)))))))
def f_G_cellsOf (x0 : Nat) (x1 : Int32) (w : am_W) : Option (am_W × Int64) := am_self w x0 1 (e_G_cellsOf x0 x1 w)
theorem o_G_cellsOf_p23 {d : Nat} (s0 : Int64) (y0 y1 : Option Value) (w : am_W) : am_Ok am_jj (d + 0) m_G_cellsOf 23 [y0, y1] [.long s0] w (f_G_cellsOf_p23 s0 w) := by
  unfold f_G_cellsOf_p23
  exact ok_ret (v := s0) (by decide +kernel : decode m_G_cellsOf.2.1 23 = .ok (.lreturn, 1)) rfl
theorem o_G_cellsOf_p22 {d : Nat} (y0 y1 : Option Value) (w : am_W) : am_Ok am_jj (d + 0) m_G_cellsOf 22 [y0, y1] [] w (f_G_cellsOf_p22 w) := by
  unfold f_G_cellsOf_p22
  refine ok_seg (L := [((.lconst 0), 1)]) (pc' := 23) (ls' := [y0, y1]) (st' := [.long 0]) (w' := w) (by decide +kernel) rfl ?_
  exact o_G_cellsOf_p23 0 y0 y1 w
theorem o_G_cellsOf (d : Nat) (x0 : Nat) (x1 : Int32) (w : am_W) : am_Ok am_jj (d + 0) m_G_cellsOf 0 (am_en m_G_cellsOf [.ref x0, .int x1]) [] w (f_G_cellsOf x0 x1 w) := by
  show am_Ok _ _ _ 0 [some (.ref x0), some (.int x1)] [] w _
  unfold f_G_cellsOf
  refine ok_self ?_
  unfold e_G_cellsOf
  refine ok_seg (L := [((.iload_n 1), 1)]) (pc' := 1) (ls' := [some (.ref x0), some (.int x1)]) (st' := [.int x1]) (w' := w) (by decide +kernel) rfl ?_
  refine ok_br (P := x1 < 0) (off := 21) (t := 22) (by decide +kernel : decode m_G_cellsOf.2.1 1 = .ok ((.ifCond .lt 21), 3)) rfl rfl rfl rfl (fun c1 => ?_) (fun c1 => ?_)
  · skip
    exact o_G_cellsOf_p22 (some (.ref x0)) (some (.int x1)) w
  · skip
    refine ok_seg (L := [((.iload_n 1), 1), ((.aload_n 0), 1)]) (pc' := 6) (ls' := [some (.ref x0), some (.int x1)]) (st' := [.ref x0, .int x1]) (w' := w) (by decide +kernel) rfl ?_
    refine ok_gr (by decide +kernel : decode m_G_cellsOf.2.1 6 = .ok ((.getfield 9), 3)) rfl (by decide) (fun v2 h3 => ?_)
    refine ok_al (by decide +kernel : decode m_G_cellsOf.2.1 9 = .ok (.arraylength, 1)) (fun v4 h5 => ?_)
    refine ok_br (P := v4 ≤ x1) (off := 12) (t := 22) (by decide +kernel : decode m_G_cellsOf.2.1 10 = .ok ((.if_icmp .ge 12), 3)) rfl rfl rfl rfl (fun c6 => ?_) (fun c6 => ?_)
    · skip
      exact o_G_cellsOf_p22 (some (.ref x0)) (some (.int x1)) w
    · skip
      refine ok_seg (L := [((.aload_n 0), 1)]) (pc' := 14) (ls' := [some (.ref x0), some (.int x1)]) (st' := [.ref x0]) (w' := w) (by decide +kernel) rfl ?_
      refine ok_gr (by decide +kernel : decode m_G_cellsOf.2.1 14 = .ok ((.getfield 9), 3)) rfl (by decide) (fun v7 h8 => ?_)
      refine ok_seg (L := [((.iload_n 1), 1)]) (pc' := 18) (ls' := [some (.ref x0), some (.int x1)]) (st' := [.int x1, .ref v7]) (w' := w) (by decide +kernel) rfl ?_
      refine ok_aj (by decide +kernel : decode m_G_cellsOf.2.1 18 = .ok (.laload, 1)) (fun v9 h10 => ?_)
      refine ok_goto (t := 23) (by decide +kernel : decode m_G_cellsOf.2.1 19 = .ok ((.goto 4), 3)) rfl ?_
      exact o_G_cellsOf_p23 v9 (some (.ref x0)) (some (.int x1)) w
-- m_G_copy
def f_G_copy_p26 : Nat → Nat → Nat → Int32 → am_W → Option (am_W × Unit)
  | 0, _, _, _, _ => none
  | n + 1, x0, x1, x2, w => ((am_gr w x0 1 0).bind fun v1 => ((am_al w v1).bind fun v3 => (if v3 ≤ x2 then (some (w, ())) else ((am_gr w x0 1 0).bind fun v6 => ((f_G_cellsOf (x1) (x2) w).bind fun r8 => ((am_sj r8.1 v6 x2 r8.2).bind fun w10 => (f_G_copy_p26 n x0 x1 (x2 + 1) w10)))))))
def e_G_copy (x0 : Nat) (x1 : Nat) (w : am_W) : Option (am_W × Unit) := ((am_gi w x1 1 1).bind fun v12 => ((am_pv w x0 1 1 (.int v12)).bind fun w14 => ((am_gi w14 x1 1 2).bind fun v16 => ((am_pv w14 x0 1 2 (.int v16)).bind fun w18 => ((am_gi w18 x1 1 3).bind fun v20 => ((am_pv w18 x0 1 3 (.int v20)).bind fun w22 => (f_G_copy_p26 am_N x0 x1 0 w22)))))))
def f_G_copy (x0 : Nat) (x1 : Nat) (w : am_W) : Option (am_W × Unit) := am_self w x0 1 (e_G_copy x0 x1 w)
theorem o_G_copy_p26 {d : Nat} : ∀ (n : Nat) (x0 : Nat) (x1 : Nat) (x2 : Int32) (w : am_W), am_Ok am_jv (d + 1) m_G_copy 26 [some (.ref x0), some (.ref x1), some (.int x2)] [] w (f_G_copy_p26 n x0 x1 x2 w) := by
  intro n
  induction n with
  | zero => intros; exact ok_none
  | succ n ih =>
    intro x0 x1 x2 w
    unfold f_G_copy_p26
    refine ok_seg (L := [((.iload_n 2), 1), ((.aload_n 0), 1)]) (pc' := 28) (ls' := [some (.ref x0), some (.ref x1), some (.int x2)]) (st' := [.ref x0, .int x2]) (w' := w) (by decide +kernel) rfl ?_
    refine ok_gr (by decide +kernel : decode m_G_copy.2.1 28 = .ok ((.getfield 9), 3)) rfl (by decide) (fun v1 h2 => ?_)
    refine ok_al (by decide +kernel : decode m_G_copy.2.1 31 = .ok (.arraylength, 1)) (fun v3 h4 => ?_)
    refine ok_br (P := v3 ≤ x2) (off := 20) (t := 52) (by decide +kernel : decode m_G_copy.2.1 32 = .ok ((.if_icmp .ge 20), 3)) rfl rfl rfl rfl (fun c5 => ?_) (fun c5 => ?_)
    · skip
      exact ok_ret (v := ()) (by decide +kernel : decode m_G_copy.2.1 52 = .ok (.return_, 1)) rfl
    · skip
      refine ok_seg (L := [((.aload_n 0), 1)]) (pc' := 36) (ls' := [some (.ref x0), some (.ref x1), some (.int x2)]) (st' := [.ref x0]) (w' := w) (by decide +kernel) rfl ?_
      refine ok_gr (by decide +kernel : decode m_G_copy.2.1 36 = .ok ((.getfield 9), 3)) rfl (by decide) (fun v6 h7 => ?_)
      refine ok_seg (L := [((.iload_n 2), 1), ((.aload_n 1), 1), ((.iload_n 2), 1)]) (pc' := 42) (ls' := [some (.ref x0), some (.ref x1), some (.int x2)]) (st' := [.int x2, .ref x1, .int x2, .ref v6]) (w' := w) (by decide +kernel) rfl ?_
      refine ok_call0 (inj' := am_jj) (by decide +kernel : decode m_G_copy.2.1 42 = .ok ((.invokevirtual 31), 3)) rfl (fun q hq => am_iv0 (am_self_eq hq).1 rfl rfl rfl) (o_G_cellsOf (d + 0) (x1) (x2) w) (fun _ _ => rfl) (fun r8 h9 => ?_)
      refine ok_sj (by decide +kernel : decode m_G_copy.2.1 45 = .ok (.lastore, 1)) (fun w10 h11 => ?_)
      refine ok_seg (L := [((.iinc 2 1), 3)]) (pc' := 49) (ls' := [some (.ref x0), some (.ref x1), some (.int (x2 + 1))]) (st' := []) (w' := w10) (by decide +kernel) rfl ?_
      refine ok_goto (t := 26) (by decide +kernel : decode m_G_copy.2.1 49 = .ok ((.goto (-23)), 3)) rfl ?_
      exact ih x0 x1 (x2 + 1) w10
theorem o_G_copy (d : Nat) (x0 : Nat) (x1 : Nat) (w : am_W) : am_Ok am_jv (d + 1) m_G_copy 0 (am_en m_G_copy [.ref x0, .ref x1]) [] w (f_G_copy x0 x1 w) := by
  show am_Ok _ _ _ 0 [some (.ref x0), some (.ref x1), none] [] w _
  unfold f_G_copy
  refine ok_self ?_
  unfold e_G_copy
  refine ok_seg (L := [((.aload_n 0), 1), ((.aload_n 1), 1)]) (pc' := 2) (ls' := [some (.ref x0), some (.ref x1), none]) (st' := [.ref x1, .ref x0]) (w' := w) (by decide +kernel) rfl ?_
  refine ok_gi (by decide +kernel : decode m_G_copy.2.1 2 = .ok ((.getfield 15), 3)) rfl (fun v12 h13 => ?_)
  refine ok_pi (by decide +kernel : decode m_G_copy.2.1 5 = .ok ((.putfield 15), 3)) rfl (fun w14 h15 => ?_)
  refine ok_seg (L := [((.aload_n 0), 1), ((.aload_n 1), 1)]) (pc' := 10) (ls' := [some (.ref x0), some (.ref x1), none]) (st' := [.ref x1, .ref x0]) (w' := w14) (by decide +kernel) rfl ?_
  refine ok_gi (by decide +kernel : decode m_G_copy.2.1 10 = .ok ((.getfield 19), 3)) rfl (fun v16 h17 => ?_)
  refine ok_pi (by decide +kernel : decode m_G_copy.2.1 13 = .ok ((.putfield 19), 3)) rfl (fun w18 h19 => ?_)
  refine ok_seg (L := [((.aload_n 0), 1), ((.aload_n 1), 1)]) (pc' := 18) (ls' := [some (.ref x0), some (.ref x1), none]) (st' := [.ref x1, .ref x0]) (w' := w18) (by decide +kernel) rfl ?_
  refine ok_gi (by decide +kernel : decode m_G_copy.2.1 18 = .ok ((.getfield 22), 3)) rfl (fun v20 h21 => ?_)
  refine ok_pi (by decide +kernel : decode m_G_copy.2.1 21 = .ok ((.putfield 22), 3)) rfl (fun w22 h23 => ?_)
  refine ok_seg (L := [((.iconst 0), 1), ((.istore_n 2), 1)]) (pc' := 26) (ls' := [some (.ref x0), some (.ref x1), some (.int 0)]) (st' := []) (w' := w22) (by decide +kernel) rfl ?_
  exact o_G_copy_p26 am_N x0 x1 0 w22
-- m_H_forget
def e_H_forget (x0 : Nat) (w : am_W) : Option (am_W × Unit) := ((am_pv w x0 2 2 (.int 0)).bind fun w1 => (some (w1, ())))
def f_H_forget (x0 : Nat) (w : am_W) : Option (am_W × Unit) := am_self w x0 2 (e_H_forget x0 w)
theorem o_H_forget (d : Nat) (x0 : Nat) (w : am_W) : am_Ok am_jv (d + 0) m_H_forget 0 (am_en m_H_forget [.ref x0]) [] w (f_H_forget x0 w) := by
  show am_Ok _ _ _ 0 [some (.ref x0)] [] w _
  unfold f_H_forget
  refine ok_self ?_
  unfold e_H_forget
  refine ok_seg (L := [((.aload_n 0), 1), ((.iconst 0), 1)]) (pc' := 2) (ls' := [some (.ref x0)]) (st' := [.int 0, .ref x0]) (w' := w) (by decide +kernel) rfl ?_
  refine ok_pi (by decide +kernel : decode m_H_forget.2.1 2 = .ok ((.putfield 24), 3)) rfl (fun w1 h2 => ?_)
  exact ok_ret (v := ()) (by decide +kernel : decode m_H_forget.2.1 5 = .ok (.return_, 1)) rfl
-- m_R_faultKind
def e_R_faultKind (x0 : Nat) (w : am_W) : Option (am_W × Int32) := ((am_gi w x0 3 5).bind fun v1 => (some (w, v1)))
def f_R_faultKind (x0 : Nat) (w : am_W) : Option (am_W × Int32) := am_self w x0 3 (e_R_faultKind x0 w)
theorem o_R_faultKind (d : Nat) (x0 : Nat) (w : am_W) : am_Ok am_ji (d + 0) m_R_faultKind 0 (am_en m_R_faultKind [.ref x0]) [] w (f_R_faultKind x0 w) := by
  show am_Ok _ _ _ 0 [some (.ref x0)] [] w _
  unfold f_R_faultKind
  refine ok_self ?_
  unfold e_R_faultKind
  refine ok_seg (L := [((.aload_n 0), 1)]) (pc' := 1) (ls' := [some (.ref x0)]) (st' := [.ref x0]) (w' := w) (by decide +kernel) rfl ?_
  refine ok_gi (by decide +kernel : decode m_R_faultKind.2.1 1 = .ok ((.getfield 31), 3)) rfl (fun v1 h2 => ?_)
  exact ok_ret (v := v1) (by decide +kernel : decode m_R_faultKind.2.1 4 = .ok (.ireturn, 1)) rfl
-- m_R_faultPlace
def e_R_faultPlace (x0 : Nat) (w : am_W) : Option (am_W × Int32) := ((am_gi w x0 3 2).bind fun v1 => (some (w, v1)))
def f_R_faultPlace (x0 : Nat) (w : am_W) : Option (am_W × Int32) := am_self w x0 3 (e_R_faultPlace x0 w)
theorem o_R_faultPlace (d : Nat) (x0 : Nat) (w : am_W) : am_Ok am_ji (d + 0) m_R_faultPlace 0 (am_en m_R_faultPlace [.ref x0]) [] w (f_R_faultPlace x0 w) := by
  show am_Ok _ _ _ 0 [some (.ref x0)] [] w _
  unfold f_R_faultPlace
  refine ok_self ?_
  unfold e_R_faultPlace
  refine ok_seg (L := [((.aload_n 0), 1)]) (pc' := 1) (ls' := [some (.ref x0)]) (st' := [.ref x0]) (w' := w) (by decide +kernel) rfl ?_
  refine ok_gi (by decide +kernel : decode m_R_faultPlace.2.1 1 = .ok ((.getfield 22), 3)) rfl (fun v1 h2 => ?_)
  exact ok_ret (v := v1) (by decide +kernel : decode m_R_faultPlace.2.1 4 = .ok (.ireturn, 1)) rfl
-- m_R_linesRead
def e_R_linesRead (x0 : Nat) (w : am_W) : Option (am_W × Int32) := ((am_gi w x0 3 6).bind fun v1 => (some (w, v1)))
def f_R_linesRead (x0 : Nat) (w : am_W) : Option (am_W × Int32) := am_self w x0 3 (e_R_linesRead x0 w)
theorem o_R_linesRead (d : Nat) (x0 : Nat) (w : am_W) : am_Ok am_ji (d + 0) m_R_linesRead 0 (am_en m_R_linesRead [.ref x0]) [] w (f_R_linesRead x0 w) := by
  show am_Ok _ _ _ 0 [some (.ref x0)] [] w _
  unfold f_R_linesRead
  refine ok_self ?_
  unfold e_R_linesRead
  refine ok_seg (L := [((.aload_n 0), 1)]) (pc' := 1) (ls' := [some (.ref x0)]) (st' := [.ref x0]) (w' := w) (by decide +kernel) rfl ?_
  refine ok_gi (by decide +kernel : decode m_R_linesRead.2.1 1 = .ok ((.getfield 34), 3)) rfl (fun v1 h2 => ?_)
  exact ok_ret (v := v1) (by decide +kernel : decode m_R_linesRead.2.1 4 = .ok (.ireturn, 1)) rfl
-- m_G_size
def e_G_size (x0 : Nat) (w : am_W) : Option (am_W × Int32) := ((am_gi w x0 1 1).bind fun v1 => ((am_gi w x0 1 2).bind fun v3 => (some (w, (v1 * v3)))))
def f_G_size (x0 : Nat) (w : am_W) : Option (am_W × Int32) := am_self w x0 1 (e_G_size x0 w)
theorem o_G_size (d : Nat) (x0 : Nat) (w : am_W) : am_Ok am_ji (d + 0) m_G_size 0 (am_en m_G_size [.ref x0]) [] w (f_G_size x0 w) := by
  show am_Ok _ _ _ 0 [some (.ref x0)] [] w _
  unfold f_G_size
  refine ok_self ?_
  unfold e_G_size
  refine ok_seg (L := [((.aload_n 0), 1)]) (pc' := 1) (ls' := [some (.ref x0)]) (st' := [.ref x0]) (w' := w) (by decide +kernel) rfl ?_
  refine ok_gi (by decide +kernel : decode m_G_size.2.1 1 = .ok ((.getfield 15), 3)) rfl (fun v1 h2 => ?_)
  refine ok_seg (L := [((.aload_n 0), 1)]) (pc' := 5) (ls' := [some (.ref x0)]) (st' := [.ref x0, .int v1]) (w' := w) (by decide +kernel) rfl ?_
  refine ok_gi (by decide +kernel : decode m_G_size.2.1 5 = .ok ((.getfield 19), 3)) rfl (fun v3 h4 => ?_)
  refine ok_seg (L := [(.imul, 1)]) (pc' := 9) (ls' := [some (.ref x0)]) (st' := [.int (v1 * v3)]) (w' := w) (by decide +kernel) rfl ?_
  exact ok_ret (v := (v1 * v3)) (by decide +kernel : decode m_G_size.2.1 9 = .ok (.ireturn, 1)) rfl
-- m_G_start
def f_G_start_p69 (s0 : Nat) (s1 : Int32) (s2 : Int64) (w : am_W) : Option (am_W × Unit) := ((am_sj w s0 s1 s2).bind fun w1 => (some (w1, ())))
def f_G_start_p18 : Nat → Nat → Int32 → am_W → Option (am_W × Unit)
  | 0, _, _, _ => none
  | n + 1, x0, x4, w => ((am_gr w x0 1 0).bind fun v3 => ((am_al w v3).bind fun v5 => (if v5 ≤ x4 then ((am_gr w x0 1 0).bind fun v8 => ((f_G_size (x0) w).bind fun r10 => (if r10.2 ≤ 0 then (f_G_start_p69 v8 0 0 r10.1) else ((f_G_size (x0) r10.1).bind fun r13 => (f_G_start_p69 v8 0 (am_lu (-1) (64 - r13.2)) r13.1))))) else ((am_gr w x0 1 0).bind fun v15 => ((am_sj w v15 x4 0).bind fun w17 => (f_G_start_p18 n x0 (x4 + 1) w17))))))
def e_G_start (x0 : Nat) (x1 : Int32) (x2 : Int32) (x3 : Int32) (w : am_W) : Option (am_W × Unit) := ((am_pv w x0 1 1 (.int x1)).bind fun w19 => ((am_pv w19 x0 1 2 (.int x2)).bind fun w21 => ((am_pv w21 x0 1 3 (.int x3)).bind fun w23 => (f_G_start_p18 am_N x0 0 w23))))
def f_G_start (x0 : Nat) (x1 : Int32) (x2 : Int32) (x3 : Int32) (w : am_W) : Option (am_W × Unit) := am_self w x0 1 (e_G_start x0 x1 x2 x3 w)
theorem o_G_start_p69 {d : Nat} (s0 : Nat) (s1 : Int32) (s2 : Int64) (y0 y1 y2 y3 y4 : Option Value) (w : am_W) : am_Ok am_jv (d + 1) m_G_start 69 [y0, y1, y2, y3, y4] [.long s2, .int s1, .ref s0] w (f_G_start_p69 s0 s1 s2 w) := by
  unfold f_G_start_p69
  refine ok_sj (by decide +kernel : decode m_G_start.2.1 69 = .ok (.lastore, 1)) (fun w1 h2 => ?_)
  exact ok_ret (v := ()) (by decide +kernel : decode m_G_start.2.1 70 = .ok (.return_, 1)) rfl
theorem o_G_start_p18 {d : Nat} : ∀ (n : Nat) (x0 : Nat) (x4 : Int32) (y1 y2 y3 : Option Value) (w : am_W), am_Ok am_jv (d + 1) m_G_start 18 [some (.ref x0), y1, y2, y3, some (.int x4)] [] w (f_G_start_p18 n x0 x4 w) := by
  intro n
  induction n with
  | zero => intros; exact ok_none
  | succ n ih =>
    intro x0 x4 y1 y2 y3 w
    unfold f_G_start_p18
    refine ok_seg (L := [((.iload 4), 2), ((.aload_n 0), 1)]) (pc' := 21) (ls' := [some (.ref x0), y1, y2, y3, some (.int x4)]) (st' := [.ref x0, .int x4]) (w' := w) (by decide +kernel) rfl ?_
    refine ok_gr (by decide +kernel : decode m_G_start.2.1 21 = .ok ((.getfield 9), 3)) rfl (by decide) (fun v3 h4 => ?_)
    refine ok_al (by decide +kernel : decode m_G_start.2.1 24 = .ok (.arraylength, 1)) (fun v5 h6 => ?_)
    refine ok_br (P := v5 ≤ x4) (off := 17) (t := 42) (by decide +kernel : decode m_G_start.2.1 25 = .ok ((.if_icmp .ge 17), 3)) rfl rfl rfl rfl (fun c7 => ?_) (fun c7 => ?_)
    · skip
      refine ok_seg (L := [((.aload_n 0), 1)]) (pc' := 43) (ls' := [some (.ref x0), y1, y2, y3, some (.int x4)]) (st' := [.ref x0]) (w' := w) (by decide +kernel) rfl ?_
      refine ok_gr (by decide +kernel : decode m_G_start.2.1 43 = .ok ((.getfield 9), 3)) rfl (by decide) (fun v8 h9 => ?_)
      refine ok_seg (L := [((.iconst 0), 1), ((.aload_n 0), 1)]) (pc' := 48) (ls' := [some (.ref x0), y1, y2, y3, some (.int x4)]) (st' := [.ref x0, .int 0, .ref v8]) (w' := w) (by decide +kernel) rfl ?_
      refine ok_call0 (inj' := am_ji) (by decide +kernel : decode m_G_start.2.1 48 = .ok ((.invokevirtual 25), 3)) rfl (fun q hq => am_iv0 (am_self_eq hq).1 rfl rfl rfl) (o_G_size (d + 0) (x0) w) (fun _ _ => rfl) (fun r10 h11 => ?_)
      refine ok_br (P := r10.2 ≤ 0) (off := 17) (t := 68) (by decide +kernel : decode m_G_start.2.1 51 = .ok ((.ifCond .le 17), 3)) rfl rfl rfl rfl (fun c12 => ?_) (fun c12 => ?_)
      · skip
        refine ok_seg (L := [((.lconst 0), 1)]) (pc' := 69) (ls' := [some (.ref x0), y1, y2, y3, some (.int x4)]) (st' := [.long 0, .int 0, .ref v8]) (w' := r10.1) (by decide +kernel) rfl ?_
        exact o_G_start_p69 v8 0 0 (some (.ref x0)) y1 y2 y3 (some (.int x4)) r10.1
      · skip
        refine ok_seg (L := [((.ldc2_w 29), 3), ((.bipush 64), 2), ((.aload_n 0), 1)]) (pc' := 60) (ls' := [some (.ref x0), y1, y2, y3, some (.int x4)]) (st' := [.ref x0, .int 64, .long (-1), .int 0, .ref v8]) (w' := r10.1) (by decide +kernel) rfl ?_
        refine ok_call0 (inj' := am_ji) (by decide +kernel : decode m_G_start.2.1 60 = .ok ((.invokevirtual 25), 3)) rfl (fun q hq => am_iv0 (am_self_eq hq).1 rfl rfl rfl) (o_G_size (d + 0) (x0) r10.1) (fun _ _ => rfl) (fun r13 h14 => ?_)
        refine ok_seg (L := [(.isub, 1), (.lushr, 1)]) (pc' := 65) (ls' := [some (.ref x0), y1, y2, y3, some (.int x4)]) (st' := [.long (am_lu (-1) (64 - r13.2)), .int 0, .ref v8]) (w' := r13.1) (by decide +kernel) rfl ?_
        refine ok_goto (t := 69) (by decide +kernel : decode m_G_start.2.1 65 = .ok ((.goto 4), 3)) rfl ?_
        exact o_G_start_p69 v8 0 (am_lu (-1) (64 - r13.2)) (some (.ref x0)) y1 y2 y3 (some (.int x4)) r13.1
    · skip
      refine ok_seg (L := [((.aload_n 0), 1)]) (pc' := 29) (ls' := [some (.ref x0), y1, y2, y3, some (.int x4)]) (st' := [.ref x0]) (w' := w) (by decide +kernel) rfl ?_
      refine ok_gr (by decide +kernel : decode m_G_start.2.1 29 = .ok ((.getfield 9), 3)) rfl (by decide) (fun v15 h16 => ?_)
      refine ok_seg (L := [((.iload 4), 2), ((.lconst 0), 1)]) (pc' := 35) (ls' := [some (.ref x0), y1, y2, y3, some (.int x4)]) (st' := [.long 0, .int x4, .ref v15]) (w' := w) (by decide +kernel) rfl ?_
      refine ok_sj (by decide +kernel : decode m_G_start.2.1 35 = .ok (.lastore, 1)) (fun w17 h18 => ?_)
      refine ok_seg (L := [((.iinc 4 1), 3)]) (pc' := 39) (ls' := [some (.ref x0), y1, y2, y3, some (.int (x4 + 1))]) (st' := []) (w' := w17) (by decide +kernel) rfl ?_
      refine ok_goto (t := 18) (by decide +kernel : decode m_G_start.2.1 39 = .ok ((.goto (-21)), 3)) rfl ?_
      exact ih x0 (x4 + 1) y1 y2 y3 w17
theorem o_G_start (d : Nat) (x0 : Nat) (x1 : Int32) (x2 : Int32) (x3 : Int32) (w : am_W) : am_Ok am_jv (d + 1) m_G_start 0 (am_en m_G_start [.ref x0, .int x1, .int x2, .int x3]) [] w (f_G_start x0 x1 x2 x3 w) := by
  show am_Ok _ _ _ 0 [some (.ref x0), some (.int x1), some (.int x2), some (.int x3), none] [] w _
  unfold f_G_start
  refine ok_self ?_
  unfold e_G_start
  refine ok_seg (L := [((.aload_n 0), 1), ((.iload_n 1), 1)]) (pc' := 2) (ls' := [some (.ref x0), some (.int x1), some (.int x2), some (.int x3), none]) (st' := [.int x1, .ref x0]) (w' := w) (by decide +kernel) rfl ?_
  refine ok_pi (by decide +kernel : decode m_G_start.2.1 2 = .ok ((.putfield 15), 3)) rfl (fun w19 h20 => ?_)
  refine ok_seg (L := [((.aload_n 0), 1), ((.iload_n 2), 1)]) (pc' := 7) (ls' := [some (.ref x0), some (.int x1), some (.int x2), some (.int x3), none]) (st' := [.int x2, .ref x0]) (w' := w19) (by decide +kernel) rfl ?_
  refine ok_pi (by decide +kernel : decode m_G_start.2.1 7 = .ok ((.putfield 19), 3)) rfl (fun w21 h22 => ?_)
  refine ok_seg (L := [((.aload_n 0), 1), ((.iload_n 3), 1)]) (pc' := 12) (ls' := [some (.ref x0), some (.int x1), some (.int x2), some (.int x3), none]) (st' := [.int x3, .ref x0]) (w' := w21) (by decide +kernel) rfl ?_
  refine ok_pi (by decide +kernel : decode m_G_start.2.1 12 = .ok ((.putfield 22), 3)) rfl (fun w23 h24 => ?_)
  refine ok_seg (L := [((.iconst 0), 1), ((.istore 4), 2)]) (pc' := 18) (ls' := [some (.ref x0), some (.int x1), some (.int x2), some (.int x3), some (.int 0)]) (st' := []) (w' := w23) (by decide +kernel) rfl ?_
  exact o_G_start_p18 am_N x0 0 (some (.int x1)) (some (.int x2)) (some (.int x3)) w23
-- m_T_byteAt
def f_T_byteAt_p31 (s0 : Int32) (w : am_W) : Option (am_W × Int32) := (some (w, s0))
def f_T_byteAt_p30 (w : am_W) : Option (am_W × Int32) := (f_T_byteAt_p31 (-1) w)
def e_T_byteAt (x0 : Nat) (x1 : Int32) (w : am_W) : Option (am_W × Int32) := (if x1 < 0 then (f_T_byteAt_p30 w) else ((am_gi w x0 6 1).bind fun v2 => (if v2 ≤ x1 then (f_T_byteAt_p30 w) else ((am_gr w x0 6 0).bind fun v5 => ((am_al w v5).bind fun v7 => (if v7 ≤ x1 then (f_T_byteAt_p30 w) else ((am_gr w x0 6 0).bind fun v10 => ((am_ai w v10 x1).bind fun v12 => (f_T_byteAt_p31 v12 w)))))))))
def f_T_byteAt (x0 : Nat) (x1 : Int32) (w : am_W) : Option (am_W × Int32) := am_self w x0 6 (e_T_byteAt x0 x1 w)
theorem o_T_byteAt_p31 {d : Nat} (s0 : Int32) (y0 y1 : Option Value) (w : am_W) : am_Ok am_ji (d + 0) m_T_byteAt 31 [y0, y1] [.int s0] w (f_T_byteAt_p31 s0 w) := by
  unfold f_T_byteAt_p31
  exact ok_ret (v := s0) (by decide +kernel : decode m_T_byteAt.2.1 31 = .ok (.ireturn, 1)) rfl
theorem o_T_byteAt_p30 {d : Nat} (y0 y1 : Option Value) (w : am_W) : am_Ok am_ji (d + 0) m_T_byteAt 30 [y0, y1] [] w (f_T_byteAt_p30 w) := by
  unfold f_T_byteAt_p30
  refine ok_seg (L := [((.iconst (-1)), 1)]) (pc' := 31) (ls' := [y0, y1]) (st' := [.int (-1)]) (w' := w) (by decide +kernel) rfl ?_
  exact o_T_byteAt_p31 (-1) y0 y1 w
theorem o_T_byteAt (d : Nat) (x0 : Nat) (x1 : Int32) (w : am_W) : am_Ok am_ji (d + 0) m_T_byteAt 0 (am_en m_T_byteAt [.ref x0, .int x1]) [] w (f_T_byteAt x0 x1 w) := by
  show am_Ok _ _ _ 0 [some (.ref x0), some (.int x1)] [] w _
  unfold f_T_byteAt
  refine ok_self ?_
  unfold e_T_byteAt
  refine ok_seg (L := [((.iload_n 1), 1)]) (pc' := 1) (ls' := [some (.ref x0), some (.int x1)]) (st' := [.int x1]) (w' := w) (by decide +kernel) rfl ?_
  refine ok_br (P := x1 < 0) (off := 29) (t := 30) (by decide +kernel : decode m_T_byteAt.2.1 1 = .ok ((.ifCond .lt 29), 3)) rfl rfl rfl rfl (fun c1 => ?_) (fun c1 => ?_)
  · skip
    exact o_T_byteAt_p30 (some (.ref x0)) (some (.int x1)) w
  · skip
    refine ok_seg (L := [((.iload_n 1), 1), ((.aload_n 0), 1)]) (pc' := 6) (ls' := [some (.ref x0), some (.int x1)]) (st' := [.ref x0, .int x1]) (w' := w) (by decide +kernel) rfl ?_
    refine ok_gi (by decide +kernel : decode m_T_byteAt.2.1 6 = .ok ((.getfield 15), 3)) rfl (fun v2 h3 => ?_)
    refine ok_br (P := v2 ≤ x1) (off := 21) (t := 30) (by decide +kernel : decode m_T_byteAt.2.1 9 = .ok ((.if_icmp .ge 21), 3)) rfl rfl rfl rfl (fun c4 => ?_) (fun c4 => ?_)
    · skip
      exact o_T_byteAt_p30 (some (.ref x0)) (some (.int x1)) w
    · skip
      refine ok_seg (L := [((.iload_n 1), 1), ((.aload_n 0), 1)]) (pc' := 14) (ls' := [some (.ref x0), some (.int x1)]) (st' := [.ref x0, .int x1]) (w' := w) (by decide +kernel) rfl ?_
      refine ok_gr (by decide +kernel : decode m_T_byteAt.2.1 14 = .ok ((.getfield 9), 3)) rfl (by decide) (fun v5 h6 => ?_)
      refine ok_al (by decide +kernel : decode m_T_byteAt.2.1 17 = .ok (.arraylength, 1)) (fun v7 h8 => ?_)
      refine ok_br (P := v7 ≤ x1) (off := 12) (t := 30) (by decide +kernel : decode m_T_byteAt.2.1 18 = .ok ((.if_icmp .ge 12), 3)) rfl rfl rfl rfl (fun c9 => ?_) (fun c9 => ?_)
      · skip
        exact o_T_byteAt_p30 (some (.ref x0)) (some (.int x1)) w
      · skip
        refine ok_seg (L := [((.aload_n 0), 1)]) (pc' := 22) (ls' := [some (.ref x0), some (.int x1)]) (st' := [.ref x0]) (w' := w) (by decide +kernel) rfl ?_
        refine ok_gr (by decide +kernel : decode m_T_byteAt.2.1 22 = .ok ((.getfield 9), 3)) rfl (by decide) (fun v10 h11 => ?_)
        refine ok_seg (L := [((.iload_n 1), 1)]) (pc' := 26) (ls' := [some (.ref x0), some (.int x1)]) (st' := [.int x1, .ref v10]) (w' := w) (by decide +kernel) rfl ?_
        refine ok_ai (by decide +kernel : decode m_T_byteAt.2.1 26 = .ok (.iaload, 1)) (fun v12 h13 => ?_)
        refine ok_goto (t := 31) (by decide +kernel : decode m_T_byteAt.2.1 27 = .ok ((.goto 4), 3)) rfl ?_
        exact o_T_byteAt_p31 v12 (some (.ref x0)) (some (.int x1)) w
-- m_R_isWord
def f_R_isWord_p24 (w : am_W) : Option (am_W × Int32) := (some (w, 0))
def f_R_isWord_p28 : Nat → Nat → Nat → Nat → Int32 → am_W → Option (am_W × Int32)
  | 0, _, _, _, _, _ => none
  | n + 1, x0, x1, x2, x3, w => ((am_tl w x2).bind fun v1 => (if v1 ≤ x3 then (some (w, 1)) else ((am_gi w x0 3 2).bind fun v4 => ((f_T_byteAt (x1) ((v4 + x3)) w).bind fun r6 => ((am_tc r6.1 x2 x3).bind fun v8 => (if r6.2 = v8 then (f_R_isWord_p28 n x0 x1 x2 (x3 + 1) r6.1) else (some (r6.1, 0))))))))
def e_R_isWord (x0 : Nat) (x1 : Nat) (x2 : Nat) (w : am_W) : Option (am_W × Int32) := ((am_gi w x0 3 1).bind fun v11 => (if ¬ v11 = 1 then (f_R_isWord_p24 w) else ((am_gi w x0 3 3).bind fun v14 => ((am_gi w x0 3 2).bind fun v16 => ((am_tl w x2).bind fun v18 => (if (v14 - v16) = v18 then (f_R_isWord_p28 am_N x0 x1 x2 0 w) else (f_R_isWord_p24 w)))))))
def f_R_isWord (x0 : Nat) (x1 : Nat) (x2 : Nat) (w : am_W) : Option (am_W × Int32) := am_self w x0 3 (e_R_isWord x0 x1 x2 w)
theorem o_R_isWord_p24 {d : Nat} (y0 y1 y2 y3 : Option Value) (w : am_W) : am_Ok am_ji (d + 1) m_R_isWord 24 [y0, y1, y2, y3] [] w (f_R_isWord_p24 w) := by
  unfold f_R_isWord_p24
  refine ok_seg (L := [((.iconst 0), 1)]) (pc' := 25) (ls' := [y0, y1, y2, y3]) (st' := [.int 0]) (w' := w) (by decide +kernel) rfl ?_
  exact ok_ret (v := 0) (by decide +kernel : decode m_R_isWord.2.1 25 = .ok (.ireturn, 1)) rfl
theorem o_R_isWord_p28 {d : Nat} : ∀ (n : Nat) (x0 : Nat) (x1 : Nat) (x2 : Nat) (x3 : Int32) (w : am_W), am_Ok am_ji (d + 1) m_R_isWord 28 [some (.ref x0), some (.ref x1), some (.ref x2), some (.int x3)] [] w (f_R_isWord_p28 n x0 x1 x2 x3 w) := by
  intro n
  induction n with
  | zero => intros; exact ok_none
  | succ n ih =>
    intro x0 x1 x2 x3 w
    unfold f_R_isWord_p28
    refine ok_seg (L := [((.iload_n 3), 1), ((.aload_n 2), 1)]) (pc' := 30) (ls' := [some (.ref x0), some (.ref x1), some (.ref x2), some (.int x3)]) (st' := [.ref x2, .int x3]) (w' := w) (by decide +kernel) rfl ?_
    refine ok_tl (by decide +kernel : decode m_R_isWord.2.1 30 = .ok ((.invokevirtual 114), 3)) rfl (Nat.le_of_ble_eq_true rfl) (fun v1 h2 => ?_)
    refine ok_br (P := v1 ≤ x3) (off := 29) (t := 62) (by decide +kernel : decode m_R_isWord.2.1 33 = .ok ((.if_icmp .ge 29), 3)) rfl rfl rfl rfl (fun c3 => ?_) (fun c3 => ?_)
    · skip
      refine ok_seg (L := [((.iconst 1), 1)]) (pc' := 63) (ls' := [some (.ref x0), some (.ref x1), some (.ref x2), some (.int x3)]) (st' := [.int 1]) (w' := w) (by decide +kernel) rfl ?_
      exact ok_ret (v := 1) (by decide +kernel : decode m_R_isWord.2.1 63 = .ok (.ireturn, 1)) rfl
    · skip
      refine ok_seg (L := [((.aload_n 1), 1), ((.aload_n 0), 1)]) (pc' := 38) (ls' := [some (.ref x0), some (.ref x1), some (.ref x2), some (.int x3)]) (st' := [.ref x0, .ref x1]) (w' := w) (by decide +kernel) rfl ?_
      refine ok_gi (by decide +kernel : decode m_R_isWord.2.1 38 = .ok ((.getfield 22), 3)) rfl (fun v4 h5 => ?_)
      refine ok_seg (L := [((.iload_n 3), 1), (.iadd, 1)]) (pc' := 43) (ls' := [some (.ref x0), some (.ref x1), some (.ref x2), some (.int x3)]) (st' := [.int (v4 + x3), .ref x1]) (w' := w) (by decide +kernel) rfl ?_
      refine ok_call0 (inj' := am_ji) (by decide +kernel : decode m_R_isWord.2.1 43 = .ok ((.invokevirtual 98), 3)) rfl (fun q hq => am_iv0 (am_self_eq hq).1 rfl rfl rfl) (o_T_byteAt (d + 0) (x1) ((v4 + x3)) w) (fun _ _ => rfl) (fun r6 h7 => ?_)
      refine ok_seg (L := [((.aload_n 2), 1), ((.iload_n 3), 1)]) (pc' := 48) (ls' := [some (.ref x0), some (.ref x1), some (.ref x2), some (.int x3)]) (st' := [.int x3, .ref x2, .int r6.2]) (w' := r6.1) (by decide +kernel) rfl ?_
      refine ok_tc (by decide +kernel : decode m_R_isWord.2.1 48 = .ok ((.invokevirtual 117), 3)) rfl (Nat.le_of_ble_eq_true rfl) (fun v8 h9 => ?_)
      refine ok_br (P := r6.2 = v8) (off := 5) (t := 56) (by decide +kernel : decode m_R_isWord.2.1 51 = .ok ((.if_icmp .eq 5), 3)) rfl rfl rfl rfl (fun c10 => ?_) (fun c10 => ?_)
      · skip
        refine ok_seg (L := [((.iinc 3 1), 3)]) (pc' := 59) (ls' := [some (.ref x0), some (.ref x1), some (.ref x2), some (.int (x3 + 1))]) (st' := []) (w' := r6.1) (by decide +kernel) rfl ?_
        refine ok_goto (t := 28) (by decide +kernel : decode m_R_isWord.2.1 59 = .ok ((.goto (-31)), 3)) rfl ?_
        exact ih x0 x1 x2 (x3 + 1) r6.1
      · skip
        refine ok_seg (L := [((.iconst 0), 1)]) (pc' := 55) (ls' := [some (.ref x0), some (.ref x1), some (.ref x2), some (.int x3)]) (st' := [.int 0]) (w' := r6.1) (by decide +kernel) rfl ?_
        exact ok_ret (v := 0) (by decide +kernel : decode m_R_isWord.2.1 55 = .ok (.ireturn, 1)) rfl
theorem o_R_isWord (d : Nat) (x0 : Nat) (x1 : Nat) (x2 : Nat) (w : am_W) : am_Ok am_ji (d + 1) m_R_isWord 0 (am_en m_R_isWord [.ref x0, .ref x1, .ref x2]) [] w (f_R_isWord x0 x1 x2 w) := by
  show am_Ok _ _ _ 0 [some (.ref x0), some (.ref x1), some (.ref x2), none] [] w _
  unfold f_R_isWord
  refine ok_self ?_
  unfold e_R_isWord
  refine ok_seg (L := [((.aload_n 0), 1)]) (pc' := 1) (ls' := [some (.ref x0), some (.ref x1), some (.ref x2), none]) (st' := [.ref x0]) (w' := w) (by decide +kernel) rfl ?_
  refine ok_gi (by decide +kernel : decode m_R_isWord.2.1 1 = .ok ((.getfield 18), 3)) rfl (fun v11 h12 => ?_)
  refine ok_seg (L := [((.iconst 1), 1)]) (pc' := 5) (ls' := [some (.ref x0), some (.ref x1), some (.ref x2), none]) (st' := [.int 1, .int v11]) (w' := w) (by decide +kernel) rfl ?_
  refine ok_br (P := ¬ v11 = 1) (off := 19) (t := 24) (by decide +kernel : decode m_R_isWord.2.1 5 = .ok ((.if_icmp .ne 19), 3)) rfl rfl rfl rfl (fun c13 => ?_) (fun c13 => ?_)
  · skip
    exact o_R_isWord_p24 (some (.ref x0)) (some (.ref x1)) (some (.ref x2)) none w
  · skip
    refine ok_seg (L := [((.aload_n 0), 1)]) (pc' := 9) (ls' := [some (.ref x0), some (.ref x1), some (.ref x2), none]) (st' := [.ref x0]) (w' := w) (by decide +kernel) rfl ?_
    refine ok_gi (by decide +kernel : decode m_R_isWord.2.1 9 = .ok ((.getfield 25), 3)) rfl (fun v14 h15 => ?_)
    refine ok_seg (L := [((.aload_n 0), 1)]) (pc' := 13) (ls' := [some (.ref x0), some (.ref x1), some (.ref x2), none]) (st' := [.ref x0, .int v14]) (w' := w) (by decide +kernel) rfl ?_
    refine ok_gi (by decide +kernel : decode m_R_isWord.2.1 13 = .ok ((.getfield 22), 3)) rfl (fun v16 h17 => ?_)
    refine ok_seg (L := [(.isub, 1), ((.aload_n 2), 1)]) (pc' := 18) (ls' := [some (.ref x0), some (.ref x1), some (.ref x2), none]) (st' := [.ref x2, .int (v14 - v16)]) (w' := w) (by decide +kernel) rfl ?_
    refine ok_tl (by decide +kernel : decode m_R_isWord.2.1 18 = .ok ((.invokevirtual 114), 3)) rfl (Nat.le_of_ble_eq_true rfl) (fun v18 h19 => ?_)
    refine ok_br (P := (v14 - v16) = v18) (off := 5) (t := 26) (by decide +kernel : decode m_R_isWord.2.1 21 = .ok ((.if_icmp .eq 5), 3)) rfl rfl rfl rfl (fun c20 => ?_) (fun c20 => ?_)
    · skip
      refine ok_seg (L := [((.iconst 0), 1), ((.istore_n 3), 1)]) (pc' := 28) (ls' := [some (.ref x0), some (.ref x1), some (.ref x2), some (.int 0)]) (st' := []) (w' := w) (by decide +kernel) rfl ?_
      exact o_R_isWord_p28 am_N x0 x1 x2 0 w
    · skip
      exact o_R_isWord_p24 (some (.ref x0)) (some (.ref x1)) (some (.ref x2)) none w
-- m_R_refuse
def e_R_refuse (x0 : Nat) (x1 : Int32) (w : am_W) : Option (am_W × Int32) := ((am_pv w x0 3 5 (.int x1)).bind fun w1 => (some (w1, 0)))
def f_R_refuse (x0 : Nat) (x1 : Int32) (w : am_W) : Option (am_W × Int32) := am_self w x0 3 (e_R_refuse x0 x1 w)
theorem o_R_refuse (d : Nat) (x0 : Nat) (x1 : Int32) (w : am_W) : am_Ok am_ji (d + 0) m_R_refuse 0 (am_en m_R_refuse [.ref x0, .int x1]) [] w (f_R_refuse x0 x1 w) := by
  show am_Ok _ _ _ 0 [some (.ref x0), some (.int x1)] [] w _
  unfold f_R_refuse
  refine ok_self ?_
  unfold e_R_refuse
  refine ok_seg (L := [((.aload_n 0), 1), ((.iload_n 1), 1)]) (pc' := 2) (ls' := [some (.ref x0), some (.int x1)]) (st' := [.int x1, .ref x0]) (w' := w) (by decide +kernel) rfl ?_
  refine ok_pi (by decide +kernel : decode m_R_refuse.2.1 2 = .ok ((.putfield 31), 3)) rfl (fun w1 h2 => ?_)
  refine ok_seg (L := [((.iconst 0), 1)]) (pc' := 6) (ls' := [some (.ref x0), some (.int x1)]) (st' := [.int 0]) (w' := w1) (by decide +kernel) rfl ?_
  exact ok_ret (v := 0) (by decide +kernel : decode m_R_refuse.2.1 6 = .ok (.ireturn, 1)) rfl
-- m_R_isBlank
def f_R_isBlank_p17 (s0 : Int32) (w : am_W) : Option (am_W × Int32) := (am_rb w s0)
def f_R_isBlank_p12 (w : am_W) : Option (am_W × Int32) := (f_R_isBlank_p17 1 w)
def e_R_isBlank (x0 : Int32) (w : am_W) : Option (am_W × Int32) := (if x0 = 32 then (f_R_isBlank_p12 w) else (if ¬ x0 = 10 then (f_R_isBlank_p17 0 w) else (f_R_isBlank_p12 w)))
def f_R_isBlank (x0 : Int32) (w : am_W) : Option (am_W × Int32) := e_R_isBlank x0 w
theorem o_R_isBlank_p17 {d : Nat} (s0 : Int32) (y0 : Option Value) (w : am_W) : am_Ok am_ji (d + 0) m_R_isBlank 17 [y0] [.int s0] w (f_R_isBlank_p17 s0 w) := by
  unfold f_R_isBlank_p17
  exact ok_retb (len := 1) (by decide +kernel : decode m_R_isBlank.2.1 17 = .ok (.ireturn, 1)) rfl
theorem o_R_isBlank_p12 {d : Nat} (y0 : Option Value) (w : am_W) : am_Ok am_ji (d + 0) m_R_isBlank 12 [y0] [] w (f_R_isBlank_p12 w) := by
  unfold f_R_isBlank_p12
  refine ok_seg (L := [((.iconst 1), 1)]) (pc' := 13) (ls' := [y0]) (st' := [.int 1]) (w' := w) (by decide +kernel) rfl ?_
  refine ok_goto (t := 17) (by decide +kernel : decode m_R_isBlank.2.1 13 = .ok ((.goto 4), 3)) rfl ?_
  exact o_R_isBlank_p17 1 y0 w
theorem o_R_isBlank (d : Nat) (x0 : Int32) (w : am_W) : am_Ok am_ji (d + 0) m_R_isBlank 0 (am_en m_R_isBlank [.int x0]) [] w (f_R_isBlank x0 w) := by
  show am_Ok _ _ _ 0 [some (.int x0)] [] w _
  unfold f_R_isBlank
  unfold e_R_isBlank
  refine ok_seg (L := [((.iload_n 0), 1), ((.bipush 32), 2)]) (pc' := 3) (ls' := [some (.int x0)]) (st' := [.int 32, .int x0]) (w' := w) (by decide +kernel) rfl ?_
  refine ok_br (P := x0 = 32) (off := 9) (t := 12) (by decide +kernel : decode m_R_isBlank.2.1 3 = .ok ((.if_icmp .eq 9), 3)) rfl rfl rfl rfl (fun c1 => ?_) (fun c1 => ?_)
  · skip
    exact o_R_isBlank_p12 (some (.int x0)) w
  · skip
    refine ok_seg (L := [((.iload_n 0), 1), ((.bipush 10), 2)]) (pc' := 9) (ls' := [some (.int x0)]) (st' := [.int 10, .int x0]) (w' := w) (by decide +kernel) rfl ?_
    refine ok_br (P := ¬ x0 = 10) (off := 7) (t := 16) (by decide +kernel : decode m_R_isBlank.2.1 9 = .ok ((.if_icmp .ne 7), 3)) rfl rfl rfl rfl (fun c2 => ?_) (fun c2 => ?_)
    · skip
      refine ok_seg (L := [((.iconst 0), 1)]) (pc' := 17) (ls' := [some (.int x0)]) (st' := [.int 0]) (w' := w) (by decide +kernel) rfl ?_
      exact o_R_isBlank_p17 0 (some (.int x0)) w
    · skip
      exact o_R_isBlank_p12 (some (.int x0)) w
-- m_R_isDigit
def f_R_isDigit_p17 (s0 : Int32) (w : am_W) : Option (am_W × Int32) := (am_rb w s0)
def f_R_isDigit_p16 (w : am_W) : Option (am_W × Int32) := (f_R_isDigit_p17 0 w)
def e_R_isDigit (x0 : Int32) (w : am_W) : Option (am_W × Int32) := (if x0 < 48 then (f_R_isDigit_p16 w) else (if 57 < x0 then (f_R_isDigit_p16 w) else (f_R_isDigit_p17 1 w)))
def f_R_isDigit (x0 : Int32) (w : am_W) : Option (am_W × Int32) := e_R_isDigit x0 w
theorem o_R_isDigit_p17 {d : Nat} (s0 : Int32) (y0 : Option Value) (w : am_W) : am_Ok am_ji (d + 0) m_R_isDigit 17 [y0] [.int s0] w (f_R_isDigit_p17 s0 w) := by
  unfold f_R_isDigit_p17
  exact ok_retb (len := 1) (by decide +kernel : decode m_R_isDigit.2.1 17 = .ok (.ireturn, 1)) rfl
theorem o_R_isDigit_p16 {d : Nat} (y0 : Option Value) (w : am_W) : am_Ok am_ji (d + 0) m_R_isDigit 16 [y0] [] w (f_R_isDigit_p16 w) := by
  unfold f_R_isDigit_p16
  refine ok_seg (L := [((.iconst 0), 1)]) (pc' := 17) (ls' := [y0]) (st' := [.int 0]) (w' := w) (by decide +kernel) rfl ?_
  exact o_R_isDigit_p17 0 y0 w
theorem o_R_isDigit (d : Nat) (x0 : Int32) (w : am_W) : am_Ok am_ji (d + 0) m_R_isDigit 0 (am_en m_R_isDigit [.int x0]) [] w (f_R_isDigit x0 w) := by
  show am_Ok _ _ _ 0 [some (.int x0)] [] w _
  unfold f_R_isDigit
  unfold e_R_isDigit
  refine ok_seg (L := [((.iload_n 0), 1), ((.bipush 48), 2)]) (pc' := 3) (ls' := [some (.int x0)]) (st' := [.int 48, .int x0]) (w' := w) (by decide +kernel) rfl ?_
  refine ok_br (P := x0 < 48) (off := 13) (t := 16) (by decide +kernel : decode m_R_isDigit.2.1 3 = .ok ((.if_icmp .lt 13), 3)) rfl rfl rfl rfl (fun c1 => ?_) (fun c1 => ?_)
  · skip
    exact o_R_isDigit_p16 (some (.int x0)) w
  · skip
    refine ok_seg (L := [((.iload_n 0), 1), ((.bipush 57), 2)]) (pc' := 9) (ls' := [some (.int x0)]) (st' := [.int 57, .int x0]) (w' := w) (by decide +kernel) rfl ?_
    refine ok_br (P := 57 < x0) (off := 7) (t := 16) (by decide +kernel : decode m_R_isDigit.2.1 9 = .ok ((.if_icmp .gt 7), 3)) rfl rfl rfl rfl (fun c2 => ?_) (fun c2 => ?_)
    · skip
      exact o_R_isDigit_p16 (some (.int x0)) w
    · skip
      refine ok_seg (L := [((.iconst 1), 1)]) (pc' := 13) (ls' := [some (.int x0)]) (st' := [.int 1]) (w' := w) (by decide +kernel) rfl ?_
      refine ok_goto (t := 17) (by decide +kernel : decode m_R_isDigit.2.1 13 = .ok ((.goto 4), 3)) rfl ?_
      exact o_R_isDigit_p17 1 (some (.int x0)) w
-- m_R_isLetter
def f_R_isLetter_p17 (s0 : Int32) (w : am_W) : Option (am_W × Int32) := (am_rb w s0)
def f_R_isLetter_p16 (w : am_W) : Option (am_W × Int32) := (f_R_isLetter_p17 0 w)
def e_R_isLetter (x0 : Int32) (w : am_W) : Option (am_W × Int32) := (if x0 < 97 then (f_R_isLetter_p16 w) else (if 122 < x0 then (f_R_isLetter_p16 w) else (f_R_isLetter_p17 1 w)))
def f_R_isLetter (x0 : Int32) (w : am_W) : Option (am_W × Int32) := e_R_isLetter x0 w
theorem o_R_isLetter_p17 {d : Nat} (s0 : Int32) (y0 : Option Value) (w : am_W) : am_Ok am_ji (d + 0) m_R_isLetter 17 [y0] [.int s0] w (f_R_isLetter_p17 s0 w) := by
  unfold f_R_isLetter_p17
  exact ok_retb (len := 1) (by decide +kernel : decode m_R_isLetter.2.1 17 = .ok (.ireturn, 1)) rfl
theorem o_R_isLetter_p16 {d : Nat} (y0 : Option Value) (w : am_W) : am_Ok am_ji (d + 0) m_R_isLetter 16 [y0] [] w (f_R_isLetter_p16 w) := by
  unfold f_R_isLetter_p16
  refine ok_seg (L := [((.iconst 0), 1)]) (pc' := 17) (ls' := [y0]) (st' := [.int 0]) (w' := w) (by decide +kernel) rfl ?_
  exact o_R_isLetter_p17 0 y0 w
theorem o_R_isLetter (d : Nat) (x0 : Int32) (w : am_W) : am_Ok am_ji (d + 0) m_R_isLetter 0 (am_en m_R_isLetter [.int x0]) [] w (f_R_isLetter x0 w) := by
  show am_Ok _ _ _ 0 [some (.int x0)] [] w _
  unfold f_R_isLetter
  unfold e_R_isLetter
  refine ok_seg (L := [((.iload_n 0), 1), ((.bipush 97), 2)]) (pc' := 3) (ls' := [some (.int x0)]) (st' := [.int 97, .int x0]) (w' := w) (by decide +kernel) rfl ?_
  refine ok_br (P := x0 < 97) (off := 13) (t := 16) (by decide +kernel : decode m_R_isLetter.2.1 3 = .ok ((.if_icmp .lt 13), 3)) rfl rfl rfl rfl (fun c1 => ?_) (fun c1 => ?_)
  · skip
    exact o_R_isLetter_p16 (some (.int x0)) w
  · skip
    refine ok_seg (L := [((.iload_n 0), 1), ((.bipush 122), 2)]) (pc' := 9) (ls' := [some (.int x0)]) (st' := [.int 122, .int x0]) (w' := w) (by decide +kernel) rfl ?_
    refine ok_br (P := 122 < x0) (off := 7) (t := 16) (by decide +kernel : decode m_R_isLetter.2.1 9 = .ok ((.if_icmp .gt 7), 3)) rfl rfl rfl rfl (fun c2 => ?_) (fun c2 => ?_)
    · skip
      exact o_R_isLetter_p16 (some (.int x0)) w
    · skip
      refine ok_seg (L := [((.iconst 1), 1)]) (pc' := 13) (ls' := [some (.int x0)]) (st' := [.int 1]) (w' := w) (by decide +kernel) rfl ?_
      refine ok_goto (t := 17) (by decide +kernel : decode m_R_isLetter.2.1 13 = .ok ((.goto 4), 3)) rfl ?_
      exact o_R_isLetter_p17 1 (some (.int x0)) w
-- m_R_readRun
def f_R_readRun_p132 (w : am_W) : Option (am_W × Unit) := (some (w, ()))
def f_R_readRun_p129 (s0 : Nat) (s1 : Int32) (w : am_W) : Option (am_W × Unit) := ((am_pv w s0 3 1 (.int s1)).bind fun w1 => (f_R_readRun_p132 w1))
def f_R_readRun_p128 (s0 : Nat) (w : am_W) : Option (am_W × Unit) := (f_R_readRun_p129 s0 4 w)
def f_R_readRun_p124 (s0 : Nat) (w : am_W) : Option (am_W × Unit) := (f_R_readRun_p129 s0 2 w)
def f_R_readRun_p109 (x0 : Nat) (x2 : Int32) (x3 : Int32) (w : am_W) : Option (am_W × Unit) := (if ¬ x2 = 0 then (f_R_readRun_p128 x0 w) else (if x3 = 1 then (f_R_readRun_p124 x0 w) else (if ¬ x3 = 2 then (f_R_readRun_p128 x0 w) else (f_R_readRun_p124 x0 w))))
def f_R_readRun_p93 (x0 : Nat) (x2 : Int32) (x3 : Int32) (w : am_W) : Option (am_W × Unit) := (if x2 ≤ 0 then (f_R_readRun_p109 x0 x2 x3 w) else (if ¬ x3 = 0 then (f_R_readRun_p109 x0 x2 x3 w) else ((am_pv w x0 3 1 (.int 1)).bind fun w8 => (f_R_readRun_p132 w8))))
def f_R_readRun_p80 (k17 : Nat → Nat → Int32 → Int32 → am_W → Option (am_W × Unit)) (x0 : Nat) (x1 : Nat) (x2 : Int32) (x3 : Int32) (w : am_W) : Option (am_W × Unit) := ((am_gi w x0 3 3).bind fun v10 => ((am_pv w x0 3 3 (.int (v10 + 1))).bind fun w12 => (k17 x0 x1 x2 x3 w12)))
def f_R_readRun_p17 : Nat → Nat → Nat → Int32 → Int32 → am_W → Option (am_W × Unit)
  | 0, _, _, _, _, _ => none
  | n + 1, x0, x1, x2, x3, w => ((am_gi w x0 3 3).bind fun v14 => ((f_T_length (x1) w).bind fun r16 => (if r16.2 ≤ v14 then (f_R_readRun_p93 x0 x2 x3 r16.1) else ((am_gi r16.1 x0 3 3).bind fun v19 => ((f_T_byteAt (x1) (v19) r16.1).bind fun r21 => ((f_R_isLetter (r21.2) r21.1).bind fun r23 => (if r23.2 = 0 then ((f_R_isDigit (r21.2) r23.1).bind fun r26 => (if r26.2 = 0 then (f_R_readRun_p93 x0 x2 x3 r26.1) else ((am_gi r26.1 x0 3 4).bind fun v29 => ((am_pv r26.1 x0 3 4 (.int (((v29 * 10) + r21.2) - 48))).bind fun w31 => (f_R_readRun_p80 (f_R_readRun_p17 n) x0 x1 x2 (x3 + 1) w31))))) else (f_R_readRun_p80 (f_R_readRun_p17 n) x0 x1 (x2 + 1) x3 r23.1))))))))
def e_R_readRun (x0 : Nat) (x1 : Nat) (w : am_W) : Option (am_W × Unit) := ((am_pv w x0 3 4 (.int 0)).bind fun w33 => ((am_gi w33 x0 3 2).bind fun v35 => ((am_pv w33 x0 3 3 (.int v35)).bind fun w37 => (f_R_readRun_p17 am_N x0 x1 0 0 w37))))
def f_R_readRun (x0 : Nat) (x1 : Nat) (w : am_W) : Option (am_W × Unit) := am_self w x0 3 (e_R_readRun x0 x1 w)
theorem o_R_readRun_p132 {d : Nat} (y0 y1 y2 y3 y4 : Option Value) (w : am_W) : am_Ok am_jv (d + 1) m_R_readRun 132 [y0, y1, y2, y3, y4] [] w (f_R_readRun_p132 w) := by
  unfold f_R_readRun_p132
  exact ok_ret (v := ()) (by decide +kernel : decode m_R_readRun.2.1 132 = .ok (.return_, 1)) rfl
theorem o_R_readRun_p129 {d : Nat} (s0 : Nat) (s1 : Int32) (y0 y1 y2 y3 y4 : Option Value) (w : am_W) : am_Ok am_jv (d + 1) m_R_readRun 129 [y0, y1, y2, y3, y4] [.int s1, .ref s0] w (f_R_readRun_p129 s0 s1 w) := by
  unfold f_R_readRun_p129
  refine ok_pi (by decide +kernel : decode m_R_readRun.2.1 129 = .ok ((.putfield 18), 3)) rfl (fun w1 h2 => ?_)
  exact o_R_readRun_p132 y0 y1 y2 y3 y4 w1
theorem o_R_readRun_p128 {d : Nat} (s0 : Nat) (y0 y1 y2 y3 y4 : Option Value) (w : am_W) : am_Ok am_jv (d + 1) m_R_readRun 128 [y0, y1, y2, y3, y4] [.ref s0] w (f_R_readRun_p128 s0 w) := by
  unfold f_R_readRun_p128
  refine ok_seg (L := [((.iconst 4), 1)]) (pc' := 129) (ls' := [y0, y1, y2, y3, y4]) (st' := [.int 4, .ref s0]) (w' := w) (by decide +kernel) rfl ?_
  exact o_R_readRun_p129 s0 4 y0 y1 y2 y3 y4 w
theorem o_R_readRun_p124 {d : Nat} (s0 : Nat) (y0 y1 y2 y3 y4 : Option Value) (w : am_W) : am_Ok am_jv (d + 1) m_R_readRun 124 [y0, y1, y2, y3, y4] [.ref s0] w (f_R_readRun_p124 s0 w) := by
  unfold f_R_readRun_p124
  refine ok_seg (L := [((.iconst 2), 1)]) (pc' := 125) (ls' := [y0, y1, y2, y3, y4]) (st' := [.int 2, .ref s0]) (w' := w) (by decide +kernel) rfl ?_
  refine ok_goto (t := 129) (by decide +kernel : decode m_R_readRun.2.1 125 = .ok ((.goto 4), 3)) rfl ?_
  exact o_R_readRun_p129 s0 2 y0 y1 y2 y3 y4 w
theorem o_R_readRun_p109 {d : Nat} (x0 : Nat) (x2 : Int32) (x3 : Int32) (y1 y4 : Option Value) (w : am_W) : am_Ok am_jv (d + 1) m_R_readRun 109 [some (.ref x0), y1, some (.int x2), some (.int x3), y4] [] w (f_R_readRun_p109 x0 x2 x3 w) := by
  unfold f_R_readRun_p109
  refine ok_seg (L := [((.aload_n 0), 1), ((.iload_n 2), 1)]) (pc' := 111) (ls' := [some (.ref x0), y1, some (.int x2), some (.int x3), y4]) (st' := [.int x2, .ref x0]) (w' := w) (by decide +kernel) rfl ?_
  refine ok_br (P := ¬ x2 = 0) (off := 17) (t := 128) (by decide +kernel : decode m_R_readRun.2.1 111 = .ok ((.ifCond .ne 17), 3)) rfl rfl rfl rfl (fun c3 => ?_) (fun c3 => ?_)
  · skip
    exact o_R_readRun_p128 x0 (some (.ref x0)) y1 (some (.int x2)) (some (.int x3)) y4 w
  · skip
    refine ok_seg (L := [((.iload_n 3), 1), ((.iconst 1), 1)]) (pc' := 116) (ls' := [some (.ref x0), y1, some (.int x2), some (.int x3), y4]) (st' := [.int 1, .int x3, .ref x0]) (w' := w) (by decide +kernel) rfl ?_
    refine ok_br (P := x3 = 1) (off := 8) (t := 124) (by decide +kernel : decode m_R_readRun.2.1 116 = .ok ((.if_icmp .eq 8), 3)) rfl rfl rfl rfl (fun c4 => ?_) (fun c4 => ?_)
    · skip
      exact o_R_readRun_p124 x0 (some (.ref x0)) y1 (some (.int x2)) (some (.int x3)) y4 w
    · skip
      refine ok_seg (L := [((.iload_n 3), 1), ((.iconst 2), 1)]) (pc' := 121) (ls' := [some (.ref x0), y1, some (.int x2), some (.int x3), y4]) (st' := [.int 2, .int x3, .ref x0]) (w' := w) (by decide +kernel) rfl ?_
      refine ok_br (P := ¬ x3 = 2) (off := 7) (t := 128) (by decide +kernel : decode m_R_readRun.2.1 121 = .ok ((.if_icmp .ne 7), 3)) rfl rfl rfl rfl (fun c5 => ?_) (fun c5 => ?_)
      · skip
        exact o_R_readRun_p128 x0 (some (.ref x0)) y1 (some (.int x2)) (some (.int x3)) y4 w
      · skip
        exact o_R_readRun_p124 x0 (some (.ref x0)) y1 (some (.int x2)) (some (.int x3)) y4 w
theorem o_R_readRun_p93 {d : Nat} (x0 : Nat) (x2 : Int32) (x3 : Int32) (y1 y4 : Option Value) (w : am_W) : am_Ok am_jv (d + 1) m_R_readRun 93 [some (.ref x0), y1, some (.int x2), some (.int x3), y4] [] w (f_R_readRun_p93 x0 x2 x3 w) := by
  unfold f_R_readRun_p93
  refine ok_seg (L := [((.iload_n 2), 1)]) (pc' := 94) (ls' := [some (.ref x0), y1, some (.int x2), some (.int x3), y4]) (st' := [.int x2]) (w' := w) (by decide +kernel) rfl ?_
  refine ok_br (P := x2 ≤ 0) (off := 15) (t := 109) (by decide +kernel : decode m_R_readRun.2.1 94 = .ok ((.ifCond .le 15), 3)) rfl rfl rfl rfl (fun c6 => ?_) (fun c6 => ?_)
  · skip
    exact o_R_readRun_p109 x0 x2 x3 y1 y4 w
  · skip
    refine ok_seg (L := [((.iload_n 3), 1)]) (pc' := 98) (ls' := [some (.ref x0), y1, some (.int x2), some (.int x3), y4]) (st' := [.int x3]) (w' := w) (by decide +kernel) rfl ?_
    refine ok_br (P := ¬ x3 = 0) (off := 11) (t := 109) (by decide +kernel : decode m_R_readRun.2.1 98 = .ok ((.ifCond .ne 11), 3)) rfl rfl rfl rfl (fun c7 => ?_) (fun c7 => ?_)
    · skip
      exact o_R_readRun_p109 x0 x2 x3 y1 y4 w
    · skip
      refine ok_seg (L := [((.aload_n 0), 1), ((.iconst 1), 1)]) (pc' := 103) (ls' := [some (.ref x0), y1, some (.int x2), some (.int x3), y4]) (st' := [.int 1, .ref x0]) (w' := w) (by decide +kernel) rfl ?_
      refine ok_pi (by decide +kernel : decode m_R_readRun.2.1 103 = .ok ((.putfield 18), 3)) rfl (fun w8 h9 => ?_)
      refine ok_goto (t := 132) (by decide +kernel : decode m_R_readRun.2.1 106 = .ok ((.goto 26), 3)) rfl ?_
      exact o_R_readRun_p132 (some (.ref x0)) y1 (some (.int x2)) (some (.int x3)) y4 w8
theorem o_R_readRun_p80 {d : Nat} {k17 : Nat → Nat → Int32 → Int32 → am_W → Option (am_W × Unit)} (hk17 : ∀ (x0 : Nat) (x1 : Nat) (x2 : Int32) (x3 : Int32) (y4 : Option Value) (w : am_W), am_Ok am_jv (d + 1) m_R_readRun 17 [some (.ref x0), some (.ref x1), some (.int x2), some (.int x3), y4] [] w (k17 x0 x1 x2 x3 w)) (x0 : Nat) (x1 : Nat) (x2 : Int32) (x3 : Int32) (y4 : Option Value) (w : am_W) : am_Ok am_jv (d + 1) m_R_readRun 80 [some (.ref x0), some (.ref x1), some (.int x2), some (.int x3), y4] [] w (f_R_readRun_p80 k17 x0 x1 x2 x3 w) := by
  unfold f_R_readRun_p80
  refine ok_seg (L := [((.aload_n 0), 1), (.dup, 1)]) (pc' := 82) (ls' := [some (.ref x0), some (.ref x1), some (.int x2), some (.int x3), y4]) (st' := [.ref x0, .ref x0]) (w' := w) (by decide +kernel) rfl ?_
  refine ok_gi (by decide +kernel : decode m_R_readRun.2.1 82 = .ok ((.getfield 25), 3)) rfl (fun v10 h11 => ?_)
  refine ok_seg (L := [((.iconst 1), 1), (.iadd, 1)]) (pc' := 87) (ls' := [some (.ref x0), some (.ref x1), some (.int x2), some (.int x3), y4]) (st' := [.int (v10 + 1), .ref x0]) (w' := w) (by decide +kernel) rfl ?_
  refine ok_pi (by decide +kernel : decode m_R_readRun.2.1 87 = .ok ((.putfield 25), 3)) rfl (fun w12 h13 => ?_)
  refine ok_goto (t := 17) (by decide +kernel : decode m_R_readRun.2.1 90 = .ok ((.goto (-73)), 3)) rfl ?_
  exact hk17 x0 x1 x2 x3 y4 w12
theorem o_R_readRun_p17 {d : Nat} : ∀ (n : Nat) (x0 : Nat) (x1 : Nat) (x2 : Int32) (x3 : Int32) (y4 : Option Value) (w : am_W), am_Ok am_jv (d + 1) m_R_readRun 17 [some (.ref x0), some (.ref x1), some (.int x2), some (.int x3), y4] [] w (f_R_readRun_p17 n x0 x1 x2 x3 w) := by
  intro n
  induction n with
  | zero => intros; exact ok_none
  | succ n ih =>
    intro x0 x1 x2 x3 y4 w
    unfold f_R_readRun_p17
    refine ok_seg (L := [((.aload_n 0), 1)]) (pc' := 18) (ls' := [some (.ref x0), some (.ref x1), some (.int x2), some (.int x3), y4]) (st' := [.ref x0]) (w' := w) (by decide +kernel) rfl ?_
    refine ok_gi (by decide +kernel : decode m_R_readRun.2.1 18 = .ok ((.getfield 25), 3)) rfl (fun v14 h15 => ?_)
    refine ok_seg (L := [((.aload_n 1), 1)]) (pc' := 22) (ls' := [some (.ref x0), some (.ref x1), some (.int x2), some (.int x3), y4]) (st' := [.ref x1, .int v14]) (w' := w) (by decide +kernel) rfl ?_
    refine ok_call0 (inj' := am_ji) (by decide +kernel : decode m_R_readRun.2.1 22 = .ok ((.invokevirtual 48), 3)) rfl (fun q hq => am_iv0 (am_self_eq hq).1 rfl rfl rfl) (o_T_length (d + 0) (x1) w) (fun _ _ => rfl) (fun r16 h17 => ?_)
    refine ok_br (P := r16.2 ≤ v14) (off := 68) (t := 93) (by decide +kernel : decode m_R_readRun.2.1 25 = .ok ((.if_icmp .ge 68), 3)) rfl rfl rfl rfl (fun c18 => ?_) (fun c18 => ?_)
    · skip
      exact o_R_readRun_p93 x0 x2 x3 (some (.ref x1)) y4 r16.1
    · skip
      refine ok_seg (L := [((.aload_n 1), 1), ((.aload_n 0), 1)]) (pc' := 30) (ls' := [some (.ref x0), some (.ref x1), some (.int x2), some (.int x3), y4]) (st' := [.ref x0, .ref x1]) (w' := r16.1) (by decide +kernel) rfl ?_
      refine ok_gi (by decide +kernel : decode m_R_readRun.2.1 30 = .ok ((.getfield 25), 3)) rfl (fun v19 h20 => ?_)
      refine ok_call0 (inj' := am_ji) (by decide +kernel : decode m_R_readRun.2.1 33 = .ok ((.invokevirtual 98), 3)) rfl (fun q hq => am_iv0 (am_self_eq hq).1 rfl rfl rfl) (o_T_byteAt (d + 0) (x1) (v19) r16.1) (fun _ _ => rfl) (fun r21 h22 => ?_)
      refine ok_seg (L := [((.istore 4), 2), ((.iload 4), 2)]) (pc' := 40) (ls' := [some (.ref x0), some (.ref x1), some (.int x2), some (.int x3), some (.int r21.2)]) (st' := [.int r21.2]) (w' := r21.1) (by decide +kernel) rfl ?_
      refine ok_call0 (inj' := am_ji) (by decide +kernel : decode m_R_readRun.2.1 40 = .ok ((.invokestatic 108), 3)) rfl (fun _ _ => rfl) (o_R_isLetter (d + 0) (r21.2) r21.1) (fun _ _ => rfl) (fun r23 h24 => ?_)
      refine ok_br (P := r23.2 = 0) (off := 9) (t := 52) (by decide +kernel : decode m_R_readRun.2.1 43 = .ok ((.ifCond .eq 9), 3)) rfl rfl rfl rfl (fun c25 => ?_) (fun c25 => ?_)
      · skip
        refine ok_seg (L := [((.iload 4), 2)]) (pc' := 54) (ls' := [some (.ref x0), some (.ref x1), some (.int x2), some (.int x3), some (.int r21.2)]) (st' := [.int r21.2]) (w' := r23.1) (by decide +kernel) rfl ?_
        refine ok_call0 (inj' := am_ji) (by decide +kernel : decode m_R_readRun.2.1 54 = .ok ((.invokestatic 111), 3)) rfl (fun _ _ => rfl) (o_R_isDigit (d + 0) (r21.2) r23.1) (fun _ _ => rfl) (fun r26 h27 => ?_)
        refine ok_br (P := r26.2 = 0) (off := 36) (t := 93) (by decide +kernel : decode m_R_readRun.2.1 57 = .ok ((.ifCond .eq 36), 3)) rfl rfl rfl rfl (fun c28 => ?_) (fun c28 => ?_)
        · skip
          exact o_R_readRun_p93 x0 x2 x3 (some (.ref x1)) (some (.int r21.2)) r26.1
        · skip
          refine ok_seg (L := [((.iinc 3 1), 3), ((.aload_n 0), 1), ((.aload_n 0), 1)]) (pc' := 65) (ls' := [some (.ref x0), some (.ref x1), some (.int x2), some (.int (x3 + 1)), some (.int r21.2)]) (st' := [.ref x0, .ref x0]) (w' := r26.1) (by decide +kernel) rfl ?_
          refine ok_gi (by decide +kernel : decode m_R_readRun.2.1 65 = .ok ((.getfield 28), 3)) rfl (fun v29 h30 => ?_)
          refine ok_seg (L := [((.bipush 10), 2), (.imul, 1), ((.iload 4), 2), (.iadd, 1), ((.bipush 48), 2), (.isub, 1)]) (pc' := 77) (ls' := [some (.ref x0), some (.ref x1), some (.int x2), some (.int (x3 + 1)), some (.int r21.2)]) (st' := [.int (((v29 * 10) + r21.2) - 48), .ref x0]) (w' := r26.1) (by decide +kernel) rfl ?_
          refine ok_pi (by decide +kernel : decode m_R_readRun.2.1 77 = .ok ((.putfield 28), 3)) rfl (fun w31 h32 => ?_)
          exact o_R_readRun_p80 ih x0 x1 x2 (x3 + 1) (some (.int r21.2)) w31
      · skip
        refine ok_seg (L := [((.iinc 2 1), 3)]) (pc' := 49) (ls' := [some (.ref x0), some (.ref x1), some (.int (x2 + 1)), some (.int x3), some (.int r21.2)]) (st' := []) (w' := r23.1) (by decide +kernel) rfl ?_
        refine ok_goto (t := 80) (by decide +kernel : decode m_R_readRun.2.1 49 = .ok ((.goto 31), 3)) rfl ?_
        exact o_R_readRun_p80 ih x0 x1 (x2 + 1) x3 (some (.int r21.2)) r23.1
theorem o_R_readRun (d : Nat) (x0 : Nat) (x1 : Nat) (w : am_W) : am_Ok am_jv (d + 1) m_R_readRun 0 (am_en m_R_readRun [.ref x0, .ref x1]) [] w (f_R_readRun x0 x1 w) := by
  show am_Ok _ _ _ 0 [some (.ref x0), some (.ref x1), none, none, none] [] w _
  unfold f_R_readRun
  refine ok_self ?_
  unfold e_R_readRun
  refine ok_seg (L := [((.iconst 0), 1), ((.istore_n 2), 1), ((.iconst 0), 1), ((.istore_n 3), 1), ((.aload_n 0), 1), ((.iconst 0), 1)]) (pc' := 6) (ls' := [some (.ref x0), some (.ref x1), some (.int 0), some (.int 0), none]) (st' := [.int 0, .ref x0]) (w' := w) (by decide +kernel) rfl ?_
  refine ok_pi (by decide +kernel : decode m_R_readRun.2.1 6 = .ok ((.putfield 28), 3)) rfl (fun w33 h34 => ?_)
  refine ok_seg (L := [((.aload_n 0), 1), ((.aload_n 0), 1)]) (pc' := 11) (ls' := [some (.ref x0), some (.ref x1), some (.int 0), some (.int 0), none]) (st' := [.ref x0, .ref x0]) (w' := w33) (by decide +kernel) rfl ?_
  refine ok_gi (by decide +kernel : decode m_R_readRun.2.1 11 = .ok ((.getfield 22), 3)) rfl (fun v35 h36 => ?_)
  refine ok_pi (by decide +kernel : decode m_R_readRun.2.1 14 = .ok ((.putfield 25), 3)) rfl (fun w37 h38 => ?_)
  exact o_R_readRun_p17 am_N x0 x1 0 0 none w37
-- m_R_step
def f_R_step_p110 (w : am_W) : Option (am_W × Unit) := (some (w, ()))
def f_R_step_p46 (x0 : Nat) (x1 : Nat) (x2 : Int32) (w : am_W) : Option (am_W × Unit) := ((am_gi w x0 3 3).bind fun v1 => ((am_pv w x0 3 2 (.int (am_min v1 x2))).bind fun w3 => ((am_gi w3 x0 3 3).bind fun v5 => (if v5 < x2 then ((am_gi w3 x0 3 3).bind fun v8 => ((f_T_byteAt (x1) (v8) w3).bind fun r10 => (if ¬ r10.2 = 59 then ((f_R_readRun (x0) (x1) r10.1).bind fun r13 => (f_R_step_p110 r13.1)) else ((am_pv r10.1 x0 3 1 (.int 3)).bind fun w15 => ((am_gi w15 x0 3 3).bind fun v17 => ((am_pv w15 x0 3 3 (.int (v17 + 1))).bind fun w19 => (f_R_step_p110 w19))))))) else ((am_pv w3 x0 3 1 (.int 0)).bind fun w21 => (f_R_step_p110 w21))))))
def f_R_step_p11 : Nat → Nat → Nat → Int32 → am_W → Option (am_W × Unit)
  | 0, _, _, _, _ => none
  | n + 1, x0, x1, x2, w => ((am_gi w x0 3 3).bind fun v23 => (if x2 ≤ v23 then (f_R_step_p46 x0 x1 x2 w) else ((am_gi w x0 3 3).bind fun v26 => ((f_T_byteAt (x1) (v26) w).bind fun r28 => ((f_R_isBlank (r28.2) r28.1).bind fun r30 => (if r30.2 = 0 then (f_R_step_p46 x0 x1 x2 r30.1) else ((am_gi r30.1 x0 3 3).bind fun v33 => ((am_pv r30.1 x0 3 3 (.int (v33 + 1))).bind fun w35 => (f_R_step_p11 n x0 x1 x2 w35)))))))))
def e_R_step (x0 : Nat) (x1 : Nat) (w : am_W) : Option (am_W × Unit) := ((f_T_length (x1) w).bind fun r37 => (f_R_step_p11 am_N x0 x1 (am_min r37.2 400) r37.1))
def f_R_step (x0 : Nat) (x1 : Nat) (w : am_W) : Option (am_W × Unit) := am_self w x0 3 (e_R_step x0 x1 w)
theorem o_R_step_p110 {d : Nat} (y0 y1 y2 : Option Value) (w : am_W) : am_Ok am_jv (d + 2) m_R_step 110 [y0, y1, y2] [] w (f_R_step_p110 w) := by
  unfold f_R_step_p110
  exact ok_ret (v := ()) (by decide +kernel : decode m_R_step.2.1 110 = .ok (.return_, 1)) rfl
theorem o_R_step_p46 {d : Nat} (x0 : Nat) (x1 : Nat) (x2 : Int32) (w : am_W) : am_Ok am_jv (d + 2) m_R_step 46 [some (.ref x0), some (.ref x1), some (.int x2)] [] w (f_R_step_p46 x0 x1 x2 w) := by
  unfold f_R_step_p46
  refine ok_seg (L := [((.aload_n 0), 1), ((.aload_n 0), 1)]) (pc' := 48) (ls' := [some (.ref x0), some (.ref x1), some (.int x2)]) (st' := [.ref x0, .ref x0]) (w' := w) (by decide +kernel) rfl ?_
  refine ok_gi (by decide +kernel : decode m_R_step.2.1 48 = .ok ((.getfield 25), 3)) rfl (fun v1 h2 => ?_)
  refine ok_seg (L := [((.iload_n 2), 1), ((.invokestatic 93), 3)]) (pc' := 55) (ls' := [some (.ref x0), some (.ref x1), some (.int x2)]) (st' := [.int (am_min v1 x2), .ref x0]) (w' := w) (by decide +kernel) rfl ?_
  refine ok_pi (by decide +kernel : decode m_R_step.2.1 55 = .ok ((.putfield 22), 3)) rfl (fun w3 h4 => ?_)
  refine ok_seg (L := [((.aload_n 0), 1)]) (pc' := 59) (ls' := [some (.ref x0), some (.ref x1), some (.int x2)]) (st' := [.ref x0]) (w' := w3) (by decide +kernel) rfl ?_
  refine ok_gi (by decide +kernel : decode m_R_step.2.1 59 = .ok ((.getfield 25), 3)) rfl (fun v5 h6 => ?_)
  refine ok_seg (L := [((.iload_n 2), 1)]) (pc' := 63) (ls' := [some (.ref x0), some (.ref x1), some (.int x2)]) (st' := [.int x2, .int v5]) (w' := w3) (by decide +kernel) rfl ?_
  refine ok_br (P := v5 < x2) (off := 11) (t := 74) (by decide +kernel : decode m_R_step.2.1 63 = .ok ((.if_icmp .lt 11), 3)) rfl rfl rfl rfl (fun c7 => ?_) (fun c7 => ?_)
  · skip
    refine ok_seg (L := [((.aload_n 1), 1), ((.aload_n 0), 1)]) (pc' := 76) (ls' := [some (.ref x0), some (.ref x1), some (.int x2)]) (st' := [.ref x0, .ref x1]) (w' := w3) (by decide +kernel) rfl ?_
    refine ok_gi (by decide +kernel : decode m_R_step.2.1 76 = .ok ((.getfield 25), 3)) rfl (fun v8 h9 => ?_)
    refine ok_call0 (inj' := am_ji) (by decide +kernel : decode m_R_step.2.1 79 = .ok ((.invokevirtual 98), 3)) rfl (fun q hq => am_iv0 (am_self_eq hq).1 rfl rfl rfl) (o_T_byteAt (d + 1) (x1) (v8) w3) (fun _ _ => rfl) (fun r10 h11 => ?_)
    refine ok_seg (L := [((.bipush 59), 2)]) (pc' := 84) (ls' := [some (.ref x0), some (.ref x1), some (.int x2)]) (st' := [.int 59, .int r10.2]) (w' := r10.1) (by decide +kernel) rfl ?_
    refine ok_br (P := ¬ r10.2 = 59) (off := 21) (t := 105) (by decide +kernel : decode m_R_step.2.1 84 = .ok ((.if_icmp .ne 21), 3)) rfl rfl rfl rfl (fun c12 => ?_) (fun c12 => ?_)
    · skip
      refine ok_seg (L := [((.aload_n 0), 1), ((.aload_n 1), 1)]) (pc' := 107) (ls' := [some (.ref x0), some (.ref x1), some (.int x2)]) (st' := [.ref x1, .ref x0]) (w' := r10.1) (by decide +kernel) rfl ?_
      refine ok_call0 (inj' := am_jv) (by decide +kernel : decode m_R_step.2.1 107 = .ok ((.invokevirtual 105), 3)) rfl (fun q hq => am_iv0 (am_self_eq hq).1 rfl rfl rfl) (o_R_readRun (d + 0) (x0) (x1) r10.1) (fun _ _ => rfl) (fun r13 h14 => ?_)
      exact o_R_step_p110 (some (.ref x0)) (some (.ref x1)) (some (.int x2)) r13.1
    · skip
      refine ok_seg (L := [((.aload_n 0), 1), ((.iconst 3), 1)]) (pc' := 89) (ls' := [some (.ref x0), some (.ref x1), some (.int x2)]) (st' := [.int 3, .ref x0]) (w' := r10.1) (by decide +kernel) rfl ?_
      refine ok_pi (by decide +kernel : decode m_R_step.2.1 89 = .ok ((.putfield 18), 3)) rfl (fun w15 h16 => ?_)
      refine ok_seg (L := [((.aload_n 0), 1), (.dup, 1)]) (pc' := 94) (ls' := [some (.ref x0), some (.ref x1), some (.int x2)]) (st' := [.ref x0, .ref x0]) (w' := w15) (by decide +kernel) rfl ?_
      refine ok_gi (by decide +kernel : decode m_R_step.2.1 94 = .ok ((.getfield 25), 3)) rfl (fun v17 h18 => ?_)
      refine ok_seg (L := [((.iconst 1), 1), (.iadd, 1)]) (pc' := 99) (ls' := [some (.ref x0), some (.ref x1), some (.int x2)]) (st' := [.int (v17 + 1), .ref x0]) (w' := w15) (by decide +kernel) rfl ?_
      refine ok_pi (by decide +kernel : decode m_R_step.2.1 99 = .ok ((.putfield 25), 3)) rfl (fun w19 h20 => ?_)
      refine ok_goto (t := 110) (by decide +kernel : decode m_R_step.2.1 102 = .ok ((.goto 8), 3)) rfl ?_
      exact o_R_step_p110 (some (.ref x0)) (some (.ref x1)) (some (.int x2)) w19
  · skip
    refine ok_seg (L := [((.aload_n 0), 1), ((.iconst 0), 1)]) (pc' := 68) (ls' := [some (.ref x0), some (.ref x1), some (.int x2)]) (st' := [.int 0, .ref x0]) (w' := w3) (by decide +kernel) rfl ?_
    refine ok_pi (by decide +kernel : decode m_R_step.2.1 68 = .ok ((.putfield 18), 3)) rfl (fun w21 h22 => ?_)
    refine ok_goto (t := 110) (by decide +kernel : decode m_R_step.2.1 71 = .ok ((.goto 39), 3)) rfl ?_
    exact o_R_step_p110 (some (.ref x0)) (some (.ref x1)) (some (.int x2)) w21
theorem o_R_step_p11 {d : Nat} : ∀ (n : Nat) (x0 : Nat) (x1 : Nat) (x2 : Int32) (w : am_W), am_Ok am_jv (d + 2) m_R_step 11 [some (.ref x0), some (.ref x1), some (.int x2)] [] w (f_R_step_p11 n x0 x1 x2 w) := by
  intro n
  induction n with
  | zero => intros; exact ok_none
  | succ n ih =>
    intro x0 x1 x2 w
    unfold f_R_step_p11
    refine ok_seg (L := [((.aload_n 0), 1)]) (pc' := 12) (ls' := [some (.ref x0), some (.ref x1), some (.int x2)]) (st' := [.ref x0]) (w' := w) (by decide +kernel) rfl ?_
    refine ok_gi (by decide +kernel : decode m_R_step.2.1 12 = .ok ((.getfield 25), 3)) rfl (fun v23 h24 => ?_)
    refine ok_seg (L := [((.iload_n 2), 1)]) (pc' := 16) (ls' := [some (.ref x0), some (.ref x1), some (.int x2)]) (st' := [.int x2, .int v23]) (w' := w) (by decide +kernel) rfl ?_
    refine ok_br (P := x2 ≤ v23) (off := 30) (t := 46) (by decide +kernel : decode m_R_step.2.1 16 = .ok ((.if_icmp .ge 30), 3)) rfl rfl rfl rfl (fun c25 => ?_) (fun c25 => ?_)
    · skip
      exact o_R_step_p46 x0 x1 x2 w
    · skip
      refine ok_seg (L := [((.aload_n 1), 1), ((.aload_n 0), 1)]) (pc' := 21) (ls' := [some (.ref x0), some (.ref x1), some (.int x2)]) (st' := [.ref x0, .ref x1]) (w' := w) (by decide +kernel) rfl ?_
      refine ok_gi (by decide +kernel : decode m_R_step.2.1 21 = .ok ((.getfield 25), 3)) rfl (fun v26 h27 => ?_)
      refine ok_call0 (inj' := am_ji) (by decide +kernel : decode m_R_step.2.1 24 = .ok ((.invokevirtual 98), 3)) rfl (fun q hq => am_iv0 (am_self_eq hq).1 rfl rfl rfl) (o_T_byteAt (d + 1) (x1) (v26) w) (fun _ _ => rfl) (fun r28 h29 => ?_)
      refine ok_call0 (inj' := am_ji) (by decide +kernel : decode m_R_step.2.1 27 = .ok ((.invokestatic 102), 3)) rfl (fun _ _ => rfl) (o_R_isBlank (d + 1) (r28.2) r28.1) (fun _ _ => rfl) (fun r30 h31 => ?_)
      refine ok_br (P := r30.2 = 0) (off := 16) (t := 46) (by decide +kernel : decode m_R_step.2.1 30 = .ok ((.ifCond .eq 16), 3)) rfl rfl rfl rfl (fun c32 => ?_) (fun c32 => ?_)
      · skip
        exact o_R_step_p46 x0 x1 x2 r30.1
      · skip
        refine ok_seg (L := [((.aload_n 0), 1), (.dup, 1)]) (pc' := 35) (ls' := [some (.ref x0), some (.ref x1), some (.int x2)]) (st' := [.ref x0, .ref x0]) (w' := r30.1) (by decide +kernel) rfl ?_
        refine ok_gi (by decide +kernel : decode m_R_step.2.1 35 = .ok ((.getfield 25), 3)) rfl (fun v33 h34 => ?_)
        refine ok_seg (L := [((.iconst 1), 1), (.iadd, 1)]) (pc' := 40) (ls' := [some (.ref x0), some (.ref x1), some (.int x2)]) (st' := [.int (v33 + 1), .ref x0]) (w' := r30.1) (by decide +kernel) rfl ?_
        refine ok_pi (by decide +kernel : decode m_R_step.2.1 40 = .ok ((.putfield 25), 3)) rfl (fun w35 h36 => ?_)
        refine ok_goto (t := 11) (by decide +kernel : decode m_R_step.2.1 43 = .ok ((.goto (-32)), 3)) rfl ?_
        exact ih x0 x1 x2 w35
theorem o_R_step (d : Nat) (x0 : Nat) (x1 : Nat) (w : am_W) : am_Ok am_jv (d + 2) m_R_step 0 (am_en m_R_step [.ref x0, .ref x1]) [] w (f_R_step x0 x1 w) := by
  show am_Ok _ _ _ 0 [some (.ref x0), some (.ref x1), none] [] w _
  unfold f_R_step
  refine ok_self ?_
  unfold e_R_step
  refine ok_seg (L := [((.aload_n 1), 1)]) (pc' := 1) (ls' := [some (.ref x0), some (.ref x1), none]) (st' := [.ref x1]) (w' := w) (by decide +kernel) rfl ?_
  refine ok_call0 (inj' := am_ji) (by decide +kernel : decode m_R_step.2.1 1 = .ok ((.invokevirtual 48), 3)) rfl (fun q hq => am_iv0 (am_self_eq hq).1 rfl rfl rfl) (o_T_length (d + 1) (x1) w) (fun _ _ => rfl) (fun r37 h38 => ?_)
  refine ok_seg (L := [((.sipush 400), 3), ((.invokestatic 93), 3), ((.istore_n 2), 1)]) (pc' := 11) (ls' := [some (.ref x0), some (.ref x1), some (.int (am_min r37.2 400))]) (st' := []) (w' := r37.1) (by decide +kernel) rfl ?_
  exact o_R_step_p11 am_N x0 x1 (am_min r37.2 400) r37.1
