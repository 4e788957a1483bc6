-- m_M_drawn
def f_M_drawn_p77 (x3 : Int32) (w : am_W) : Option (am_W × Int32) := (some (w, x3))
def f_M_drawn_p69 (x0 : Nat) (x3 : Int32) (w : am_W) : Option (am_W × Int32) := (if x3 ≤ 0 then (f_M_drawn_p77 x3 w) else ((f_M_stay (x0) w).bind fun r2 => (f_M_drawn_p77 x3 r2.1)))
def f_M_drawn_p63 (k40 : Nat → Int32 → Int32 → Int32 → am_W → Option (am_W × Int32)) (x0 : Nat) (x1 : Int32) (x3 : Int32) (x4 : Int32) (w : am_W) : Option (am_W × Int32) := (k40 x0 x1 x3 (x4 + 1) w)
def f_M_drawn_p40 : Nat → Nat → Int32 → Int32 → Int32 → am_W → Option (am_W × Int32)
  | 0, _, _, _, _, _ => none
  | n + 1, x0, x1, x3, x4, w => (if x1 ≤ x4 then (f_M_drawn_p69 x0 x3 w) else ((f_M_high (x0) w).bind fun r5 => (if r5.2 ≤ 0 then (f_M_drawn_p69 x0 x3 r5.1) else ((f_M_does (x0) r5.1).bind fun r8 => (if r8.2 = 0 then (f_M_drawn_p63 (f_M_drawn_p40 n) x0 x1 x3 x4 r8.1) else (f_M_drawn_p63 (f_M_drawn_p40 n) x0 x1 (x3 + 1) x4 r8.1))))))
def e_M_drawn (x0 : Nat) (x1 : Int32) (x2 : Int32) (w : am_W) : Option (am_W × Int32) := ((am_pv w x0 7 0 (.int 0)).bind fun w11 => ((f_M_isIn (x1) (1) (60) w11).bind fun r13 => (if ¬ r13.2 = 0 then ((am_gr r13.1 x0 7 11).bind fun v16 => ((am_gr r13.1 x0 7 15).bind fun v18 => ((f_M_copy (v16) (0) (v18) (0) r13.1).bind fun r20 => ((am_pv r20.1 x0 7 33 (.int x2)).bind fun w22 => (f_M_drawn_p40 am_N x0 x1 0 0 w22))))) else (some (r13.1, (-1))))))
def f_M_drawn (x0 : Nat) (x1 : Int32) (x2 : Int32) (w : am_W) : Option (am_W × Int32) := am_self w x0 7 (e_M_drawn x0 x1 x2 w)
theorem o_M_drawn_p77 {d : Nat} (x3 : Int32) (y0 y1 y2 y4 : Option Value) (w : am_W) : am_Ok am_ji (d + 4) m_M_drawn 77 [y0, y1, y2, some (.int x3), y4] [] w (f_M_drawn_p77 x3 w) := by
  unfold f_M_drawn_p77
  refine ok_seg (L := [((.iload_n 3), 1)]) (pc' := 78) (ls' := [y0, y1, y2, some (.int x3), y4]) (st' := [.int x3]) (w' := w) (by decide +kernel) rfl ?_
  exact ok_ret (v := x3) (by decide +kernel : decode m_M_drawn.2.1 78 = .ok (.ireturn, 1)) rfl
theorem o_M_drawn_p69 {d : Nat} (x0 : Nat) (x3 : Int32) (y1 y2 y4 : Option Value) (w : am_W) : am_Ok am_ji (d + 4) m_M_drawn 69 [some (.ref x0), y1, y2, some (.int x3), y4] [] w (f_M_drawn_p69 x0 x3 w) := by
  unfold f_M_drawn_p69
  refine ok_seg (L := [((.iload_n 3), 1)]) (pc' := 70) (ls' := [some (.ref x0), y1, y2, some (.int x3), y4]) (st' := [.int x3]) (w' := w) (by decide +kernel) rfl ?_
  refine ok_br (P := x3 ≤ 0) (off := 7) (t := 77) (by decide +kernel : decode m_M_drawn.2.1 70 = .ok ((.ifCond .le 7), 3)) rfl rfl rfl rfl (fun c1 => ?_) (fun c1 => ?_)
  · skip
    exact o_M_drawn_p77 x3 (some (.ref x0)) y1 y2 y4 w
  · skip
    refine ok_seg (L := [((.aload_n 0), 1)]) (pc' := 74) (ls' := [some (.ref x0), y1, y2, some (.int x3), y4]) (st' := [.ref x0]) (w' := w) (by decide +kernel) rfl ?_
    refine ok_call0 (inj' := am_jv) (by decide +kernel : decode m_M_drawn.2.1 74 = .ok ((.invokevirtual 263), 3)) rfl (fun q hq => am_iv0 (am_self_eq hq).1 rfl rfl rfl) (o_M_stay (d + 1) (x0) w) (fun _ _ => rfl) (fun r2 h3 => ?_)
    exact o_M_drawn_p77 x3 (some (.ref x0)) y1 y2 y4 r2.1
theorem o_M_drawn_p63 {d : Nat} {k40 : Nat → Int32 → Int32 → Int32 → am_W → Option (am_W × Int32)} (hk40 : ∀ (x0 : Nat) (x1 : Int32) (x3 : Int32) (x4 : Int32) (y2 : Option Value) (w : am_W), am_Ok am_ji (d + 4) m_M_drawn 40 [some (.ref x0), some (.int x1), y2, some (.int x3), some (.int x4)] [] w (k40 x0 x1 x3 x4 w)) (x0 : Nat) (x1 : Int32) (x3 : Int32) (x4 : Int32) (y2 : Option Value) (w : am_W) : am_Ok am_ji (d + 4) m_M_drawn 63 [some (.ref x0), some (.int x1), y2, some (.int x3), some (.int x4)] [] w (f_M_drawn_p63 k40 x0 x1 x3 x4 w) := by
  unfold f_M_drawn_p63
  refine ok_seg (L := [((.iinc 4 1), 3)]) (pc' := 66) (ls' := [some (.ref x0), some (.int x1), y2, some (.int x3), some (.int (x4 + 1))]) (st' := []) (w' := w) (by decide +kernel) rfl ?_
  refine ok_goto (t := 40) (by decide +kernel : decode m_M_drawn.2.1 66 = .ok ((.goto (-26)), 3)) rfl ?_
  exact hk40 x0 x1 x3 (x4 + 1) y2 w
theorem o_M_drawn_p40 {d : Nat} : ∀ (n : Nat) (x0 : Nat) (x1 : Int32) (x3 : Int32) (x4 : Int32) (y2 : Option Value) (w : am_W), am_Ok am_ji (d + 4) m_M_drawn 40 [some (.ref x0), some (.int x1), y2, some (.int x3), some (.int x4)] [] w (f_M_drawn_p40 n x0 x1 x3 x4 w) := by
  intro n
  induction n with
  | zero => intros; exact ok_none
  | succ n ih =>
    intro x0 x1 x3 x4 y2 w
    unfold f_M_drawn_p40
    refine ok_seg (L := [((.iload 4), 2), ((.iload_n 1), 1)]) (pc' := 43) (ls' := [some (.ref x0), some (.int x1), y2, some (.int x3), some (.int x4)]) (st' := [.int x1, .int x4]) (w' := w) (by decide +kernel) rfl ?_
    refine ok_br (P := x1 ≤ x4) (off := 26) (t := 69) (by decide +kernel : decode m_M_drawn.2.1 43 = .ok ((.if_icmp .ge 26), 3)) rfl rfl rfl rfl (fun c4 => ?_) (fun c4 => ?_)
    · skip
      exact o_M_drawn_p69 x0 x3 (some (.int x1)) y2 (some (.int x4)) w
    · skip
      refine ok_seg (L := [((.aload_n 0), 1)]) (pc' := 47) (ls' := [some (.ref x0), some (.int x1), y2, some (.int x3), some (.int x4)]) (st' := [.ref x0]) (w' := w) (by decide +kernel) rfl ?_
      refine ok_call0 (inj' := am_ji) (by decide +kernel : decode m_M_drawn.2.1 47 = .ok ((.invokevirtual 163), 3)) rfl (fun q hq => am_iv0 (am_self_eq hq).1 rfl rfl rfl) (o_M_high (d + 3) (x0) w) (fun _ _ => rfl) (fun r5 h6 => ?_)
      refine ok_br (P := r5.2 ≤ 0) (off := 19) (t := 69) (by decide +kernel : decode m_M_drawn.2.1 50 = .ok ((.ifCond .le 19), 3)) rfl rfl rfl rfl (fun c7 => ?_) (fun c7 => ?_)
      · skip
        exact o_M_drawn_p69 x0 x3 (some (.int x1)) y2 (some (.int x4)) r5.1
      · skip
        refine ok_seg (L := [((.aload_n 0), 1)]) (pc' := 54) (ls' := [some (.ref x0), some (.int x1), y2, some (.int x3), some (.int x4)]) (st' := [.ref x0]) (w' := r5.1) (by decide +kernel) rfl ?_
        refine ok_call0 (inj' := am_ji) (by decide +kernel : decode m_M_drawn.2.1 54 = .ok ((.invokevirtual 260), 3)) rfl (fun q hq => am_iv0 (am_self_eq hq).1 rfl rfl rfl) (o_M_does (d + 0) (x0) r5.1) (fun _ _ => rfl) (fun r8 h9 => ?_)
        refine ok_br (P := r8.2 = 0) (off := 6) (t := 63) (by decide +kernel : decode m_M_drawn.2.1 57 = .ok ((.ifCond .eq 6), 3)) rfl rfl rfl rfl (fun c10 => ?_) (fun c10 => ?_)
        · skip
          exact o_M_drawn_p63 ih x0 x1 x3 x4 y2 r8.1
        · skip
          refine ok_seg (L := [((.iinc 3 1), 3)]) (pc' := 63) (ls' := [some (.ref x0), some (.int x1), y2, some (.int (x3 + 1)), some (.int x4)]) (st' := []) (w' := r8.1) (by decide +kernel) rfl ?_
          exact o_M_drawn_p63 ih x0 x1 (x3 + 1) x4 y2 r8.1
theorem o_M_drawn (d : Nat) (x0 : Nat) (x1 : Int32) (x2 : Int32) (w : am_W) : am_Ok am_ji (d + 4) m_M_drawn 0 (am_en m_M_drawn [.ref x0, .int x1, .int x2]) [] w (f_M_drawn x0 x1 x2 w) := by
  show am_Ok _ _ _ 0 [some (.ref x0), some (.int x1), some (.int x2), none, none] [] w _
  unfold f_M_drawn
  refine ok_self ?_
  unfold e_M_drawn
  refine ok_seg (L := [((.aload_n 0), 1), ((.iconst 0), 1)]) (pc' := 2) (ls' := [some (.ref x0), some (.int x1), some (.int x2), none, none]) (st' := [.int 0, .ref x0]) (w' := w) (by decide +kernel) rfl ?_
  refine ok_pi (by decide +kernel : decode m_M_drawn.2.1 2 = .ok ((.putfield 1), 3)) rfl (fun w11 h12 => ?_)
  refine ok_seg (L := [((.iload_n 1), 1), ((.iconst 1), 1), ((.bipush 60), 2)]) (pc' := 9) (ls' := [some (.ref x0), some (.int x1), some (.int x2), none, none]) (st' := [.int 60, .int 1, .int x1]) (w' := w11) (by decide +kernel) rfl ?_
  refine ok_call0 (inj' := am_ji) (by decide +kernel : decode m_M_drawn.2.1 9 = .ok ((.invokestatic 121), 3)) rfl (fun _ _ => rfl) (o_M_isIn (d + 3) (x1) (1) (60) w11) (fun _ _ => rfl) (fun r13 h14 => ?_)
  refine ok_br (P := ¬ r13.2 = 0) (off := 5) (t := 17) (by decide +kernel : decode m_M_drawn.2.1 12 = .ok ((.ifCond .ne 5), 3)) rfl rfl rfl rfl (fun c15 => ?_) (fun c15 => ?_)
  · skip
    refine ok_seg (L := [((.aload_n 0), 1)]) (pc' := 18) (ls' := [some (.ref x0), some (.int x1), some (.int x2), none, none]) (st' := [.ref x0]) (w' := r13.1) (by decide +kernel) rfl ?_
    refine ok_gr (by decide +kernel : decode m_M_drawn.2.1 18 = .ok ((.getfield 64), 3)) rfl (by decide) (fun v16 h17 => ?_)
    refine ok_seg (L := [((.iconst 0), 1), ((.aload_n 0), 1)]) (pc' := 23) (ls' := [some (.ref x0), some (.int x1), some (.int x2), none, none]) (st' := [.ref x0, .int 0, .ref v16]) (w' := r13.1) (by decide +kernel) rfl ?_
    refine ok_gr (by decide +kernel : decode m_M_drawn.2.1 23 = .ok ((.getfield 76), 3)) rfl (by decide) (fun v18 h19 => ?_)
    refine ok_seg (L := [((.iconst 0), 1)]) (pc' := 27) (ls' := [some (.ref x0), some (.int x1), some (.int x2), none, none]) (st' := [.int 0, .ref v18, .int 0, .ref v16]) (w' := r13.1) (by decide +kernel) rfl ?_
    refine ok_call0 (inj' := am_jv) (by decide +kernel : decode m_M_drawn.2.1 27 = .ok ((.invokestatic 156), 3)) rfl (fun _ _ => rfl) (o_M_copy (d + 3) (v16) (0) (v18) (0) r13.1) (fun _ _ => rfl) (fun r20 h21 => ?_)
    refine ok_seg (L := [((.aload_n 0), 1), ((.iload_n 2), 1)]) (pc' := 32) (ls' := [some (.ref x0), some (.int x1), some (.int x2), none, none]) (st' := [.int x2, .ref x0]) (w' := r20.1) (by decide +kernel) rfl ?_
    refine ok_pi (by decide +kernel : decode m_M_drawn.2.1 32 = .ok ((.putfield 253), 3)) rfl (fun w22 h23 => ?_)
    refine ok_seg (L := [((.iconst 0), 1), ((.istore_n 3), 1), ((.iconst 0), 1), ((.istore 4), 2)]) (pc' := 40) (ls' := [some (.ref x0), some (.int x1), some (.int x2), some (.int 0), some (.int 0)]) (st' := []) (w' := w22) (by decide +kernel) rfl ?_
    exact o_M_drawn_p40 am_N x0 x1 0 0 (some (.int x2)) w22
  · skip
    refine ok_seg (L := [((.iconst (-1)), 1)]) (pc' := 16) (ls' := [some (.ref x0), some (.int x1), some (.int x2), none, none]) (st' := [.int (-1)]) (w' := r13.1) (by decide +kernel) rfl ?_
    exact ok_ret (v := (-1)) (by decide +kernel : decode m_M_drawn.2.1 16 = .ok (.ireturn, 1)) rfl
-- m_M_undo
def e_M_undo (x0 : Nat) (w : am_W) : Option (am_W × Int32) := ((am_pv w x0 7 0 (.int 0)).bind fun w1 => ((am_gi w1 x0 7 19).bind fun v3 => (if ¬ v3 = 0 then ((am_gi w1 x0 7 19).bind fun v6 => ((am_pv w1 x0 7 19 (.int (v6 - 1))).bind fun w8 => ((am_gr w8 x0 7 14).bind fun v10 => ((am_gi w8 x0 7 19).bind fun v12 => ((am_gr w8 x0 7 11).bind fun v14 => ((f_M_copy (v10) ((67 * v12)) (v14) (0) w8).bind fun r16 => ((am_gi r16.1 x0 7 19).bind fun v18 => (some (r16.1, v18))))))))) else (some (w1, (-1))))))
def f_M_undo (x0 : Nat) (w : am_W) : Option (am_W × Int32) := am_self w x0 7 (e_M_undo x0 w)
theorem o_M_undo (d : Nat) (x0 : Nat) (w : am_W) : am_Ok am_ji (d + 1) m_M_undo 0 (am_en m_M_undo [.ref x0]) [] w (f_M_undo x0 w) := by
  show am_Ok _ _ _ 0 [some (.ref x0)] [] w _
  unfold f_M_undo
  refine ok_self ?_
  unfold e_M_undo
  refine ok_seg (L := [((.aload_n 0), 1), ((.iconst 0), 1)]) (pc' := 2) (ls' := [some (.ref x0)]) (st' := [.int 0, .ref x0]) (w' := w) (by decide +kernel) rfl ?_
  refine ok_pi (by decide +kernel : decode m_M_undo.2.1 2 = .ok ((.putfield 1), 3)) rfl (fun w1 h2 => ?_)
  refine ok_seg (L := [((.aload_n 0), 1)]) (pc' := 6) (ls' := [some (.ref x0)]) (st' := [.ref x0]) (w' := w1) (by decide +kernel) rfl ?_
  refine ok_gi (by decide +kernel : decode m_M_undo.2.1 6 = .ok ((.getfield 160), 3)) rfl (fun v3 h4 => ?_)
  refine ok_br (P := ¬ v3 = 0) (off := 5) (t := 14) (by decide +kernel : decode m_M_undo.2.1 9 = .ok ((.ifCond .ne 5), 3)) rfl rfl rfl rfl (fun c5 => ?_) (fun c5 => ?_)
  · skip
    refine ok_seg (L := [((.aload_n 0), 1), (.dup, 1)]) (pc' := 16) (ls' := [some (.ref x0)]) (st' := [.ref x0, .ref x0]) (w' := w1) (by decide +kernel) rfl ?_
    refine ok_gi (by decide +kernel : decode m_M_undo.2.1 16 = .ok ((.getfield 160), 3)) rfl (fun v6 h7 => ?_)
    refine ok_seg (L := [((.iconst 1), 1), (.isub, 1)]) (pc' := 21) (ls' := [some (.ref x0)]) (st' := [.int (v6 - 1), .ref x0]) (w' := w1) (by decide +kernel) rfl ?_
    refine ok_pi (by decide +kernel : decode m_M_undo.2.1 21 = .ok ((.putfield 160), 3)) rfl (fun w8 h9 => ?_)
    refine ok_seg (L := [((.aload_n 0), 1)]) (pc' := 25) (ls' := [some (.ref x0)]) (st' := [.ref x0]) (w' := w8) (by decide +kernel) rfl ?_
    refine ok_gr (by decide +kernel : decode m_M_undo.2.1 25 = .ok ((.getfield 73), 3)) rfl (by decide) (fun v10 h11 => ?_)
    refine ok_seg (L := [((.bipush 67), 2), ((.aload_n 0), 1)]) (pc' := 31) (ls' := [some (.ref x0)]) (st' := [.ref x0, .int 67, .ref v10]) (w' := w8) (by decide +kernel) rfl ?_
    refine ok_gi (by decide +kernel : decode m_M_undo.2.1 31 = .ok ((.getfield 160), 3)) rfl (fun v12 h13 => ?_)
    refine ok_seg (L := [(.imul, 1), ((.aload_n 0), 1)]) (pc' := 36) (ls' := [some (.ref x0)]) (st' := [.ref x0, .int (67 * v12), .ref v10]) (w' := w8) (by decide +kernel) rfl ?_
    refine ok_gr (by decide +kernel : decode m_M_undo.2.1 36 = .ok ((.getfield 64), 3)) rfl (by decide) (fun v14 h15 => ?_)
    refine ok_seg (L := [((.iconst 0), 1)]) (pc' := 40) (ls' := [some (.ref x0)]) (st' := [.int 0, .ref v14, .int (67 * v12), .ref v10]) (w' := w8) (by decide +kernel) rfl ?_
    refine ok_call0 (inj' := am_jv) (by decide +kernel : decode m_M_undo.2.1 40 = .ok ((.invokestatic 156), 3)) rfl (fun _ _ => rfl) (o_M_copy (d + 0) (v10) ((67 * v12)) (v14) (0) w8) (fun _ _ => rfl) (fun r16 h17 => ?_)
    refine ok_seg (L := [((.aload_n 0), 1)]) (pc' := 44) (ls' := [some (.ref x0)]) (st' := [.ref x0]) (w' := r16.1) (by decide +kernel) rfl ?_
    refine ok_gi (by decide +kernel : decode m_M_undo.2.1 44 = .ok ((.getfield 160), 3)) rfl (fun v18 h19 => ?_)
    exact ok_ret (v := v18) (by decide +kernel : decode m_M_undo.2.1 47 = .ok (.ireturn, 1)) rfl
  · skip
    refine ok_seg (L := [((.iconst (-1)), 1)]) (pc' := 13) (ls' := [some (.ref x0)]) (st' := [.int (-1)]) (w' := w1) (by decide +kernel) rfl ?_
    exact ok_ret (v := (-1)) (by decide +kernel : decode m_M_undo.2.1 13 = .ok (.ireturn, 1)) rfl
-- m_M_image
def e_M_image (x0 : Nat) (x1 : Int32) (w : am_W) : Option (am_W × Int32) := ((am_pv w x0 7 0 (.int 0)).bind fun w1 => ((f_M_isIn (x1) (0) (1) w1).bind fun r3 => (if ¬ r3.2 = 0 then ((am_gr r3.1 x0 7 11).bind fun v6 => ((am_gr r3.1 x0 7 13).bind fun v8 => ((f_M_copy (v6) (0) (v8) ((67 * x1)) r3.1).bind fun r10 => ((am_gr r10.1 x0 7 18).bind fun v12 => ((am_sz r10.1 v12 x1 1).bind fun w14 => (some (w14, 1))))))) else (some (r3.1, 0)))))
def f_M_image (x0 : Nat) (x1 : Int32) (w : am_W) : Option (am_W × Int32) := am_self w x0 7 (e_M_image x0 x1 w)
theorem o_M_image (d : Nat) (x0 : Nat) (x1 : Int32) (w : am_W) : am_Ok am_ji (d + 1) m_M_image 0 (am_en m_M_image [.ref x0, .int x1]) [] w (f_M_image x0 x1 w) := by
  show am_Ok _ _ _ 0 [some (.ref x0), some (.int x1)] [] w _
  unfold f_M_image
  refine ok_self ?_
  unfold e_M_image
  refine ok_seg (L := [((.aload_n 0), 1), ((.iconst 0), 1)]) (pc' := 2) (ls' := [some (.ref x0), some (.int x1)]) (st' := [.int 0, .ref x0]) (w' := w) (by decide +kernel) rfl ?_
  refine ok_pi (by decide +kernel : decode m_M_image.2.1 2 = .ok ((.putfield 1), 3)) rfl (fun w1 h2 => ?_)
  refine ok_seg (L := [((.iload_n 1), 1), ((.iconst 0), 1), ((.iconst 1), 1)]) (pc' := 8) (ls' := [some (.ref x0), some (.int x1)]) (st' := [.int 1, .int 0, .int x1]) (w' := w1) (by decide +kernel) rfl ?_
  refine ok_call0 (inj' := am_ji) (by decide +kernel : decode m_M_image.2.1 8 = .ok ((.invokestatic 121), 3)) rfl (fun _ _ => rfl) (o_M_isIn (d + 0) (x1) (0) (1) w1) (fun _ _ => rfl) (fun r3 h4 => ?_)
  refine ok_br (P := ¬ r3.2 = 0) (off := 5) (t := 16) (by decide +kernel : decode m_M_image.2.1 11 = .ok ((.ifCond .ne 5), 3)) rfl rfl rfl rfl (fun c5 => ?_) (fun c5 => ?_)
  · skip
    refine ok_seg (L := [((.aload_n 0), 1)]) (pc' := 17) (ls' := [some (.ref x0), some (.int x1)]) (st' := [.ref x0]) (w' := r3.1) (by decide +kernel) rfl ?_
    refine ok_gr (by decide +kernel : decode m_M_image.2.1 17 = .ok ((.getfield 64), 3)) rfl (by decide) (fun v6 h7 => ?_)
    refine ok_seg (L := [((.iconst 0), 1), ((.aload_n 0), 1)]) (pc' := 22) (ls' := [some (.ref x0), some (.int x1)]) (st' := [.ref x0, .int 0, .ref v6]) (w' := r3.1) (by decide +kernel) rfl ?_
    refine ok_gr (by decide +kernel : decode m_M_image.2.1 22 = .ok ((.getfield 70), 3)) rfl (by decide) (fun v8 h9 => ?_)
    refine ok_seg (L := [((.bipush 67), 2), ((.iload_n 1), 1), (.imul, 1)]) (pc' := 29) (ls' := [some (.ref x0), some (.int x1)]) (st' := [.int (67 * x1), .ref v8, .int 0, .ref v6]) (w' := r3.1) (by decide +kernel) rfl ?_
    refine ok_call0 (inj' := am_jv) (by decide +kernel : decode m_M_image.2.1 29 = .ok ((.invokestatic 156), 3)) rfl (fun _ _ => rfl) (o_M_copy (d + 0) (v6) (0) (v8) ((67 * x1)) r3.1) (fun _ _ => rfl) (fun r10 h11 => ?_)
    refine ok_seg (L := [((.aload_n 0), 1)]) (pc' := 33) (ls' := [some (.ref x0), some (.int x1)]) (st' := [.ref x0]) (w' := r10.1) (by decide +kernel) rfl ?_
    refine ok_gr (by decide +kernel : decode m_M_image.2.1 33 = .ok ((.getfield 85), 3)) rfl (by decide) (fun v12 h13 => ?_)
    refine ok_seg (L := [((.iload_n 1), 1), ((.iconst 1), 1)]) (pc' := 38) (ls' := [some (.ref x0), some (.int x1)]) (st' := [.int 1, .int x1, .ref v12]) (w' := r10.1) (by decide +kernel) rfl ?_
    refine ok_sz (by decide +kernel : decode m_M_image.2.1 38 = .ok (.bastore, 1)) (fun w14 h15 => ?_)
    refine ok_seg (L := [((.iconst 1), 1)]) (pc' := 40) (ls' := [some (.ref x0), some (.int x1)]) (st' := [.int 1]) (w' := w14) (by decide +kernel) rfl ?_
    exact ok_ret (v := 1) (by decide +kernel : decode m_M_image.2.1 40 = .ok (.ireturn, 1)) rfl
  · skip
    refine ok_seg (L := [((.iconst 0), 1)]) (pc' := 15) (ls' := [some (.ref x0), some (.int x1)]) (st' := [.int 0]) (w' := r3.1) (by decide +kernel) rfl ?_
    exact ok_ret (v := 0) (by decide +kernel : decode m_M_image.2.1 15 = .ok (.ireturn, 1)) rfl
-- m_M_restore
def f_M_restore_p23 (w : am_W) : Option (am_W × Int32) := (some (w, 0))
def e_M_restore (x0 : Nat) (x1 : Int32) (w : am_W) : Option (am_W × Int32) := ((am_pv w x0 7 0 (.int 0)).bind fun w1 => ((f_M_isIn (x1) (0) (1) w1).bind fun r3 => (if r3.2 = 0 then (f_M_restore_p23 r3.1) else ((am_gr r3.1 x0 7 18).bind fun v6 => ((am_az r3.1 v6 x1).bind fun v8 => (if ¬ v8 = 0 then ((am_gr r3.1 x0 7 13).bind fun v11 => ((am_gr r3.1 x0 7 11).bind fun v13 => ((f_M_copy (v11) ((67 * x1)) (v13) (0) r3.1).bind fun r15 => ((am_pv r15.1 x0 7 19 (.int 0)).bind fun w17 => (some (w17, 1)))))) else (f_M_restore_p23 r3.1)))))))
def f_M_restore (x0 : Nat) (x1 : Int32) (w : am_W) : Option (am_W × Int32) := am_self w x0 7 (e_M_restore x0 x1 w)
theorem o_M_restore_p23 {d : Nat} (y0 y1 : Option Value) (w : am_W) : am_Ok am_ji (d + 1) m_M_restore 23 [y0, y1] [] w (f_M_restore_p23 w) := by
  unfold f_M_restore_p23
  refine ok_seg (L := [((.iconst 0), 1)]) (pc' := 24) (ls' := [y0, y1]) (st' := [.int 0]) (w' := w) (by decide +kernel) rfl ?_
  exact ok_ret (v := 0) (by decide +kernel : decode m_M_restore.2.1 24 = .ok (.ireturn, 1)) rfl
theorem o_M_restore (d : Nat) (x0 : Nat) (x1 : Int32) (w : am_W) : am_Ok am_ji (d + 1) m_M_restore 0 (am_en m_M_restore [.ref x0, .int x1]) [] w (f_M_restore x0 x1 w) := by
  show am_Ok _ _ _ 0 [some (.ref x0), some (.int x1)] [] w _
  unfold f_M_restore
  refine ok_self ?_
  unfold e_M_restore
  refine ok_seg (L := [((.aload_n 0), 1), ((.iconst 0), 1)]) (pc' := 2) (ls' := [some (.ref x0), some (.int x1)]) (st' := [.int 0, .ref x0]) (w' := w) (by decide +kernel) rfl ?_
  refine ok_pi (by decide +kernel : decode m_M_restore.2.1 2 = .ok ((.putfield 1), 3)) rfl (fun w1 h2 => ?_)
  refine ok_seg (L := [((.iload_n 1), 1), ((.iconst 0), 1), ((.iconst 1), 1)]) (pc' := 8) (ls' := [some (.ref x0), some (.int x1)]) (st' := [.int 1, .int 0, .int x1]) (w' := w1) (by decide +kernel) rfl ?_
  refine ok_call0 (inj' := am_ji) (by decide +kernel : decode m_M_restore.2.1 8 = .ok ((.invokestatic 121), 3)) rfl (fun _ _ => rfl) (o_M_isIn (d + 0) (x1) (0) (1) w1) (fun _ _ => rfl) (fun r3 h4 => ?_)
  refine ok_br (P := r3.2 = 0) (off := 12) (t := 23) (by decide +kernel : decode m_M_restore.2.1 11 = .ok ((.ifCond .eq 12), 3)) rfl rfl rfl rfl (fun c5 => ?_) (fun c5 => ?_)
  · skip
    exact o_M_restore_p23 (some (.ref x0)) (some (.int x1)) r3.1
  · skip
    refine ok_seg (L := [((.aload_n 0), 1)]) (pc' := 15) (ls' := [some (.ref x0), some (.int x1)]) (st' := [.ref x0]) (w' := r3.1) (by decide +kernel) rfl ?_
    refine ok_gr (by decide +kernel : decode m_M_restore.2.1 15 = .ok ((.getfield 85), 3)) rfl (by decide) (fun v6 h7 => ?_)
    refine ok_seg (L := [((.iload_n 1), 1)]) (pc' := 19) (ls' := [some (.ref x0), some (.int x1)]) (st' := [.int x1, .ref v6]) (w' := r3.1) (by decide +kernel) rfl ?_
    refine ok_az (by decide +kernel : decode m_M_restore.2.1 19 = .ok (.baload, 1)) (fun v8 h9 => ?_)
    refine ok_br (P := ¬ v8 = 0) (off := 5) (t := 25) (by decide +kernel : decode m_M_restore.2.1 20 = .ok ((.ifCond .ne 5), 3)) rfl rfl rfl rfl (fun c10 => ?_) (fun c10 => ?_)
    · skip
      refine ok_seg (L := [((.aload_n 0), 1)]) (pc' := 26) (ls' := [some (.ref x0), some (.int x1)]) (st' := [.ref x0]) (w' := r3.1) (by decide +kernel) rfl ?_
      refine ok_gr (by decide +kernel : decode m_M_restore.2.1 26 = .ok ((.getfield 70), 3)) rfl (by decide) (fun v11 h12 => ?_)
      refine ok_seg (L := [((.bipush 67), 2), ((.iload_n 1), 1), (.imul, 1), ((.aload_n 0), 1)]) (pc' := 34) (ls' := [some (.ref x0), some (.int x1)]) (st' := [.ref x0, .int (67 * x1), .ref v11]) (w' := r3.1) (by decide +kernel) rfl ?_
      refine ok_gr (by decide +kernel : decode m_M_restore.2.1 34 = .ok ((.getfield 64), 3)) rfl (by decide) (fun v13 h14 => ?_)
      refine ok_seg (L := [((.iconst 0), 1)]) (pc' := 38) (ls' := [some (.ref x0), some (.int x1)]) (st' := [.int 0, .ref v13, .int (67 * x1), .ref v11]) (w' := r3.1) (by decide +kernel) rfl ?_
      refine ok_call0 (inj' := am_jv) (by decide +kernel : decode m_M_restore.2.1 38 = .ok ((.invokestatic 156), 3)) rfl (fun _ _ => rfl) (o_M_copy (d + 0) (v11) ((67 * x1)) (v13) (0) r3.1) (fun _ _ => rfl) (fun r15 h16 => ?_)
      refine ok_seg (L := [((.aload_n 0), 1), ((.iconst 0), 1)]) (pc' := 43) (ls' := [some (.ref x0), some (.int x1)]) (st' := [.int 0, .ref x0]) (w' := r15.1) (by decide +kernel) rfl ?_
      refine ok_pi (by decide +kernel : decode m_M_restore.2.1 43 = .ok ((.putfield 160), 3)) rfl (fun w17 h18 => ?_)
      refine ok_seg (L := [((.iconst 1), 1)]) (pc' := 47) (ls' := [some (.ref x0), some (.int x1)]) (st' := [.int 1]) (w' := w17) (by decide +kernel) rfl ?_
      exact ok_ret (v := 1) (by decide +kernel : decode m_M_restore.2.1 47 = .ok (.ireturn, 1)) rfl
    · skip
      exact o_M_restore_p23 (some (.ref x0)) (some (.int x1)) r3.1
