/-! equations of the small machine, printed by wip/whole/gen_eqs.py -/
set_option maxRecDepth 8000 in
theorem e110_0 (rest : List hbS) (σ : hbM) (x0 : Int32) (x1 : Int32) : hb_run (hbSH0 ++ rest) 110 (0, [.int x0, .int x1], [], σ) = if (x0 < (0 : Int32)) then (some (some (.int 0), σ)) else (if (x1 ≤ x0) then (some (some (.int 0), σ)) else (some (some (.int 1), σ))) := by
  refine (hb_blk [(.iload_n 0, 1, 0, 0, 0, 0, 0)] (pe := 1) (gs := []) (loc' := [.int x0, .int x1]) (stk' := [.int x0]) (σ' := σ) (by decide +kernel) rfl).trans ?_
  refine hb_br0 (hb_fe_ok (r := (.ifCond .lt 12, 3, 13, 0, 0, 0, 0)) (by decide +kernel)) rfl ?_ ?_
  · refine (hb_blk [(.iconst 0, 1, 0, 0, 0, 0, 0)] (pe := 14) (gs := []) (loc' := [.int x0, .int x1]) (stk' := [.int 0]) (σ' := σ) (by decide +kernel) rfl).trans ?_
    exact hb_r_zret1 (hb_fe_ok (r := (.ireturn, 1, 0, 0, 1, 0, 0)) (by decide +kernel)) (by decide)
  · refine (hb_blk [(.iload_n 0, 1, 0, 0, 0, 0, 0), (.iload_n 1, 1, 1, 0, 0, 0, 0)] (pe := 6) (gs := []) (loc' := [.int x0, .int x1]) (stk' := [.int x1, .int x0]) (σ' := σ) (by decide +kernel) rfl).trans ?_
    refine hb_br (hb_fe_ok (r := (.if_icmp .ge 7, 3, 13, 0, 0, 0, 0)) (by decide +kernel)) rfl ?_ ?_
    · refine (hb_blk [(.iconst 0, 1, 0, 0, 0, 0, 0)] (pe := 14) (gs := []) (loc' := [.int x0, .int x1]) (stk' := [.int 0]) (σ' := σ) (by decide +kernel) rfl).trans ?_
      exact hb_r_zret1 (hb_fe_ok (r := (.ireturn, 1, 0, 0, 1, 0, 0)) (by decide +kernel)) (by decide)
    · refine (hb_blk [(.iconst 1, 1, 0, 0, 0, 1, 0)] (pe := 10) (gs := []) (loc' := [.int x0, .int x1]) (stk' := [.int 1]) (σ' := σ) (by decide +kernel) rfl).trans ?_
      refine (hb_r_goto (hb_fe_ok (r := (.goto 4, 3, 14, 0, 0, 0, 0)) (by decide +kernel))).trans ?_
      exact hb_r_zret1 (hb_fe_ok (r := (.ireturn, 1, 0, 0, 1, 0, 0)) (by decide +kernel)) (by decide)
set_option maxRecDepth 8000 in
theorem e111_0 (rest : List hbS) (σ : hbM) (x0 : Int32) : hb_run (hbSH0 ++ rest) 111 (0, [.int x0], [], σ) = if (x0 = (0 : Int32)) then (some (some (.int 0), σ)) else (some (some (.int 1), σ)) := by
  refine (hb_blk [(.iload_n 0, 1, 0, 0, 0, 0, 0)] (pe := 1) (gs := []) (loc' := [.int x0]) (stk' := [.int x0]) (σ' := σ) (by decide +kernel) rfl).trans ?_
  refine hb_br0 (hb_fe_ok (r := (.ifCond .eq 7, 3, 8, 0, 0, 0, 0)) (by decide +kernel)) rfl ?_ ?_
  · refine (hb_blk [(.iconst 0, 1, 0, 0, 0, 0, 0)] (pe := 9) (gs := []) (loc' := [.int x0]) (stk' := [.int 0]) (σ' := σ) (by decide +kernel) rfl).trans ?_
    exact hb_r_iret (hb_fe_ok (r := (.ireturn, 1, 0, 0, 0, 0, 0)) (by decide +kernel))
  · refine (hb_blk [(.iconst 1, 1, 0, 0, 0, 1, 0)] (pe := 5) (gs := []) (loc' := [.int x0]) (stk' := [.int 1]) (σ' := σ) (by decide +kernel) rfl).trans ?_
    refine (hb_r_goto (hb_fe_ok (r := (.goto 4, 3, 9, 0, 0, 0, 0)) (by decide +kernel))).trans ?_
    exact hb_r_iret (hb_fe_ok (r := (.ireturn, 1, 0, 0, 0, 0, 0)) (by decide +kernel))
set_option maxRecDepth 8000 in
theorem e189_0 (rest : List hbS) (σ : hbM) (x0 : Int32) (x1 : Int32) : hb_run (hbSH0 ++ rest) 189 (0, [.int x0, .int x1], [], σ) = if (x0 < x1) then (some (some (.int x1), σ)) else (some (some (.int x0), σ)) := by
  refine (hb_blk [(.iload_n 0, 1, 0, 0, 0, 0, 0), (.iload_n 1, 1, 1, 0, 0, 0, 0)] (pe := 2) (gs := []) (loc' := [.int x0, .int x1]) (stk' := [.int x1, .int x0]) (σ' := σ) (by decide +kernel) rfl).trans ?_
  refine hb_br (hb_fe_ok (r := (.if_icmp .lt 7, 3, 9, 0, 0, 0, 0)) (by decide +kernel)) rfl ?_ ?_
  · refine (hb_blk [(.iload_n 1, 1, 1, 0, 0, 0, 0)] (pe := 10) (gs := []) (loc' := [.int x0, .int x1]) (stk' := [.int x1]) (σ' := σ) (by decide +kernel) rfl).trans ?_
    exact hb_r_iret (hb_fe_ok (r := (.ireturn, 1, 0, 0, 0, 0, 0)) (by decide +kernel))
  · refine (hb_blk [(.iload_n 0, 1, 0, 0, 0, 0, 0)] (pe := 6) (gs := []) (loc' := [.int x0, .int x1]) (stk' := [.int x0]) (σ' := σ) (by decide +kernel) rfl).trans ?_
    refine (hb_r_goto (hb_fe_ok (r := (.goto 4, 3, 10, 0, 0, 0, 0)) (by decide +kernel))).trans ?_
    exact hb_r_iret (hb_fe_ok (r := (.ireturn, 1, 0, 0, 0, 0, 0)) (by decide +kernel))
set_option maxRecDepth 8000 in
theorem e190_0 (rest : List hbS) (σ : hbM) (x0 : Int32) (x1 : Int32) : hb_run (hbSH0 ++ rest) 190 (0, [.int x0, .int x1], [], σ) = if (x1 < x0) then (some (some (.int x1), σ)) else (some (some (.int x0), σ)) := by
  refine (hb_blk [(.iload_n 0, 1, 0, 0, 0, 0, 0), (.iload_n 1, 1, 1, 0, 0, 0, 0)] (pe := 2) (gs := []) (loc' := [.int x0, .int x1]) (stk' := [.int x1, .int x0]) (σ' := σ) (by decide +kernel) rfl).trans ?_
  refine hb_br (hb_fe_ok (r := (.if_icmp .gt 7, 3, 9, 0, 0, 0, 0)) (by decide +kernel)) rfl ?_ ?_
  · refine (hb_blk [(.iload_n 1, 1, 1, 0, 0, 0, 0)] (pe := 10) (gs := []) (loc' := [.int x0, .int x1]) (stk' := [.int x1]) (σ' := σ) (by decide +kernel) rfl).trans ?_
    exact hb_r_iret (hb_fe_ok (r := (.ireturn, 1, 0, 0, 0, 0, 0)) (by decide +kernel))
  · refine (hb_blk [(.iload_n 0, 1, 0, 0, 0, 0, 0)] (pe := 6) (gs := []) (loc' := [.int x0, .int x1]) (stk' := [.int x0]) (σ' := σ) (by decide +kernel) rfl).trans ?_
    refine (hb_r_goto (hb_fe_ok (r := (.goto 4, 3, 10, 0, 0, 0, 0)) (by decide +kernel))).trans ?_
    exact hb_r_iret (hb_fe_ok (r := (.ireturn, 1, 0, 0, 0, 0, 0)) (by decide +kernel))
set_option maxRecDepth 8000 in
theorem e70_0 (rest : List hbS) (σ : hbM) (x0 : Int32) (x1 : Int32) : hb_run (hbSH0 ++ rest) 70 (0, [.int x0, .int x1, .null, .null], [], σ) = if ((x0 >>> (6 : Int32)) = 0) then (if (¬ ((x1 >>> (((x0 >>> (3 : Int32)) &&& (7 : Int32)) &&& 31)) &&& (1 : Int32)) = (1 : Int32)) then (some (some (.int 0), σ)) else (some (some (.int 1), σ))) else (if ((x0 >>> (6 : Int32)) = 1) then (if (¬ ((x1 >>> (((x0 >>> (3 : Int32)) &&& (7 : Int32)) &&& 31)) &&& (1 : Int32)) = (0 : Int32)) then (some (some (.int 0), σ)) else (some (some (.int 1), σ))) else (if ((x0 >>> (6 : Int32)) = 2) then (if (((x1 >>> (((4 : Int32) + ((3 : Int32) * ((x0 >>> (3 : Int32)) &&& (7 : Int32)))) &&& 31)) &&& (7 : Int32)) ≤ (x0 &&& (7 : Int32))) then (some (some (.int 0), σ)) else (some (some (.int 1), σ))) else (if ((x0 &&& (7 : Int32)) ≤ ((x1 >>> (((4 : Int32) + ((3 : Int32) * ((x0 >>> (3 : Int32)) &&& (7 : Int32)))) &&& 31)) &&& (7 : Int32))) then (some (some (.int 0), σ)) else (some (some (.int 1), σ))))) := by
  refine (hb_blk [(.iload_n 0, 1, 0, 0, 0, 0, 0), (.iconst 3, 1, 0, 0, 0, 3, 0), (.ishr, 1, 0, 0, 0, 0, 0), (.bipush 7, 2, 0, 0, 0, 7, 0), (.iand, 1, 0, 0, 0, 0, 0), (.istore_n 2, 1, 2, 0, 0, 0, 0), (.iload_n 1, 1, 1, 0, 0, 0, 0), (.iconst 4, 1, 0, 0, 0, 4, 0), (.iconst 3, 1, 0, 0, 0, 3, 0), (.iload_n 2, 1, 2, 0, 0, 0, 0), (.imul, 1, 0, 0, 0, 0, 0), (.iadd, 1, 0, 0, 0, 0, 0), (.ishr, 1, 0, 0, 0, 0, 0), (.bipush 7, 2, 0, 0, 0, 7, 0), (.iand, 1, 0, 0, 0, 0, 0), (.istore_n 3, 1, 3, 0, 0, 0, 0), (.iload_n 0, 1, 0, 0, 0, 0, 0), (.bipush 6, 2, 0, 0, 0, 6, 0), (.ishr, 1, 0, 0, 0, 0, 0)] (pe := 22) (gs := []) (loc' := [.int x0, .int x1, .int ((x0 >>> (3 : Int32)) &&& (7 : Int32)), .int ((x1 >>> (((4 : Int32) + ((3 : Int32) * ((x0 >>> (3 : Int32)) &&& (7 : Int32)))) &&& 31)) &&& (7 : Int32))]) (stk' := [.int (x0 >>> (6 : Int32))]) (σ' := σ) (by decide +kernel) rfl).trans ?_
  refine hb_r_sw (hb_fe_ok (r := (.tableswitch 69 0 2 #[26, 41, 55], 26, 0, 0, 0, 0, 0)) (by decide +kernel)) ?_
  refine hb_swc (z := 0) (q := 48) ?_ ?_
  · refine (hb_blk [(.iload_n 1, 1, 1, 0, 0, 0, 0), (.iload_n 2, 1, 2, 0, 0, 0, 0), (.ishr, 1, 0, 0, 0, 0, 0), (.iconst 1, 1, 0, 0, 0, 1, 0), (.iand, 1, 0, 0, 0, 0, 0), (.iconst 1, 1, 0, 0, 0, 1, 0)] (pe := 54) (gs := []) (loc' := [.int x0, .int x1, .int ((x0 >>> (3 : Int32)) &&& (7 : Int32)), .int ((x1 >>> (((4 : Int32) + ((3 : Int32) * ((x0 >>> (3 : Int32)) &&& (7 : Int32)))) &&& 31)) &&& (7 : Int32))]) (stk' := [.int 1, .int ((x1 >>> (((x0 >>> (3 : Int32)) &&& (7 : Int32)) &&& 31)) &&& (1 : Int32))]) (σ' := σ) (by decide +kernel) rfl).trans ?_
    refine hb_br (hb_fe_ok (r := (.if_icmp .ne 7, 3, 61, 0, 0, 0, 0)) (by decide +kernel)) rfl ?_ ?_
    · refine (hb_blk [(.iconst 0, 1, 0, 0, 0, 0, 0)] (pe := 62) (gs := []) (loc' := [.int x0, .int x1, .int ((x0 >>> (3 : Int32)) &&& (7 : Int32)), .int ((x1 >>> (((4 : Int32) + ((3 : Int32) * ((x0 >>> (3 : Int32)) &&& (7 : Int32)))) &&& 31)) &&& (7 : Int32))]) (stk' := [.int 0]) (σ' := σ) (by decide +kernel) rfl).trans ?_
      exact hb_r_zret1 (hb_fe_ok (r := (.ireturn, 1, 0, 0, 1, 0, 0)) (by decide +kernel)) (by decide)
    · refine (hb_blk [(.iconst 1, 1, 0, 0, 0, 1, 0)] (pe := 58) (gs := []) (loc' := [.int x0, .int x1, .int ((x0 >>> (3 : Int32)) &&& (7 : Int32)), .int ((x1 >>> (((4 : Int32) + ((3 : Int32) * ((x0 >>> (3 : Int32)) &&& (7 : Int32)))) &&& 31)) &&& (7 : Int32))]) (stk' := [.int 1]) (σ' := σ) (by decide +kernel) rfl).trans ?_
      refine (hb_r_goto (hb_fe_ok (r := (.goto 4, 3, 62, 0, 0, 0, 0)) (by decide +kernel))).trans ?_
      exact hb_r_zret1 (hb_fe_ok (r := (.ireturn, 1, 0, 0, 1, 0, 0)) (by decide +kernel)) (by decide)
  refine hb_swc (z := 1) (q := 63) ?_ ?_
  · refine (hb_blk [(.iload_n 1, 1, 1, 0, 0, 0, 0), (.iload_n 2, 1, 2, 0, 0, 0, 0), (.ishr, 1, 0, 0, 0, 0, 0), (.iconst 1, 1, 0, 0, 0, 1, 0), (.iand, 1, 0, 0, 0, 0, 0)] (pe := 68) (gs := []) (loc' := [.int x0, .int x1, .int ((x0 >>> (3 : Int32)) &&& (7 : Int32)), .int ((x1 >>> (((4 : Int32) + ((3 : Int32) * ((x0 >>> (3 : Int32)) &&& (7 : Int32)))) &&& 31)) &&& (7 : Int32))]) (stk' := [.int ((x1 >>> (((x0 >>> (3 : Int32)) &&& (7 : Int32)) &&& 31)) &&& (1 : Int32))]) (σ' := σ) (by decide +kernel) rfl).trans ?_
    refine hb_br0 (hb_fe_ok (r := (.ifCond .ne 7, 3, 75, 0, 0, 0, 0)) (by decide +kernel)) rfl ?_ ?_
    · refine (hb_blk [(.iconst 0, 1, 0, 0, 0, 0, 0)] (pe := 76) (gs := []) (loc' := [.int x0, .int x1, .int ((x0 >>> (3 : Int32)) &&& (7 : Int32)), .int ((x1 >>> (((4 : Int32) + ((3 : Int32) * ((x0 >>> (3 : Int32)) &&& (7 : Int32)))) &&& 31)) &&& (7 : Int32))]) (stk' := [.int 0]) (σ' := σ) (by decide +kernel) rfl).trans ?_
      exact hb_r_zret1 (hb_fe_ok (r := (.ireturn, 1, 0, 0, 1, 0, 0)) (by decide +kernel)) (by decide)
    · refine (hb_blk [(.iconst 1, 1, 0, 0, 0, 1, 0)] (pe := 72) (gs := []) (loc' := [.int x0, .int x1, .int ((x0 >>> (3 : Int32)) &&& (7 : Int32)), .int ((x1 >>> (((4 : Int32) + ((3 : Int32) * ((x0 >>> (3 : Int32)) &&& (7 : Int32)))) &&& 31)) &&& (7 : Int32))]) (stk' := [.int 1]) (σ' := σ) (by decide +kernel) rfl).trans ?_
      refine (hb_r_goto (hb_fe_ok (r := (.goto 4, 3, 76, 0, 0, 0, 0)) (by decide +kernel))).trans ?_
      exact hb_r_zret1 (hb_fe_ok (r := (.ireturn, 1, 0, 0, 1, 0, 0)) (by decide +kernel)) (by decide)
  refine hb_swc (z := 2) (q := 77) ?_ ?_
  · refine (hb_blk [(.iload_n 3, 1, 3, 0, 0, 0, 0), (.iload_n 0, 1, 0, 0, 0, 0, 0), (.bipush 7, 2, 0, 0, 0, 7, 0), (.iand, 1, 0, 0, 0, 0, 0)] (pe := 82) (gs := []) (loc' := [.int x0, .int x1, .int ((x0 >>> (3 : Int32)) &&& (7 : Int32)), .int ((x1 >>> (((4 : Int32) + ((3 : Int32) * ((x0 >>> (3 : Int32)) &&& (7 : Int32)))) &&& 31)) &&& (7 : Int32))]) (stk' := [.int (x0 &&& (7 : Int32)), .int ((x1 >>> (((4 : Int32) + ((3 : Int32) * ((x0 >>> (3 : Int32)) &&& (7 : Int32)))) &&& 31)) &&& (7 : Int32))]) (σ' := σ) (by decide +kernel) rfl).trans ?_
    refine hb_br (hb_fe_ok (r := (.if_icmp .le 7, 3, 89, 0, 0, 0, 0)) (by decide +kernel)) rfl ?_ ?_
    · refine (hb_blk [(.iconst 0, 1, 0, 0, 0, 0, 0)] (pe := 90) (gs := []) (loc' := [.int x0, .int x1, .int ((x0 >>> (3 : Int32)) &&& (7 : Int32)), .int ((x1 >>> (((4 : Int32) + ((3 : Int32) * ((x0 >>> (3 : Int32)) &&& (7 : Int32)))) &&& 31)) &&& (7 : Int32))]) (stk' := [.int 0]) (σ' := σ) (by decide +kernel) rfl).trans ?_
      exact hb_r_zret1 (hb_fe_ok (r := (.ireturn, 1, 0, 0, 1, 0, 0)) (by decide +kernel)) (by decide)
    · refine (hb_blk [(.iconst 1, 1, 0, 0, 0, 1, 0)] (pe := 86) (gs := []) (loc' := [.int x0, .int x1, .int ((x0 >>> (3 : Int32)) &&& (7 : Int32)), .int ((x1 >>> (((4 : Int32) + ((3 : Int32) * ((x0 >>> (3 : Int32)) &&& (7 : Int32)))) &&& 31)) &&& (7 : Int32))]) (stk' := [.int 1]) (σ' := σ) (by decide +kernel) rfl).trans ?_
      refine (hb_r_goto (hb_fe_ok (r := (.goto 4, 3, 90, 0, 0, 0, 0)) (by decide +kernel))).trans ?_
      exact hb_r_zret1 (hb_fe_ok (r := (.ireturn, 1, 0, 0, 1, 0, 0)) (by decide +kernel)) (by decide)
  refine hb_swd 91 rfl ?_
  refine (hb_blk [(.iload_n 3, 1, 3, 0, 0, 0, 0), (.iload_n 0, 1, 0, 0, 0, 0, 0), (.bipush 7, 2, 0, 0, 0, 7, 0), (.iand, 1, 0, 0, 0, 0, 0)] (pe := 96) (gs := []) (loc' := [.int x0, .int x1, .int ((x0 >>> (3 : Int32)) &&& (7 : Int32)), .int ((x1 >>> (((4 : Int32) + ((3 : Int32) * ((x0 >>> (3 : Int32)) &&& (7 : Int32)))) &&& 31)) &&& (7 : Int32))]) (stk' := [.int (x0 &&& (7 : Int32)), .int ((x1 >>> (((4 : Int32) + ((3 : Int32) * ((x0 >>> (3 : Int32)) &&& (7 : Int32)))) &&& 31)) &&& (7 : Int32))]) (σ' := σ) (by decide +kernel) rfl).trans ?_
  refine hb_br (hb_fe_ok (r := (.if_icmp .ge 7, 3, 103, 0, 0, 0, 0)) (by decide +kernel)) rfl ?_ ?_
  · refine (hb_blk [(.iconst 0, 1, 0, 0, 0, 0, 0)] (pe := 104) (gs := []) (loc' := [.int x0, .int x1, .int ((x0 >>> (3 : Int32)) &&& (7 : Int32)), .int ((x1 >>> (((4 : Int32) + ((3 : Int32) * ((x0 >>> (3 : Int32)) &&& (7 : Int32)))) &&& 31)) &&& (7 : Int32))]) (stk' := [.int 0]) (σ' := σ) (by decide +kernel) rfl).trans ?_
    exact hb_r_zret1 (hb_fe_ok (r := (.ireturn, 1, 0, 0, 1, 0, 0)) (by decide +kernel)) (by decide)
  · refine (hb_blk [(.iconst 1, 1, 0, 0, 0, 1, 0)] (pe := 100) (gs := []) (loc' := [.int x0, .int x1, .int ((x0 >>> (3 : Int32)) &&& (7 : Int32)), .int ((x1 >>> (((4 : Int32) + ((3 : Int32) * ((x0 >>> (3 : Int32)) &&& (7 : Int32)))) &&& 31)) &&& (7 : Int32))]) (stk' := [.int 1]) (σ' := σ) (by decide +kernel) rfl).trans ?_
    refine (hb_r_goto (hb_fe_ok (r := (.goto 4, 3, 104, 0, 0, 0, 0)) (by decide +kernel))).trans ?_
    exact hb_r_zret1 (hb_fe_ok (r := (.ireturn, 1, 0, 0, 1, 0, 0)) (by decide +kernel)) (by decide)
set_option maxRecDepth 8000 in
theorem e77_0 (rest : List hbS) (σ : hbM) (x0 : Int32) : hb_run (hbSH0 ++ rest) 77 (0, [.int x0], [], σ) = hb_ci (hb_ev (hbSH0 ++ rest) 190 [.int 7, .int x0] σ) (fun y4 σ4 => hb_ci (hb_ev (hbSH0 ++ rest) 189 [.int 0, .int y4] σ4) (fun y7 σ7 => some (some (.int y7), σ7))) := by
  refine (hb_blk [(.iconst 0, 1, 0, 0, 0, 0, 0), (.bipush 7, 2, 0, 0, 0, 7, 0), (.iload_n 0, 1, 0, 0, 0, 0, 0)] (pe := 4) (gs := []) (loc' := [.int x0]) (stk' := [.int x0, .int 7, .int 0]) (σ' := σ) (by decide +kernel) rfl).trans ?_
  refine hb_Si (hb_fe_ok (r := (.invokestatic 71, 3, 190, 2, 0, 0, 0)) (by decide +kernel)) (by decide) (by decide +kernel) (as := [.int 7, .int x0]) (rest := [.int 0]) rfl (Nat.le_of_ble_eq_true rfl) (fun y4 σ4 => ?_)
  refine hb_Si (hb_fe_ok (r := (.invokestatic 76, 3, 189, 2, 0, 0, 0)) (by decide +kernel)) (by decide) (by decide +kernel) (as := [.int 0, .int y4]) (rest := []) rfl (Nat.le_of_ble_eq_true rfl) (fun y7 σ7 => ?_)
  exact hb_r_iret (hb_fe_ok (r := (.ireturn, 1, 0, 0, 0, 0, 0)) (by decide +kernel))
set_option maxRecDepth 8000 in
theorem e76_0 (rest : List hbS) (σ : hbM) (x1 : Int32) (x2 : Int32) : hb_run (hbSH0 ++ rest) 76 (0, [.ref 0, .int x1, .int x2, .null, .null], [], σ) = hb_run (hbSH0 ++ rest) 76 (5, [.ref 0, .int x1, .int x2, .int 0, .int 0], [], σ) := by
  refine (hb_blk [(.iconst 0, 1, 0, 0, 0, 0, 0), (.istore_n 3, 1, 3, 0, 0, 0, 0), (.iconst 0, 1, 0, 0, 0, 0, 0), (.istore 4, 2, 4, 0, 0, 0, 0)] (pe := 5) (gs := []) (loc' := [.ref 0, .int x1, .int x2, .int 0, .int 0]) (stk' := []) (σ' := σ) (by decide +kernel) rfl).trans ?_
  exact rfl
set_option maxRecDepth 8000 in
theorem e76_5 (rest : List hbS) (σ : hbM) (x1 : Int32) (x2 : Int32) (x3 : Int32) (x4 : Int32) : hb_run (hbSH0 ++ rest) 76 (5, [.ref 0, .int x1, .int x2, .int x3, .int x4], [], σ) = if ((σ 0 8) ≤ x4) then (some (some (.int x3), σ)) else (hb_g [hb_in x4 8] (if (¬ (σ 8 (Int32.toNatClampNeg x4)) = x2) then (hb_run (hbSH0 ++ rest) 76 (5, [.ref 0, .int x1, .int x2, .int x3, .int (x4 + (1 : Int32))], [], σ)) else (hb_g [hb_in x4 8] (if (¬ ((x1 >>> ((σ 7 (Int32.toNatClampNeg x4)) &&& 31)) &&& (1 : Int32)) = (1 : Int32)) then (hb_run (hbSH0 ++ rest) 76 (5, [.ref 0, .int x1, .int x2, .int x3, .int (x4 + (1 : Int32))], [], σ)) else (hb_g [hb_in x4 8] (hb_run (hbSH0 ++ rest) 76 (5, [.ref 0, .int x1, .int x2, .int (x3 + (σ 9 (Int32.toNatClampNeg x4))), .int (x4 + (1 : Int32))], [], σ))))))) := by
  refine (hb_blk [(.iload 4, 2, 4, 0, 0, 0, 0), (.aload_n 0, 1, 0, 0, 0, 0, 0), (.getfield 51, 3, 10, 8, 0, 0, 0)] (pe := 11) (gs := []) (loc' := [.ref 0, .int x1, .int x2, .int x3, .int x4]) (stk' := [.int (σ 0 8), .int x4]) (σ' := σ) (by decide +kernel) rfl).trans ?_
  refine hb_br (hb_fe_ok (r := (.if_icmp .ge 45, 3, 56, 0, 0, 0, 0)) (by decide +kernel)) rfl ?_ ?_
  · refine (hb_blk [(.iload_n 3, 1, 3, 0, 0, 0, 0)] (pe := 57) (gs := []) (loc' := [.ref 0, .int x1, .int x2, .int x3, .int x4]) (stk' := [.int x3]) (σ' := σ) (by decide +kernel) rfl).trans ?_
    exact hb_r_iret (hb_fe_ok (r := (.ireturn, 1, 0, 0, 0, 0, 0)) (by decide +kernel))
  · refine (hb_blk [(.aload_n 0, 1, 0, 0, 0, 0, 0), (.getfield 25, 3, 10, 3, 0, 0, 0), (.iload 4, 2, 4, 0, 0, 0, 0), (.iaload, 1, 0, 0, 0, 0, 0), (.iload_n 2, 1, 2, 0, 0, 0, 0)] (pe := 22) (gs := [hb_in x4 8]) (loc' := [.ref 0, .int x1, .int x2, .int x3, .int x4]) (stk' := [.int x2, .int (σ 8 (Int32.toNatClampNeg x4))]) (σ' := σ) (by decide +kernel) rfl).trans ?_
    refine congrArg (hb_g _) ?_
    refine hb_br (hb_fe_ok (r := (.if_icmp .ne 28, 3, 50, 0, 0, 0, 0)) (by decide +kernel)) rfl ?_ ?_
    · refine (hb_blk [(.iinc 4 1, 3, 4, 0, 0, 1, 0)] (pe := 53) (gs := []) (loc' := [.ref 0, .int x1, .int x2, .int x3, .int (x4 + (1 : Int32))]) (stk' := []) (σ' := σ) (by decide +kernel) rfl).trans ?_
      refine (hb_r_goto (hb_fe_ok (r := (.goto (-48), 3, 5, 0, 0, 0, 0)) (by decide +kernel))).trans ?_
      exact rfl
    · refine (hb_blk [(.iload_n 1, 1, 1, 0, 0, 0, 0), (.aload_n 0, 1, 0, 0, 0, 0, 0), (.getfield 21, 3, 10, 2, 0, 0, 0), (.iload 4, 2, 4, 0, 0, 0, 0), (.iaload, 1, 0, 0, 0, 0, 0), (.ishr, 1, 0, 0, 0, 0, 0), (.iconst 1, 1, 0, 0, 0, 1, 0), (.iand, 1, 0, 0, 0, 0, 0), (.iconst 1, 1, 0, 0, 0, 1, 0)] (pe := 37) (gs := [hb_in x4 8]) (loc' := [.ref 0, .int x1, .int x2, .int x3, .int x4]) (stk' := [.int 1, .int ((x1 >>> ((σ 7 (Int32.toNatClampNeg x4)) &&& 31)) &&& (1 : Int32))]) (σ' := σ) (by decide +kernel) rfl).trans ?_
      refine congrArg (hb_g _) ?_
      refine hb_br (hb_fe_ok (r := (.if_icmp .ne 13, 3, 50, 0, 0, 0, 0)) (by decide +kernel)) rfl ?_ ?_
      · refine (hb_blk [(.iinc 4 1, 3, 4, 0, 0, 1, 0)] (pe := 53) (gs := []) (loc' := [.ref 0, .int x1, .int x2, .int x3, .int (x4 + (1 : Int32))]) (stk' := []) (σ' := σ) (by decide +kernel) rfl).trans ?_
        refine (hb_r_goto (hb_fe_ok (r := (.goto (-48), 3, 5, 0, 0, 0, 0)) (by decide +kernel))).trans ?_
        exact rfl
      · refine (hb_blk [(.iload_n 3, 1, 3, 0, 0, 0, 0), (.aload_n 0, 1, 0, 0, 0, 0, 0), (.getfield 28, 3, 10, 4, 0, 0, 0), (.iload 4, 2, 4, 0, 0, 0, 0), (.iaload, 1, 0, 0, 0, 0, 0), (.iadd, 1, 0, 0, 0, 0, 0), (.istore_n 3, 1, 3, 0, 0, 0, 0)] (pe := 50) (gs := [hb_in x4 8]) (loc' := [.ref 0, .int x1, .int x2, .int (x3 + (σ 9 (Int32.toNatClampNeg x4))), .int x4]) (stk' := []) (σ' := σ) (by decide +kernel) rfl).trans ?_
        refine congrArg (hb_g _) ?_
        refine (hb_blk [(.iinc 4 1, 3, 4, 0, 0, 1, 0)] (pe := 53) (gs := []) (loc' := [.ref 0, .int x1, .int x2, .int (x3 + (σ 9 (Int32.toNatClampNeg x4))), .int (x4 + (1 : Int32))]) (stk' := []) (σ' := σ) (by decide +kernel) rfl).trans ?_
        refine (hb_r_goto (hb_fe_ok (r := (.goto (-48), 3, 5, 0, 0, 0, 0)) (by decide +kernel))).trans ?_
        exact rfl
set_option maxRecDepth 8000 in
theorem e75_0 (rest : List hbS) (σ : hbM) : hb_run (hbSH0 ++ rest) 75 (0, [.ref 0, .null, .null, .null, .null, .null, .null, .null], [], σ) = hb_run (hbSH0 ++ rest) 75 (2, [.ref 0, .int 0, .null, .null, .null, .null, .null, .null], [], σ) := by
  refine (hb_blk [(.iconst 0, 1, 0, 0, 0, 0, 0), (.istore_n 1, 1, 1, 0, 0, 0, 0)] (pe := 2) (gs := []) (loc' := [.ref 0, .int 0, .null, .null, .null, .null, .null, .null]) (stk' := []) (σ' := σ) (by decide +kernel) rfl).trans ?_
  exact rfl
set_option maxRecDepth 8000 in
theorem e75_2 (rest : List hbS) (σ : hbM) (x1 : Int32) (v2 : Value) (v3 : Value) (v4 : Value) (v5 : Value) (v6 : Value) (v7 : Value) : hb_run (hbSH0 ++ rest) 75 (2, [.ref 0, .int x1, v2, v3, v4, v5, v6, v7], [], σ) = if ((16 : Int32) ≤ x1) then (some (none, σ)) else (hb_ci (hb_ev (hbSH0 ++ rest) 76 [.ref 0, .int x1, .int 0] σ) (fun y11 σ11 => hb_ci (hb_ev (hbSH0 ++ rest) 76 [.ref 0, .int x1, .int 1] σ11) (fun y18 σ18 => hb_run (hbSH0 ++ rest) 75 (25, [.ref 0, .int x1, .int y11, .int y18, .int 0, v5, v6, v7], [], σ18)))) := by
  refine (hb_blk [(.iload_n 1, 1, 1, 0, 0, 0, 0), (.bipush 16, 2, 0, 0, 0, 16, 0)] (pe := 5) (gs := []) (loc' := [.ref 0, .int x1, v2, v3, v4, v5, v6, v7]) (stk' := [.int 16, .int x1]) (σ' := σ) (by decide +kernel) rfl).trans ?_
  refine hb_br (hb_fe_ok (r := (.if_icmp .ge 154, 3, 159, 0, 0, 0, 0)) (by decide +kernel)) rfl ?_ ?_
  · exact hb_r_vret (hb_fe_ok (r := (.return_, 1, 0, 0, 0, 0, 0)) (by decide +kernel))
  · refine (hb_blk [(.aload_n 0, 1, 0, 0, 0, 0, 0), (.iload_n 1, 1, 1, 0, 0, 0, 0), (.iconst 0, 1, 0, 0, 0, 0, 0)] (pe := 11) (gs := []) (loc' := [.ref 0, .int x1, v2, v3, v4, v5, v6, v7]) (stk' := [.int 0, .int x1, .ref 0]) (σ' := σ) (by decide +kernel) rfl).trans ?_
    refine hb_Vi (hb_fe_ok (r := (.invokevirtual 60, 3, 76, 2, 0, 0, 0)) (by decide +kernel)) (by decide +kernel) (as := [.int x1, .int 0]) (v := .ref 0) (rest := []) rfl rfl (Nat.le_of_ble_eq_true rfl) (fun y11 σ11 => ?_)
    refine (hb_blk [(.istore_n 2, 1, 2, 0, 0, 0, 0), (.aload_n 0, 1, 0, 0, 0, 0, 0), (.iload_n 1, 1, 1, 0, 0, 0, 0), (.iconst 1, 1, 0, 0, 0, 1, 0)] (pe := 18) (gs := []) (loc' := [.ref 0, .int x1, .int y11, v3, v4, v5, v6, v7]) (stk' := [.int 1, .int x1, .ref 0]) (σ' := σ11) (by decide +kernel) rfl).trans ?_
    refine hb_Vi (hb_fe_ok (r := (.invokevirtual 60, 3, 76, 2, 0, 0, 0)) (by decide +kernel)) (by decide +kernel) (as := [.int x1, .int 1]) (v := .ref 0) (rest := []) rfl rfl (Nat.le_of_ble_eq_true rfl) (fun y18 σ18 => ?_)
    refine (hb_blk [(.istore_n 3, 1, 3, 0, 0, 0, 0), (.iconst 0, 1, 0, 0, 0, 0, 0), (.istore 4, 2, 4, 0, 0, 0, 0)] (pe := 25) (gs := []) (loc' := [.ref 0, .int x1, .int y11, .int y18, .int 0, v5, v6, v7]) (stk' := []) (σ' := σ18) (by decide +kernel) rfl).trans ?_
    exact rfl
set_option maxRecDepth 8000 in
theorem e75_25 (rest : List hbS) (σ : hbM) (x1 : Int32) (x2 : Int32) (x3 : Int32) (x4 : Int32) (v5 : Value) (v6 : Value) (v7 : Value) : hb_run (hbSH0 ++ rest) 75 (25, [.ref 0, .int x1, .int x2, .int x3, .int x4, v5, v6, v7], [], σ) = if ((64 : Int32) ≤ x4) then (hb_run (hbSH0 ++ rest) 75 (2, [.ref 0, .int (x1 + (1 : Int32)), .int x2, .int x3, .int x4, v5, v6, v7], [], σ)) else (hb_ci (hb_ev (hbSH0 ++ rest) 77 [.int ((x4 &&& (7 : Int32)) + x2)] σ) (fun y47 σ47 => hb_ci (hb_ev (hbSH0 ++ rest) 77 [.int ((x4 >>> (3 : Int32)) + x3)] σ47) (fun y58 σ58 => hb_g [hb_in ((x4 <<< (4 : Int32)) ||| x1) 1024] (hb_ci (hb_ev (hbSH0 ++ rest) 13 [.ref 1, .int ((x4 <<< (4 : Int32)) ||| x1)] (hb_up σ58 10 (Int32.toNatClampNeg ((x4 <<< (4 : Int32)) ||| x1)) ((x1 ||| (y47 <<< (4 : Int32))) ||| (y58 <<< (7 : Int32))))) (fun y94 σ94 => if (y94 ≤ (0 : Int32)) then (hb_run (hbSH0 ++ rest) 75 (105, [.ref 0, .int x1, .int x2, .int x3, .int x4, .int ((x4 <<< (4 : Int32)) ||| x1), .int y47, .int y58], [.int 0, .int ((x4 <<< (4 : Int32)) ||| x1), .ref 11], σ94)) else (hb_run (hbSH0 ++ rest) 75 (105, [.ref 0, .int x1, .int x2, .int x3, .int x4, .int ((x4 <<< (4 : Int32)) ||| x1), .int y47, .int y58], [.int 1, .int ((x4 <<< (4 : Int32)) ||| x1), .ref 11], σ94))))))) := by
  refine (hb_blk [(.iload 4, 2, 4, 0, 0, 0, 0), (.bipush 64, 2, 0, 0, 0, 64, 0)] (pe := 29) (gs := []) (loc' := [.ref 0, .int x1, .int x2, .int x3, .int x4, v5, v6, v7]) (stk' := [.int 64, .int x4]) (σ' := σ) (by decide +kernel) rfl).trans ?_
  refine hb_br (hb_fe_ok (r := (.if_icmp .ge 124, 3, 153, 0, 0, 0, 0)) (by decide +kernel)) rfl ?_ ?_
  · refine (hb_blk [(.iinc 1 1, 3, 1, 0, 0, 1, 0)] (pe := 156) (gs := []) (loc' := [.ref 0, .int (x1 + (1 : Int32)), .int x2, .int x3, .int x4, v5, v6, v7]) (stk' := []) (σ' := σ) (by decide +kernel) rfl).trans ?_
    refine (hb_r_goto (hb_fe_ok (r := (.goto (-154), 3, 2, 0, 0, 0, 0)) (by decide +kernel))).trans ?_
    exact rfl
  · refine (hb_blk [(.iload 4, 2, 4, 0, 0, 0, 0), (.iconst 4, 1, 0, 0, 0, 4, 0), (.ishl, 1, 0, 0, 0, 0, 0), (.iload_n 1, 1, 1, 0, 0, 0, 0), (.ior, 1, 0, 0, 0, 0, 0), (.istore 5, 2, 5, 0, 0, 0, 0), (.iload 4, 2, 4, 0, 0, 0, 0), (.bipush 7, 2, 0, 0, 0, 7, 0), (.iand, 1, 0, 0, 0, 0, 0), (.iload_n 2, 1, 2, 0, 0, 0, 0), (.iadd, 1, 0, 0, 0, 0, 0)] (pe := 47) (gs := []) (loc' := [.ref 0, .int x1, .int x2, .int x3, .int x4, .int ((x4 <<< (4 : Int32)) ||| x1), v6, v7]) (stk' := [.int ((x4 &&& (7 : Int32)) + x2)]) (σ' := σ) (by decide +kernel) rfl).trans ?_
    refine hb_Si (hb_fe_ok (r := (.invokestatic 64, 3, 77, 1, 0, 0, 0)) (by decide +kernel)) (by decide) (by decide +kernel) (as := [.int ((x4 &&& (7 : Int32)) + x2)]) (rest := []) rfl (Nat.le_of_ble_eq_true rfl) (fun y47 σ47 => ?_)
    refine (hb_blk [(.istore 6, 2, 6, 0, 0, 0, 0), (.iload 4, 2, 4, 0, 0, 0, 0), (.iconst 3, 1, 0, 0, 0, 3, 0), (.ishr, 1, 0, 0, 0, 0, 0), (.iload_n 3, 1, 3, 0, 0, 0, 0), (.iadd, 1, 0, 0, 0, 0, 0)] (pe := 58) (gs := []) (loc' := [.ref 0, .int x1, .int x2, .int x3, .int x4, .int ((x4 <<< (4 : Int32)) ||| x1), .int y47, v7]) (stk' := [.int ((x4 >>> (3 : Int32)) + x3)]) (σ' := σ47) (by decide +kernel) rfl).trans ?_
    refine hb_Si (hb_fe_ok (r := (.invokestatic 64, 3, 77, 1, 0, 0, 0)) (by decide +kernel)) (by decide) (by decide +kernel) (as := [.int ((x4 >>> (3 : Int32)) + x3)]) (rest := []) rfl (Nat.le_of_ble_eq_true rfl) (fun y58 σ58 => ?_)
    refine (hb_blk [(.istore 7, 2, 7, 0, 0, 0, 0), (.aload_n 0, 1, 0, 0, 0, 0, 0), (.getfield 31, 3, 10, 5, 0, 0, 0), (.iload 5, 2, 5, 0, 0, 0, 0), (.iload_n 1, 1, 1, 0, 0, 0, 0), (.iload 6, 2, 6, 0, 0, 0, 0), (.iconst 4, 1, 0, 0, 0, 4, 0), (.ishl, 1, 0, 0, 0, 0, 0), (.ior, 1, 0, 0, 0, 0, 0), (.iload 7, 2, 7, 0, 0, 0, 0), (.bipush 7, 2, 0, 0, 0, 7, 0), (.ishl, 1, 0, 0, 0, 0, 0), (.ior, 1, 0, 0, 0, 0, 0), (.iastore, 1, 0, 0, 0, 0, 0), (.aload_n 0, 1, 0, 0, 0, 0, 0), (.getfield 34, 3, 10, 6, 0, 0, 0), (.iload 5, 2, 5, 0, 0, 0, 0), (.aload_n 0, 1, 0, 0, 0, 0, 0), (.getfield 12, 3, 10, 0, 0, 0, 0), (.iload 5, 2, 5, 0, 0, 0, 0)] (pe := 94) (gs := [hb_in ((x4 <<< (4 : Int32)) ||| x1) 1024]) (loc' := [.ref 0, .int x1, .int x2, .int x3, .int x4, .int ((x4 <<< (4 : Int32)) ||| x1), .int y47, .int y58]) (stk' := [.int ((x4 <<< (4 : Int32)) ||| x1), .ref 1, .int ((x4 <<< (4 : Int32)) ||| x1), .ref 11]) (σ' := (hb_up σ58 10 (Int32.toNatClampNeg ((x4 <<< (4 : Int32)) ||| x1)) ((x1 ||| (y47 <<< (4 : Int32))) ||| (y58 <<< (7 : Int32))))) (by decide +kernel) rfl).trans ?_
    refine congrArg (hb_g _) ?_
    refine hb_Vi (hb_fe_ok (r := (.invokevirtual 68, 3, 13, 1, 0, 0, 0)) (by decide +kernel)) (by decide +kernel) (as := [.int ((x4 <<< (4 : Int32)) ||| x1)]) (v := .ref 1) (rest := [.int ((x4 <<< (4 : Int32)) ||| x1), .ref 11]) rfl rfl (Nat.le_of_ble_eq_true rfl) (fun y94 σ94 => ?_)
    refine hb_br0 (hb_fe_ok (r := (.ifCond .le 7, 3, 104, 0, 0, 0, 0)) (by decide +kernel)) rfl ?_ ?_
    · refine (hb_blk [(.iconst 0, 1, 0, 0, 0, 0, 0)] (pe := 105) (gs := []) (loc' := [.ref 0, .int x1, .int x2, .int x3, .int x4, .int ((x4 <<< (4 : Int32)) ||| x1), .int y47, .int y58]) (stk' := [.int 0, .int ((x4 <<< (4 : Int32)) ||| x1), .ref 11]) (σ' := σ94) (by decide +kernel) rfl).trans ?_
      exact rfl
    · refine (hb_blk [(.iconst 1, 1, 0, 0, 0, 1, 0)] (pe := 101) (gs := []) (loc' := [.ref 0, .int x1, .int x2, .int x3, .int x4, .int ((x4 <<< (4 : Int32)) ||| x1), .int y47, .int y58]) (stk' := [.int 1, .int ((x4 <<< (4 : Int32)) ||| x1), .ref 11]) (σ' := σ94) (by decide +kernel) rfl).trans ?_
      refine (hb_r_goto (hb_fe_ok (r := (.goto 4, 3, 105, 0, 0, 0, 0)) (by decide +kernel))).trans ?_
      exact rfl
set_option maxRecDepth 8000 in
theorem e75_105 (rest : List hbS) (σ : hbM) (x1 : Int32) (x2 : Int32) (x3 : Int32) (x4 : Int32) (x5 : Int32) (x6 : Int32) (x7 : Int32) (s0 : Int32) (s1 : Int32) : hb_run (hbSH0 ++ rest) 75 (105, [.ref 0, .int x1, .int x2, .int x3, .int x4, .int x5, .int x6, .int x7], [.int s0, .int s1, .ref 11], σ) = hb_g [hb_in s1 1024, hb_01 s0, hb_in x5 1024] (if (¬ ((hb_up σ 11 (Int32.toNatClampNeg s1) s0) 11 (Int32.toNatClampNeg x5)) = (0 : Int32)) then (hb_g [hb_in x5 1024, hb_01 0] (hb_run (hbSH0 ++ rest) 75 (25, [.ref 0, .int x1, .int x2, .int x3, .int (x4 + (1 : Int32)), .int x5, .int x6, .int x7], [], (hb_up (hb_up σ 11 (Int32.toNatClampNeg s1) s0) 12 (Int32.toNatClampNeg x5) 0)))) else (hb_ci (hb_ev (hbSH0 ++ rest) 13 [.ref 4, .int x5] (hb_up σ 11 (Int32.toNatClampNeg s1) s0)) (fun y128 σ128 => if (¬ y128 = (σ128 4 2)) then (hb_g [hb_in x5 1024, hb_01 0] (hb_run (hbSH0 ++ rest) 75 (25, [.ref 0, .int x1, .int x2, .int x3, .int (x4 + (1 : Int32)), .int x5, .int x6, .int x7], [], (hb_up σ128 12 (Int32.toNatClampNeg x5) 0)))) else (hb_g [hb_in x5 1024, hb_01 1] (hb_run (hbSH0 ++ rest) 75 (25, [.ref 0, .int x1, .int x2, .int x3, .int (x4 + (1 : Int32)), .int x5, .int x6, .int x7], [], (hb_up σ128 12 (Int32.toNatClampNeg x5) 1))))))) := by
  refine (hb_blk [(.bastore, 1, 0, 0, 0, 0, 0), (.aload_n 0, 1, 0, 0, 0, 0, 0), (.getfield 38, 3, 10, 7, 0, 0, 0), (.iload 5, 2, 5, 0, 0, 0, 0), (.aload_n 0, 1, 0, 0, 0, 0, 0), (.getfield 34, 3, 10, 6, 0, 0, 0), (.iload 5, 2, 5, 0, 0, 0, 0), (.baload, 1, 0, 0, 0, 0, 0)] (pe := 119) (gs := [hb_in s1 1024, hb_01 s0, hb_in x5 1024]) (loc' := [.ref 0, .int x1, .int x2, .int x3, .int x4, .int x5, .int x6, .int x7]) (stk' := [.int ((hb_up σ 11 (Int32.toNatClampNeg s1) s0) 11 (Int32.toNatClampNeg x5)), .int x5, .ref 12]) (σ' := (hb_up σ 11 (Int32.toNatClampNeg s1) s0)) (by decide +kernel) rfl).trans ?_
  refine congrArg (hb_g _) ?_
  refine hb_br0 (hb_fe_ok (r := (.ifCond .ne 26, 3, 145, 0, 0, 0, 0)) (by decide +kernel)) rfl ?_ ?_
  · refine (hb_blk [(.iconst 0, 1, 0, 0, 0, 0, 0)] (pe := 146) (gs := []) (loc' := [.ref 0, .int x1, .int x2, .int x3, .int x4, .int x5, .int x6, .int x7]) (stk' := [.int 0, .int x5, .ref 12]) (σ' := (hb_up σ 11 (Int32.toNatClampNeg s1) s0)) (by decide +kernel) rfl).trans ?_
    refine (hb_blk [(.bastore, 1, 0, 0, 0, 0, 0), (.iinc 4 1, 3, 4, 0, 0, 1, 0)] (pe := 150) (gs := [hb_in x5 1024, hb_01 0]) (loc' := [.ref 0, .int x1, .int x2, .int x3, .int (x4 + (1 : Int32)), .int x5, .int x6, .int x7]) (stk' := []) (σ' := (hb_up (hb_up σ 11 (Int32.toNatClampNeg s1) s0) 12 (Int32.toNatClampNeg x5) 0)) (by decide +kernel) rfl).trans ?_
    refine congrArg (hb_g _) ?_
    refine (hb_r_goto (hb_fe_ok (r := (.goto (-125), 3, 25, 0, 0, 0, 0)) (by decide +kernel))).trans ?_
    exact rfl
  · refine (hb_blk [(.aload_n 0, 1, 0, 0, 0, 0, 0), (.getfield 18, 3, 10, 1, 0, 0, 0), (.iload 5, 2, 5, 0, 0, 0, 0)] (pe := 128) (gs := []) (loc' := [.ref 0, .int x1, .int x2, .int x3, .int x4, .int x5, .int x6, .int x7]) (stk' := [.int x5, .ref 4, .int x5, .ref 12]) (σ' := (hb_up σ 11 (Int32.toNatClampNeg s1) s0)) (by decide +kernel) rfl).trans ?_
    refine hb_Vi (hb_fe_ok (r := (.invokevirtual 68, 3, 13, 1, 0, 0, 0)) (by decide +kernel)) (by decide +kernel) (as := [.int x5]) (v := .ref 4) (rest := [.int x5, .ref 12]) rfl rfl (Nat.le_of_ble_eq_true rfl) (fun y128 σ128 => ?_)
    refine (hb_blk [(.aload_n 0, 1, 0, 0, 0, 0, 0), (.getfield 18, 3, 10, 1, 0, 0, 0), (.getfield 54, 3, 2, 2, 0, 0, 0)] (pe := 138) (gs := []) (loc' := [.ref 0, .int x1, .int x2, .int x3, .int x4, .int x5, .int x6, .int x7]) (stk' := [.int (σ128 4 2), .int y128, .int x5, .ref 12]) (σ' := σ128) (by decide +kernel) rfl).trans ?_
    refine hb_br (hb_fe_ok (r := (.if_icmp .ne 7, 3, 145, 0, 0, 0, 0)) (by decide +kernel)) rfl ?_ ?_
    · refine (hb_blk [(.iconst 0, 1, 0, 0, 0, 0, 0)] (pe := 146) (gs := []) (loc' := [.ref 0, .int x1, .int x2, .int x3, .int x4, .int x5, .int x6, .int x7]) (stk' := [.int 0, .int x5, .ref 12]) (σ' := σ128) (by decide +kernel) rfl).trans ?_
      refine (hb_blk [(.bastore, 1, 0, 0, 0, 0, 0), (.iinc 4 1, 3, 4, 0, 0, 1, 0)] (pe := 150) (gs := [hb_in x5 1024, hb_01 0]) (loc' := [.ref 0, .int x1, .int x2, .int x3, .int (x4 + (1 : Int32)), .int x5, .int x6, .int x7]) (stk' := []) (σ' := (hb_up σ128 12 (Int32.toNatClampNeg x5) 0)) (by decide +kernel) rfl).trans ?_
      refine congrArg (hb_g _) ?_
      refine (hb_r_goto (hb_fe_ok (r := (.goto (-125), 3, 25, 0, 0, 0, 0)) (by decide +kernel))).trans ?_
      exact rfl
    · refine (hb_blk [(.iconst 1, 1, 0, 0, 0, 1, 0)] (pe := 142) (gs := []) (loc' := [.ref 0, .int x1, .int x2, .int x3, .int x4, .int x5, .int x6, .int x7]) (stk' := [.int 1, .int x5, .ref 12]) (σ' := σ128) (by decide +kernel) rfl).trans ?_
      refine (hb_r_goto (hb_fe_ok (r := (.goto 4, 3, 146, 0, 0, 0, 0)) (by decide +kernel))).trans ?_
      refine (hb_blk [(.bastore, 1, 0, 0, 0, 0, 0), (.iinc 4 1, 3, 4, 0, 0, 1, 0)] (pe := 150) (gs := [hb_in x5 1024, hb_01 1]) (loc' := [.ref 0, .int x1, .int x2, .int x3, .int (x4 + (1 : Int32)), .int x5, .int x6, .int x7]) (stk' := []) (σ' := (hb_up σ128 12 (Int32.toNatClampNeg x5) 1)) (by decide +kernel) rfl).trans ?_
      refine congrArg (hb_g _) ?_
      refine (hb_r_goto (hb_fe_ok (r := (.goto (-125), 3, 25, 0, 0, 0, 0)) (by decide +kernel))).trans ?_
      exact rfl
set_option maxRecDepth 8000 in
theorem e13_0a (rest : List hbS) (σ : hbM) (x1 : Int32) : hb_run (hbSH0 ++ rest) 13 (0, [.ref 1, .int x1, .null, .null, .null, .null], [], σ) = hb_run (hbSH0 ++ rest) 13 (4, [.ref 1, .int x1, .int 0, .int 0, .null, .null], [], σ) := by
  refine (hb_blk [(.iconst 0, 1, 0, 0, 0, 0, 0), (.istore_n 2, 1, 2, 0, 0, 0, 0), (.iconst 0, 1, 0, 0, 0, 0, 0), (.istore_n 3, 1, 3, 0, 0, 0, 0)] (pe := 4) (gs := []) (loc' := [.ref 1, .int x1, .int 0, .int 0, .null, .null]) (stk' := []) (σ' := σ) (by decide +kernel) rfl).trans ?_
  exact rfl
set_option maxRecDepth 8000 in
theorem e13_4a (rest : List hbS) (σ : hbM) (x1 : Int32) (x2 : Int32) (x3 : Int32) (v4 : Value) (v5 : Value) : hb_run (hbSH0 ++ rest) 13 (4, [.ref 1, .int x1, .int x2, .int x3, v4, v5], [], σ) = if ((σ 1 2) ≤ x3) then (some (some (.int x2), σ)) else (hb_run (hbSH0 ++ rest) 13 (21, [.ref 1, .int x1, .int x2, .int x3, .int (x3 * (3 : Int32)), .int (x3 * (3 : Int32))], [], σ)) := by
  refine (hb_blk [(.iload_n 3, 1, 3, 0, 0, 0, 0), (.aload_n 0, 1, 0, 0, 0, 0, 0), (.getfield 26, 3, 2, 2, 0, 0, 0)] (pe := 9) (gs := []) (loc' := [.ref 1, .int x1, .int x2, .int x3, v4, v5]) (stk' := [.int (σ 1 2), .int x3]) (σ' := σ) (by decide +kernel) rfl).trans ?_
  refine hb_br (hb_fe_ok (r := (.if_icmp .ge 77, 3, 86, 0, 0, 0, 0)) (by decide +kernel)) rfl ?_ ?_
  · refine (hb_blk [(.iload_n 2, 1, 2, 0, 0, 0, 0)] (pe := 87) (gs := []) (loc' := [.ref 1, .int x1, .int x2, .int x3, v4, v5]) (stk' := [.int x2]) (σ' := σ) (by decide +kernel) rfl).trans ?_
    exact hb_r_iret (hb_fe_ok (r := (.ireturn, 1, 0, 0, 0, 0, 0)) (by decide +kernel))
  · refine (hb_blk [(.iload_n 3, 1, 3, 0, 0, 0, 0), (.iconst 3, 1, 0, 0, 0, 3, 0), (.imul, 1, 0, 0, 0, 0, 0), (.istore 4, 2, 4, 0, 0, 0, 0), (.iload 4, 2, 4, 0, 0, 0, 0), (.istore 5, 2, 5, 0, 0, 0, 0)] (pe := 21) (gs := []) (loc' := [.ref 1, .int x1, .int x2, .int x3, .int (x3 * (3 : Int32)), .int (x3 * (3 : Int32))]) (stk' := []) (σ' := σ) (by decide +kernel) rfl).trans ?_
    exact rfl
set_option maxRecDepth 8000 in
theorem e13_21a (rest : List hbS) (σ : hbM) (x1 : Int32) (x2 : Int32) (x3 : Int32) (x4 : Int32) (x5 : Int32) : hb_run (hbSH0 ++ rest) 13 (21, [.ref 1, .int x1, .int x2, .int x3, .int x4, .int x5], [], σ) = hb_g [hb_in x3 4] (if ((x4 + (σ 3 (Int32.toNatClampNeg x3))) ≤ x5) then (hb_run (hbSH0 ++ rest) 13 (55, [.ref 1, .int x1, .int x2, .int x3, .int x4, .int x5], [], σ)) else (hb_g [hb_in x5 12] (hb_ci (hb_ev (hbSH0 ++ rest) 70 [.int (σ 2 (Int32.toNatClampNeg x5)), .int x1] σ) (fun y43 σ43 => if (y43 = (0 : Int32)) then (hb_run (hbSH0 ++ rest) 13 (55, [.ref 1, .int x1, .int x2, .int x3, .int x4, .int x5], [], σ43)) else (hb_run (hbSH0 ++ rest) 13 (21, [.ref 1, .int x1, .int x2, .int x3, .int x4, .int (x5 + (1 : Int32))], [], σ43)))))) := by
  refine (hb_blk [(.iload 5, 2, 5, 0, 0, 0, 0), (.iload 4, 2, 4, 0, 0, 0, 0), (.aload_n 0, 1, 0, 0, 0, 0, 0), (.getfield 15, 3, 2, 1, 0, 0, 0), (.iload_n 3, 1, 3, 0, 0, 0, 0), (.iaload, 1, 0, 0, 0, 0, 0), (.iadd, 1, 0, 0, 0, 0, 0)] (pe := 32) (gs := [hb_in x3 4]) (loc' := [.ref 1, .int x1, .int x2, .int x3, .int x4, .int x5]) (stk' := [.int (x4 + (σ 3 (Int32.toNatClampNeg x3))), .int x5]) (σ' := σ) (by decide +kernel) rfl).trans ?_
  refine congrArg (hb_g _) ?_
  refine hb_br (hb_fe_ok (r := (.if_icmp .ge 23, 3, 55, 0, 0, 0, 0)) (by decide +kernel)) rfl ?_ ?_
  · exact rfl
  · refine (hb_blk [(.aload_n 0, 1, 0, 0, 0, 0, 0), (.getfield 9, 3, 2, 0, 0, 0, 0), (.iload 5, 2, 5, 0, 0, 0, 0), (.iaload, 1, 0, 0, 0, 0, 0), (.iload_n 1, 1, 1, 0, 0, 0, 0)] (pe := 43) (gs := [hb_in x5 12]) (loc' := [.ref 1, .int x1, .int x2, .int x3, .int x4, .int x5]) (stk' := [.int x1, .int (σ 2 (Int32.toNatClampNeg x5))]) (σ' := σ) (by decide +kernel) rfl).trans ?_
    refine congrArg (hb_g _) ?_
    refine hb_Si (hb_fe_ok (r := (.invokestatic 29, 3, 70, 2, 0, 0, 0)) (by decide +kernel)) (by decide) (by decide +kernel) (as := [.int (σ 2 (Int32.toNatClampNeg x5)), .int x1]) (rest := []) rfl (Nat.le_of_ble_eq_true rfl) (fun y43 σ43 => ?_)
    refine hb_br0 (hb_fe_ok (r := (.ifCond .eq 9, 3, 55, 0, 0, 0, 0)) (by decide +kernel)) rfl ?_ ?_
    · exact rfl
    · refine (hb_blk [(.iinc 5 1, 3, 5, 0, 0, 1, 0)] (pe := 52) (gs := []) (loc' := [.ref 1, .int x1, .int x2, .int x3, .int x4, .int (x5 + (1 : Int32))]) (stk' := []) (σ' := σ43) (by decide +kernel) rfl).trans ?_
      refine (hb_r_goto (hb_fe_ok (r := (.goto (-31), 3, 21, 0, 0, 0, 0)) (by decide +kernel))).trans ?_
      exact rfl
set_option maxRecDepth 8000 in
theorem e13_55a (rest : List hbS) (σ : hbM) (x1 : Int32) (x2 : Int32) (x3 : Int32) (x4 : Int32) (x5 : Int32) : hb_run (hbSH0 ++ rest) 13 (55, [.ref 1, .int x1, .int x2, .int x3, .int x4, .int x5], [], σ) = hb_g [hb_in x3 4] (if (¬ x5 = (x4 + (σ 3 (Int32.toNatClampNeg x3)))) then (hb_run (hbSH0 ++ rest) 13 (75, [.ref 1, .int x1, .int x2, .int x3, .int x4, .int x5], [.int 0, .int x2], σ)) else (hb_run (hbSH0 ++ rest) 13 (75, [.ref 1, .int x1, .int x2, .int x3, .int x4, .int x5], [.int 1, .int x2], σ))) := by
  refine (hb_blk [(.iload_n 2, 1, 2, 0, 0, 0, 0), (.iload 5, 2, 5, 0, 0, 0, 0), (.iload 4, 2, 4, 0, 0, 0, 0), (.aload_n 0, 1, 0, 0, 0, 0, 0), (.getfield 15, 3, 2, 1, 0, 0, 0), (.iload_n 3, 1, 3, 0, 0, 0, 0), (.iaload, 1, 0, 0, 0, 0, 0), (.iadd, 1, 0, 0, 0, 0, 0)] (pe := 67) (gs := [hb_in x3 4]) (loc' := [.ref 1, .int x1, .int x2, .int x3, .int x4, .int x5]) (stk' := [.int (x4 + (σ 3 (Int32.toNatClampNeg x3))), .int x5, .int x2]) (σ' := σ) (by decide +kernel) rfl).trans ?_
  refine congrArg (hb_g _) ?_
  refine hb_br (hb_fe_ok (r := (.if_icmp .ne 7, 3, 74, 0, 0, 0, 0)) (by decide +kernel)) rfl ?_ ?_
  · refine (hb_blk [(.iconst 0, 1, 0, 0, 0, 0, 0)] (pe := 75) (gs := []) (loc' := [.ref 1, .int x1, .int x2, .int x3, .int x4, .int x5]) (stk' := [.int 0, .int x2]) (σ' := σ) (by decide +kernel) rfl).trans ?_
    exact rfl
  · refine (hb_blk [(.iconst 1, 1, 0, 0, 0, 1, 0)] (pe := 71) (gs := []) (loc' := [.ref 1, .int x1, .int x2, .int x3, .int x4, .int x5]) (stk' := [.int 1, .int x2]) (σ' := σ) (by decide +kernel) rfl).trans ?_
    refine (hb_r_goto (hb_fe_ok (r := (.goto 4, 3, 75, 0, 0, 0, 0)) (by decide +kernel))).trans ?_
    exact rfl
set_option maxRecDepth 8000 in
theorem e13_75a (rest : List hbS) (σ : hbM) (x1 : Int32) (x2 : Int32) (x3 : Int32) (x4 : Int32) (x5 : Int32) (s0 : Int32) (s1 : Int32) : hb_run (hbSH0 ++ rest) 13 (75, [.ref 1, .int x1, .int x2, .int x3, .int x4, .int x5], [.int s0, .int s1], σ) = hb_ci (hb_ev (hbSH0 ++ rest) 111 [.int s0] σ) (fun y75 σ75 => hb_run (hbSH0 ++ rest) 13 (4, [.ref 1, .int x1, .int (s1 + y75), .int (x3 + (1 : Int32)), .int x4, .int x5], [], σ75)) := by
  refine hb_Si (hb_fe_ok (r := (.invokestatic 34, 3, 111, 1, 1, 0, 0)) (by decide +kernel)) (by decide) (by decide +kernel) (as := [.int s0]) (rest := [.int s1]) rfl (Nat.le_of_ble_eq_true rfl) (fun y75 σ75 => ?_)
  refine (hb_blk [(.iadd, 1, 0, 0, 0, 0, 0), (.istore_n 2, 1, 2, 0, 0, 0, 0), (.iinc 3 1, 3, 3, 0, 0, 1, 0)] (pe := 83) (gs := []) (loc' := [.ref 1, .int x1, .int (s1 + y75), .int (x3 + (1 : Int32)), .int x4, .int x5]) (stk' := []) (σ' := σ75) (by decide +kernel) rfl).trans ?_
  refine (hb_r_goto (hb_fe_ok (r := (.goto (-79), 3, 4, 0, 0, 0, 0)) (by decide +kernel))).trans ?_
  exact rfl
set_option maxRecDepth 8000 in
theorem e13_0b (rest : List hbS) (σ : hbM) (x1 : Int32) : hb_run (hbSH0 ++ rest) 13 (0, [.ref 4, .int x1, .null, .null, .null, .null], [], σ) = hb_run (hbSH0 ++ rest) 13 (4, [.ref 4, .int x1, .int 0, .int 0, .null, .null], [], σ) := by
  refine (hb_blk [(.iconst 0, 1, 0, 0, 0, 0, 0), (.istore_n 2, 1, 2, 0, 0, 0, 0), (.iconst 0, 1, 0, 0, 0, 0, 0), (.istore_n 3, 1, 3, 0, 0, 0, 0)] (pe := 4) (gs := []) (loc' := [.ref 4, .int x1, .int 0, .int 0, .null, .null]) (stk' := []) (σ' := σ) (by decide +kernel) rfl).trans ?_
  exact rfl
set_option maxRecDepth 8000 in
theorem e13_4b (rest : List hbS) (σ : hbM) (x1 : Int32) (x2 : Int32) (x3 : Int32) (v4 : Value) (v5 : Value) : hb_run (hbSH0 ++ rest) 13 (4, [.ref 4, .int x1, .int x2, .int x3, v4, v5], [], σ) = if ((σ 4 2) ≤ x3) then (some (some (.int x2), σ)) else (hb_run (hbSH0 ++ rest) 13 (21, [.ref 4, .int x1, .int x2, .int x3, .int (x3 * (3 : Int32)), .int (x3 * (3 : Int32))], [], σ)) := by
  refine (hb_blk [(.iload_n 3, 1, 3, 0, 0, 0, 0), (.aload_n 0, 1, 0, 0, 0, 0, 0), (.getfield 26, 3, 2, 2, 0, 0, 0)] (pe := 9) (gs := []) (loc' := [.ref 4, .int x1, .int x2, .int x3, v4, v5]) (stk' := [.int (σ 4 2), .int x3]) (σ' := σ) (by decide +kernel) rfl).trans ?_
  refine hb_br (hb_fe_ok (r := (.if_icmp .ge 77, 3, 86, 0, 0, 0, 0)) (by decide +kernel)) rfl ?_ ?_
  · refine (hb_blk [(.iload_n 2, 1, 2, 0, 0, 0, 0)] (pe := 87) (gs := []) (loc' := [.ref 4, .int x1, .int x2, .int x3, v4, v5]) (stk' := [.int x2]) (σ' := σ) (by decide +kernel) rfl).trans ?_
    exact hb_r_iret (hb_fe_ok (r := (.ireturn, 1, 0, 0, 0, 0, 0)) (by decide +kernel))
  · refine (hb_blk [(.iload_n 3, 1, 3, 0, 0, 0, 0), (.iconst 3, 1, 0, 0, 0, 3, 0), (.imul, 1, 0, 0, 0, 0, 0), (.istore 4, 2, 4, 0, 0, 0, 0), (.iload 4, 2, 4, 0, 0, 0, 0), (.istore 5, 2, 5, 0, 0, 0, 0)] (pe := 21) (gs := []) (loc' := [.ref 4, .int x1, .int x2, .int x3, .int (x3 * (3 : Int32)), .int (x3 * (3 : Int32))]) (stk' := []) (σ' := σ) (by decide +kernel) rfl).trans ?_
    exact rfl
set_option maxRecDepth 8000 in
theorem e13_21b (rest : List hbS) (σ : hbM) (x1 : Int32) (x2 : Int32) (x3 : Int32) (x4 : Int32) (x5 : Int32) : hb_run (hbSH0 ++ rest) 13 (21, [.ref 4, .int x1, .int x2, .int x3, .int x4, .int x5], [], σ) = hb_g [hb_in x3 4] (if ((x4 + (σ 6 (Int32.toNatClampNeg x3))) ≤ x5) then (hb_run (hbSH0 ++ rest) 13 (55, [.ref 4, .int x1, .int x2, .int x3, .int x4, .int x5], [], σ)) else (hb_g [hb_in x5 12] (hb_ci (hb_ev (hbSH0 ++ rest) 70 [.int (σ 5 (Int32.toNatClampNeg x5)), .int x1] σ) (fun y43 σ43 => if (y43 = (0 : Int32)) then (hb_run (hbSH0 ++ rest) 13 (55, [.ref 4, .int x1, .int x2, .int x3, .int x4, .int x5], [], σ43)) else (hb_run (hbSH0 ++ rest) 13 (21, [.ref 4, .int x1, .int x2, .int x3, .int x4, .int (x5 + (1 : Int32))], [], σ43)))))) := by
  refine (hb_blk [(.iload 5, 2, 5, 0, 0, 0, 0), (.iload 4, 2, 4, 0, 0, 0, 0), (.aload_n 0, 1, 0, 0, 0, 0, 0), (.getfield 15, 3, 2, 1, 0, 0, 0), (.iload_n 3, 1, 3, 0, 0, 0, 0), (.iaload, 1, 0, 0, 0, 0, 0), (.iadd, 1, 0, 0, 0, 0, 0)] (pe := 32) (gs := [hb_in x3 4]) (loc' := [.ref 4, .int x1, .int x2, .int x3, .int x4, .int x5]) (stk' := [.int (x4 + (σ 6 (Int32.toNatClampNeg x3))), .int x5]) (σ' := σ) (by decide +kernel) rfl).trans ?_
  refine congrArg (hb_g _) ?_
  refine hb_br (hb_fe_ok (r := (.if_icmp .ge 23, 3, 55, 0, 0, 0, 0)) (by decide +kernel)) rfl ?_ ?_
  · exact rfl
  · refine (hb_blk [(.aload_n 0, 1, 0, 0, 0, 0, 0), (.getfield 9, 3, 2, 0, 0, 0, 0), (.iload 5, 2, 5, 0, 0, 0, 0), (.iaload, 1, 0, 0, 0, 0, 0), (.iload_n 1, 1, 1, 0, 0, 0, 0)] (pe := 43) (gs := [hb_in x5 12]) (loc' := [.ref 4, .int x1, .int x2, .int x3, .int x4, .int x5]) (stk' := [.int x1, .int (σ 5 (Int32.toNatClampNeg x5))]) (σ' := σ) (by decide +kernel) rfl).trans ?_
    refine congrArg (hb_g _) ?_
    refine hb_Si (hb_fe_ok (r := (.invokestatic 29, 3, 70, 2, 0, 0, 0)) (by decide +kernel)) (by decide) (by decide +kernel) (as := [.int (σ 5 (Int32.toNatClampNeg x5)), .int x1]) (rest := []) rfl (Nat.le_of_ble_eq_true rfl) (fun y43 σ43 => ?_)
    refine hb_br0 (hb_fe_ok (r := (.ifCond .eq 9, 3, 55, 0, 0, 0, 0)) (by decide +kernel)) rfl ?_ ?_
    · exact rfl
    · refine (hb_blk [(.iinc 5 1, 3, 5, 0, 0, 1, 0)] (pe := 52) (gs := []) (loc' := [.ref 4, .int x1, .int x2, .int x3, .int x4, .int (x5 + (1 : Int32))]) (stk' := []) (σ' := σ43) (by decide +kernel) rfl).trans ?_
      refine (hb_r_goto (hb_fe_ok (r := (.goto (-31), 3, 21, 0, 0, 0, 0)) (by decide +kernel))).trans ?_
      exact rfl
set_option maxRecDepth 8000 in
theorem e13_55b (rest : List hbS) (σ : hbM) (x1 : Int32) (x2 : Int32) (x3 : Int32) (x4 : Int32) (x5 : Int32) : hb_run (hbSH0 ++ rest) 13 (55, [.ref 4, .int x1, .int x2, .int x3, .int x4, .int x5], [], σ) = hb_g [hb_in x3 4] (if (¬ x5 = (x4 + (σ 6 (Int32.toNatClampNeg x3)))) then (hb_run (hbSH0 ++ rest) 13 (75, [.ref 4, .int x1, .int x2, .int x3, .int x4, .int x5], [.int 0, .int x2], σ)) else (hb_run (hbSH0 ++ rest) 13 (75, [.ref 4, .int x1, .int x2, .int x3, .int x4, .int x5], [.int 1, .int x2], σ))) := by
  refine (hb_blk [(.iload_n 2, 1, 2, 0, 0, 0, 0), (.iload 5, 2, 5, 0, 0, 0, 0), (.iload 4, 2, 4, 0, 0, 0, 0), (.aload_n 0, 1, 0, 0, 0, 0, 0), (.getfield 15, 3, 2, 1, 0, 0, 0), (.iload_n 3, 1, 3, 0, 0, 0, 0), (.iaload, 1, 0, 0, 0, 0, 0), (.iadd, 1, 0, 0, 0, 0, 0)] (pe := 67) (gs := [hb_in x3 4]) (loc' := [.ref 4, .int x1, .int x2, .int x3, .int x4, .int x5]) (stk' := [.int (x4 + (σ 6 (Int32.toNatClampNeg x3))), .int x5, .int x2]) (σ' := σ) (by decide +kernel) rfl).trans ?_
  refine congrArg (hb_g _) ?_
  refine hb_br (hb_fe_ok (r := (.if_icmp .ne 7, 3, 74, 0, 0, 0, 0)) (by decide +kernel)) rfl ?_ ?_
  · refine (hb_blk [(.iconst 0, 1, 0, 0, 0, 0, 0)] (pe := 75) (gs := []) (loc' := [.ref 4, .int x1, .int x2, .int x3, .int x4, .int x5]) (stk' := [.int 0, .int x2]) (σ' := σ) (by decide +kernel) rfl).trans ?_
    exact rfl
  · refine (hb_blk [(.iconst 1, 1, 0, 0, 0, 1, 0)] (pe := 71) (gs := []) (loc' := [.ref 4, .int x1, .int x2, .int x3, .int x4, .int x5]) (stk' := [.int 1, .int x2]) (σ' := σ) (by decide +kernel) rfl).trans ?_
    refine (hb_r_goto (hb_fe_ok (r := (.goto 4, 3, 75, 0, 0, 0, 0)) (by decide +kernel))).trans ?_
    exact rfl
set_option maxRecDepth 8000 in
theorem e13_75b (rest : List hbS) (σ : hbM) (x1 : Int32) (x2 : Int32) (x3 : Int32) (x4 : Int32) (x5 : Int32) (s0 : Int32) (s1 : Int32) : hb_run (hbSH0 ++ rest) 13 (75, [.ref 4, .int x1, .int x2, .int x3, .int x4, .int x5], [.int s0, .int s1], σ) = hb_ci (hb_ev (hbSH0 ++ rest) 111 [.int s0] σ) (fun y75 σ75 => hb_run (hbSH0 ++ rest) 13 (4, [.ref 4, .int x1, .int (s1 + y75), .int (x3 + (1 : Int32)), .int x4, .int x5], [], σ75)) := by
  refine hb_Si (hb_fe_ok (r := (.invokestatic 34, 3, 111, 1, 1, 0, 0)) (by decide +kernel)) (by decide) (by decide +kernel) (as := [.int s0]) (rest := [.int s1]) rfl (Nat.le_of_ble_eq_true rfl) (fun y75 σ75 => ?_)
  refine (hb_blk [(.iadd, 1, 0, 0, 0, 0, 0), (.istore_n 2, 1, 2, 0, 0, 0, 0), (.iinc 3 1, 3, 3, 0, 0, 1, 0)] (pe := 83) (gs := []) (loc' := [.ref 4, .int x1, .int (s1 + y75), .int (x3 + (1 : Int32)), .int x4, .int x5]) (stk' := []) (σ' := σ75) (by decide +kernel) rfl).trans ?_
  refine (hb_r_goto (hb_fe_ok (r := (.goto (-79), 3, 4, 0, 0, 0, 0)) (by decide +kernel))).trans ?_
  exact rfl
