/-! equations of the small machine, printed by wip/whole/gen_eqs.py -/
set_option maxRecDepth 8000 in
theorem e112_0  (σ : hbM) (x0 : Int64) (x2 : Int64) (x4 : Int64) : hb_run hbSH 112 (0, [.long x0, .null, .long x2, .null, .long x4, .null], [], σ) = if ((lg_cmp x0 x2) < (0 : Int32)) then (some (some (.int 0), σ)) else (if ((0 : Int32) < (lg_cmp x0 x4)) then (some (some (.int 0), σ)) else (some (some (.int 1), σ))) := by
  refine (hb_blk [(.lload_n 0, 1, 0, 0, 0, 0, 0), (.lload_n 2, 1, 2, 0, 0, 0, 0), (.lcmp, 1, 0, 0, 0, 0, 0)] (pe := 3) (gs := []) (loc' := [.long x0, .null, .long x2, .null, .long x4, .null]) (stk' := [.int (lg_cmp x0 x2)]) (σ' := σ) (by decide +kernel) rfl).trans ?_
  refine hb_br0 (hb_fe_ok (r := (.ifCond .lt 14, 3, 17, 0, 0, 0, 0)) (by decide +kernel)) rfl ?_ ?_
  · refine (hb_blk [(.iconst 0, 1, 0, 0, 0, 0, 0)] (pe := 18) (gs := []) (loc' := [.long x0, .null, .long x2, .null, .long x4, .null]) (stk' := [.int 0]) (σ' := σ) (by decide +kernel) rfl).trans ?_
    exact hb_r_zret1 (hb_fe_ok (r := (.ireturn, 1, 0, 0, 1, 0, 0)) (by decide +kernel)) (by decide)
  · refine (hb_blk [(.lload_n 0, 1, 0, 0, 0, 0, 0), (.lload 4, 2, 4, 0, 0, 0, 0), (.lcmp, 1, 0, 0, 0, 0, 0)] (pe := 10) (gs := []) (loc' := [.long x0, .null, .long x2, .null, .long x4, .null]) (stk' := [.int (lg_cmp x0 x4)]) (σ' := σ) (by decide +kernel) rfl).trans ?_
    refine hb_br0 (hb_fe_ok (r := (.ifCond .gt 7, 3, 17, 0, 0, 0, 0)) (by decide +kernel)) rfl ?_ ?_
    · refine (hb_blk [(.iconst 0, 1, 0, 0, 0, 0, 0)] (pe := 18) (gs := []) (loc' := [.long x0, .null, .long x2, .null, .long x4, .null]) (stk' := [.int 0]) (σ' := σ) (by decide +kernel) rfl).trans ?_
      exact hb_r_zret1 (hb_fe_ok (r := (.ireturn, 1, 0, 0, 1, 0, 0)) (by decide +kernel)) (by decide)
    · refine (hb_blk [(.iconst 1, 1, 0, 0, 0, 1, 0)] (pe := 14) (gs := []) (loc' := [.long x0, .null, .long x2, .null, .long x4, .null]) (stk' := [.int 1]) (σ' := σ) (by decide +kernel) rfl).trans ?_
      refine (hb_r_goto (hb_fe_ok (r := (.goto 4, 3, 18, 0, 0, 0, 0)) (by decide +kernel))).trans ?_
      exact hb_r_zret1 (hb_fe_ok (r := (.ireturn, 1, 0, 0, 1, 0, 0)) (by decide +kernel)) (by decide)
set_option maxRecDepth 8000 in
theorem e113_0  (σ : hbM) (x1 : Int32) : hb_run hbSH 113 (0, [.ref 54, .int x1], [], σ) = some (some (.int ((-1000010 : Int32) - x1)), (hb_up σ 54 1 x1)) := by
  refine (hb_blk [(.aload_n 0, 1, 0, 0, 0, 0, 0), (.iload_n 1, 1, 1, 0, 0, 0, 0), (.putfield 91, 3, 12, 1, 0, 0, 0), (.ldc 94, 2, 0, 0, 0, (-1000010), 0), (.iload_n 1, 1, 1, 0, 0, 0, 0), (.isub, 1, 0, 0, 0, 0, 0)] (pe := 9) (gs := []) (loc' := [.ref 54, .int x1]) (stk' := [.int ((-1000010 : Int32) - x1)]) (σ' := (hb_up σ 54 1 x1)) (by decide +kernel) rfl).trans ?_
  exact hb_r_iret (hb_fe_ok (r := (.ireturn, 1, 0, 0, 0, 0, 0)) (by decide +kernel))
set_option maxRecDepth 8000 in
theorem e114_0  (σ : hbM) (x0 : Int32) : hb_run hbSH 114 (0, [.int x0], [], σ) = hb_ci (hb_ev hbSH 112 [.long (Int32.toInt64 x0), .long 0, .long 7] σ) (fun y6 σ6 => hb_g [hb_01 y6] (some (some (.int y6), σ6))) := by
  refine (hb_blk [(.iload_n 0, 1, 0, 0, 0, 0, 0), (.i2l, 1, 0, 0, 0, 0, 0), (.lconst 0, 1, 0, 0, 0, 0, 0), (.ldc2_w 95, 3, 0, 0, 0, 0, 7)] (pe := 6) (gs := []) (loc' := [.int x0]) (stk' := [.long 7, .long 0, .long (Int32.toInt64 x0)]) (σ' := σ) (by decide +kernel) rfl).trans ?_
  refine hb_Si (hb_fe_ok (r := (.invokestatic 97, 3, 112, 3, 0, 0, 0)) (by decide +kernel)) (by decide) (by decide +kernel) (as := [.long (Int32.toInt64 x0), .long 0, .long 7]) (rest := []) rfl (Nat.le_of_ble_eq_true rfl) (fun y6 σ6 => ?_)
  exact hb_r_zret (hb_fe_ok (r := (.ireturn, 1, 0, 0, 1, 0, 0)) (by decide +kernel))
set_option maxRecDepth 8000 in
theorem e115_0  (σ : hbM) (x1 : Int32) (x2 : Int32) (x3 : Int32) : hb_run hbSH 115 (0, [.ref 54, .int x1, .int x2, .int x3, .null], [], σ) = hb_ci (hb_ev hbSH 114 [.int x1] (hb_up σ 54 0 0)) (fun y6 σ6 => if (y6 = (0 : Int32)) then (some (some (.int (-1000001)), σ6)) else (hb_ci (hb_ev hbSH 112 [.long (Int32.toInt64 x2), .long 0, .long 2] σ6) (fun y18 σ18 => if (y18 = (0 : Int32)) then (some (some (.int (-1000001)), σ18)) else (if (x3 ≤ (40 : Int32)) then (if ((0 : Int32) ≤ x3) then (hb_g [hb_in x1 8, hb_in x1 8] (hb_run hbSH 115 (65, [.ref 54, .int x1, .int x2, .int x3, .int 0], [], (hb_up (hb_up (hb_up σ18 54 1 0) 55 (Int32.toNatClampNeg x1) x2) 56 (Int32.toNatClampNeg x1) x3)))) else (hb_ci (hb_ev hbSH 113 [.ref 54, .int 4] (hb_up σ18 54 1 0)) (fun y44 σ44 => some (some (.int y44), σ44)))) else (some (some (.int (-1000001)), σ18)))))) := by
  refine (hb_blk [(.aload_n 0, 1, 0, 0, 0, 0, 0), (.iconst 0, 1, 0, 0, 0, 0, 0), (.putfield 87, 3, 12, 0, 0, 0, 0), (.iload_n 1, 1, 1, 0, 0, 0, 0)] (pe := 6) (gs := []) (loc' := [.ref 54, .int x1, .int x2, .int x3, .null]) (stk' := [.int x1]) (σ' := (hb_up σ 54 0 0)) (by decide +kernel) rfl).trans ?_
  refine hb_Si (hb_fe_ok (r := (.invokestatic 101, 3, 114, 1, 0, 0, 0)) (by decide +kernel)) (by decide) (by decide +kernel) (as := [.int x1]) (rest := []) rfl (Nat.le_of_ble_eq_true rfl) (fun y6 σ6 => ?_)
  refine hb_br0 (hb_fe_ok (r := (.ifCond .eq 21, 3, 30, 0, 0, 0, 0)) (by decide +kernel)) rfl ?_ ?_
  · refine (hb_blk [(.ldc 107, 2, 0, 0, 0, (-1000001), 0)] (pe := 32) (gs := []) (loc' := [.ref 54, .int x1, .int x2, .int x3, .null]) (stk' := [.int (-1000001)]) (σ' := σ6) (by decide +kernel) rfl).trans ?_
    exact hb_r_iret (hb_fe_ok (r := (.ireturn, 1, 0, 0, 0, 0, 0)) (by decide +kernel))
  · refine (hb_blk [(.iload_n 2, 1, 2, 0, 0, 0, 0), (.i2l, 1, 0, 0, 0, 0, 0), (.lconst 0, 1, 0, 0, 0, 0, 0), (.ldc2_w 105, 3, 0, 0, 0, 0, 2)] (pe := 18) (gs := []) (loc' := [.ref 54, .int x1, .int x2, .int x3, .null]) (stk' := [.long 2, .long 0, .long (Int32.toInt64 x2)]) (σ' := σ6) (by decide +kernel) rfl).trans ?_
    refine hb_Si (hb_fe_ok (r := (.invokestatic 97, 3, 112, 3, 0, 0, 0)) (by decide +kernel)) (by decide) (by decide +kernel) (as := [.long (Int32.toInt64 x2), .long 0, .long 2]) (rest := []) rfl (Nat.le_of_ble_eq_true rfl) (fun y18 σ18 => ?_)
    refine hb_br0 (hb_fe_ok (r := (.ifCond .eq 9, 3, 30, 0, 0, 0, 0)) (by decide +kernel)) rfl ?_ ?_
    · refine (hb_blk [(.ldc 107, 2, 0, 0, 0, (-1000001), 0)] (pe := 32) (gs := []) (loc' := [.ref 54, .int x1, .int x2, .int x3, .null]) (stk' := [.int (-1000001)]) (σ' := σ18) (by decide +kernel) rfl).trans ?_
      exact hb_r_iret (hb_fe_ok (r := (.ireturn, 1, 0, 0, 0, 0, 0)) (by decide +kernel))
    · refine (hb_blk [(.iload_n 3, 1, 3, 0, 0, 0, 0), (.bipush 40, 2, 0, 0, 0, 40, 0)] (pe := 27) (gs := []) (loc' := [.ref 54, .int x1, .int x2, .int x3, .null]) (stk' := [.int 40, .int x3]) (σ' := σ18) (by decide +kernel) rfl).trans ?_
      refine hb_br (hb_fe_ok (r := (.if_icmp .le 6, 3, 33, 0, 0, 0, 0)) (by decide +kernel)) rfl ?_ ?_
      · refine (hb_blk [(.aload_n 0, 1, 0, 0, 0, 0, 0), (.iconst 0, 1, 0, 0, 0, 0, 0), (.putfield 91, 3, 12, 1, 0, 0, 0), (.iload_n 3, 1, 3, 0, 0, 0, 0)] (pe := 39) (gs := []) (loc' := [.ref 54, .int x1, .int x2, .int x3, .null]) (stk' := [.int x3]) (σ' := (hb_up σ18 54 1 0)) (by decide +kernel) rfl).trans ?_
        refine hb_br0 (hb_fe_ok (r := (.ifCond .ge 9, 3, 48, 0, 0, 0, 0)) (by decide +kernel)) rfl ?_ ?_
        · refine (hb_blk [(.aload_n 0, 1, 0, 0, 0, 0, 0), (.getfield 7, 3, 12, 2, 0, 0, 0), (.iload_n 1, 1, 1, 0, 0, 0, 0), (.iload_n 2, 1, 2, 0, 0, 0, 0), (.iastore, 1, 0, 0, 0, 0, 0), (.aload_n 0, 1, 0, 0, 0, 0, 0), (.getfield 13, 3, 12, 3, 0, 0, 0), (.iload_n 1, 1, 1, 0, 0, 0, 0), (.iload_n 3, 1, 3, 0, 0, 0, 0), (.iastore, 1, 0, 0, 0, 0, 0), (.iconst 0, 1, 0, 0, 0, 0, 0), (.istore 4, 2, 4, 0, 0, 0, 0)] (pe := 65) (gs := [hb_in x1 8, hb_in x1 8]) (loc' := [.ref 54, .int x1, .int x2, .int x3, .int 0]) (stk' := []) (σ' := (hb_up (hb_up (hb_up σ18 54 1 0) 55 (Int32.toNatClampNeg x1) x2) 56 (Int32.toNatClampNeg x1) x3)) (by decide +kernel) rfl).trans ?_
          refine congrArg (hb_g _) ?_
          exact rfl
        · refine (hb_blk [(.aload_n 0, 1, 0, 0, 0, 0, 0), (.iconst 4, 1, 0, 0, 0, 4, 0)] (pe := 44) (gs := []) (loc' := [.ref 54, .int x1, .int x2, .int x3, .null]) (stk' := [.int 4, .ref 54]) (σ' := (hb_up σ18 54 1 0)) (by decide +kernel) rfl).trans ?_
          refine hb_Vi (hb_fe_ok (r := (.invokevirtual 108, 3, 113, 1, 0, 0, 0)) (by decide +kernel)) (by decide +kernel) (as := [.int 4]) (v := .ref 54) (rest := []) rfl rfl (Nat.le_of_ble_eq_true rfl) (fun y44 σ44 => ?_)
          exact hb_r_iret (hb_fe_ok (r := (.ireturn, 1, 0, 0, 0, 0, 0)) (by decide +kernel))
      · refine (hb_blk [(.ldc 107, 2, 0, 0, 0, (-1000001), 0)] (pe := 32) (gs := []) (loc' := [.ref 54, .int x1, .int x2, .int x3, .null]) (stk' := [.int (-1000001)]) (σ' := σ18) (by decide +kernel) rfl).trans ?_
        exact hb_r_iret (hb_fe_ok (r := (.ireturn, 1, 0, 0, 0, 0, 0)) (by decide +kernel))
set_option maxRecDepth 8000 in
theorem e115_65  (σ : hbM) (x1 : Int32) (x2 : Int32) (x3 : Int32) (x4 : Int32) : hb_run hbSH 115 (65, [.ref 54, .int x1, .int x2, .int x3, .int x4], [], σ) = if ((40 : Int32) ≤ x4) then (some (some (.int x3), σ)) else (hb_g [hb_in (((40 : Int32) * x1) + x4) 320] (hb_run hbSH 115 (65, [.ref 54, .int x1, .int x2, .int x3, .int (x4 + (1 : Int32))], [], (hb_up σ 57 (Int32.toNatClampNeg (((40 : Int32) * x1) + x4)) 0)))) := by
  refine (hb_blk [(.iload 4, 2, 4, 0, 0, 0, 0), (.bipush 40, 2, 0, 0, 0, 40, 0)] (pe := 69) (gs := []) (loc' := [.ref 54, .int x1, .int x2, .int x3, .int x4]) (stk' := [.int 40, .int x4]) (σ' := σ) (by decide +kernel) rfl).trans ?_
  refine hb_br (hb_fe_ok (r := (.if_icmp .ge 22, 3, 91, 0, 0, 0, 0)) (by decide +kernel)) rfl ?_ ?_
  · refine (hb_blk [(.iload_n 3, 1, 3, 0, 0, 0, 0)] (pe := 92) (gs := []) (loc' := [.ref 54, .int x1, .int x2, .int x3, .int x4]) (stk' := [.int x3]) (σ' := σ) (by decide +kernel) rfl).trans ?_
    exact hb_r_iret (hb_fe_ok (r := (.ireturn, 1, 0, 0, 0, 0, 0)) (by decide +kernel))
  · refine (hb_blk [(.aload_n 0, 1, 0, 0, 0, 0, 0), (.getfield 16, 3, 12, 4, 0, 0, 0), (.bipush 40, 2, 0, 0, 0, 40, 0), (.iload_n 1, 1, 1, 0, 0, 0, 0), (.imul, 1, 0, 0, 0, 0, 0), (.iload 4, 2, 4, 0, 0, 0, 0), (.iadd, 1, 0, 0, 0, 0, 0), (.iconst 0, 1, 0, 0, 0, 0, 0), (.iastore, 1, 0, 0, 0, 0, 0), (.iinc 4 1, 3, 4, 0, 0, 1, 0)] (pe := 88) (gs := [hb_in (((40 : Int32) * x1) + x4) 320]) (loc' := [.ref 54, .int x1, .int x2, .int x3, .int (x4 + (1 : Int32))]) (stk' := []) (σ' := (hb_up σ 57 (Int32.toNatClampNeg (((40 : Int32) * x1) + x4)) 0)) (by decide +kernel) rfl).trans ?_
    refine congrArg (hb_g _) ?_
    refine (hb_r_goto (hb_fe_ok (r := (.goto (-23), 3, 65, 0, 0, 0, 0)) (by decide +kernel))).trans ?_
    exact rfl
set_option maxRecDepth 8000 in
theorem e116_0  (σ : hbM) (x1 : Int32) (x2 : Int32) (x3 : Int32) : hb_run hbSH 116 (0, [.ref 54, .int x1, .int x2, .int x3], [], σ) = hb_ci (hb_ev hbSH 114 [.int x1] (hb_up σ 54 0 0)) (fun y6 σ6 => if (¬ y6 = (0 : Int32)) then (hb_g [hb_in x1 8] (if ((0 : Int32) ≤ (σ6 55 (Int32.toNatClampNeg x1))) then (hb_g [hb_in x1 8] (hb_ci (hb_ev hbSH 112 [.long (Int32.toInt64 x2), .long 0, .long (Int32.toInt64 ((σ6 56 (Int32.toNatClampNeg x1)) - (1 : Int32)))] (hb_up σ6 54 1 0)) (fun y47 σ47 => if (¬ y47 = (0 : Int32)) then (hb_g [hb_in x1 8] (if (¬ (σ47 55 (Int32.toNatClampNeg x1)) = (0 : Int32)) then (hb_g [hb_in x1 8] (if (¬ (σ47 55 (Int32.toNatClampNeg x1)) = (1 : Int32)) then (hb_run hbSH 116 (99, [.ref 54, .int x1, .int x2, .int x3], [.int x3, .int (((40 : Int32) * x1) + x2), .ref 57], σ47)) else (hb_run hbSH 116 (99, [.ref 54, .int x1, .int x2, .int x3], [.int ((Int32.toInt16 x3).toInt32), .int (((40 : Int32) * x1) + x2), .ref 57], σ47)))) else (hb_run hbSH 116 (99, [.ref 54, .int x1, .int x2, .int x3], [.int ((Int32.toInt8 x3).toInt32), .int (((40 : Int32) * x1) + x2), .ref 57], σ47)))) else (hb_ci (hb_ev hbSH 113 [.ref 54, .int 2] σ47) (fun y55 σ55 => some (some (.int y55), σ55)))))) else (hb_ci (hb_ev hbSH 113 [.ref 54, .int 1] (hb_up σ6 54 1 0)) (fun y31 σ31 => some (some (.int y31), σ31))))) else (some (some (.int (-1000001)), σ6))) := by
  refine (hb_blk [(.aload_n 0, 1, 0, 0, 0, 0, 0), (.iconst 0, 1, 0, 0, 0, 0, 0), (.putfield 87, 3, 12, 0, 0, 0, 0), (.iload_n 1, 1, 1, 0, 0, 0, 0)] (pe := 6) (gs := []) (loc' := [.ref 54, .int x1, .int x2, .int x3]) (stk' := [.int x1]) (σ' := (hb_up σ 54 0 0)) (by decide +kernel) rfl).trans ?_
  refine hb_Si (hb_fe_ok (r := (.invokestatic 101, 3, 114, 1, 0, 0, 0)) (by decide +kernel)) (by decide) (by decide +kernel) (as := [.int x1]) (rest := []) rfl (Nat.le_of_ble_eq_true rfl) (fun y6 σ6 => ?_)
  refine hb_br0 (hb_fe_ok (r := (.ifCond .ne 6, 3, 15, 0, 0, 0, 0)) (by decide +kernel)) rfl ?_ ?_
  · refine (hb_blk [(.aload_n 0, 1, 0, 0, 0, 0, 0), (.iconst 0, 1, 0, 0, 0, 0, 0), (.putfield 91, 3, 12, 1, 0, 0, 0), (.aload_n 0, 1, 0, 0, 0, 0, 0), (.getfield 7, 3, 12, 2, 0, 0, 0), (.iload_n 1, 1, 1, 0, 0, 0, 0), (.iaload, 1, 0, 0, 0, 0, 0)] (pe := 26) (gs := [hb_in x1 8]) (loc' := [.ref 54, .int x1, .int x2, .int x3]) (stk' := [.int (σ6 55 (Int32.toNatClampNeg x1))]) (σ' := (hb_up σ6 54 1 0)) (by decide +kernel) rfl).trans ?_
    refine congrArg (hb_g _) ?_
    refine hb_br0 (hb_fe_ok (r := (.ifCond .ge 9, 3, 35, 0, 0, 0, 0)) (by decide +kernel)) rfl ?_ ?_
    · refine (hb_blk [(.iload_n 2, 1, 2, 0, 0, 0, 0), (.i2l, 1, 0, 0, 0, 0, 0), (.lconst 0, 1, 0, 0, 0, 0, 0), (.aload_n 0, 1, 0, 0, 0, 0, 0), (.getfield 13, 3, 12, 3, 0, 0, 0), (.iload_n 1, 1, 1, 0, 0, 0, 0), (.iaload, 1, 0, 0, 0, 0, 0), (.iconst 1, 1, 0, 0, 0, 1, 0), (.isub, 1, 0, 0, 0, 0, 0), (.i2l, 1, 0, 0, 0, 0, 0)] (pe := 47) (gs := [hb_in x1 8]) (loc' := [.ref 54, .int x1, .int x2, .int x3]) (stk' := [.long (Int32.toInt64 ((σ6 56 (Int32.toNatClampNeg x1)) - (1 : Int32))), .long 0, .long (Int32.toInt64 x2)]) (σ' := (hb_up σ6 54 1 0)) (by decide +kernel) rfl).trans ?_
      refine congrArg (hb_g _) ?_
      refine hb_Si (hb_fe_ok (r := (.invokestatic 97, 3, 112, 3, 0, 0, 0)) (by decide +kernel)) (by decide) (by decide +kernel) (as := [.long (Int32.toInt64 x2), .long 0, .long (Int32.toInt64 ((σ6 56 (Int32.toNatClampNeg x1)) - (1 : Int32)))]) (rest := []) rfl (Nat.le_of_ble_eq_true rfl) (fun y47 σ47 => ?_)
      refine hb_br0 (hb_fe_ok (r := (.ifCond .ne 9, 3, 59, 0, 0, 0, 0)) (by decide +kernel)) rfl ?_ ?_
      · refine (hb_blk [(.aload_n 0, 1, 0, 0, 0, 0, 0), (.getfield 16, 3, 12, 4, 0, 0, 0), (.bipush 40, 2, 0, 0, 0, 40, 0), (.iload_n 1, 1, 1, 0, 0, 0, 0), (.imul, 1, 0, 0, 0, 0, 0), (.iload_n 2, 1, 2, 0, 0, 0, 0), (.iadd, 1, 0, 0, 0, 0, 0), (.aload_n 0, 1, 0, 0, 0, 0, 0), (.getfield 7, 3, 12, 2, 0, 0, 0), (.iload_n 1, 1, 1, 0, 0, 0, 0), (.iaload, 1, 0, 0, 0, 0, 0)] (pe := 75) (gs := [hb_in x1 8]) (loc' := [.ref 54, .int x1, .int x2, .int x3]) (stk' := [.int (σ47 55 (Int32.toNatClampNeg x1)), .int (((40 : Int32) * x1) + x2), .ref 57]) (σ' := σ47) (by decide +kernel) rfl).trans ?_
        refine congrArg (hb_g _) ?_
        refine hb_br0 (hb_fe_ok (r := (.ifCond .ne 8, 3, 83, 0, 0, 0, 0)) (by decide +kernel)) rfl ?_ ?_
        · refine (hb_blk [(.aload_n 0, 1, 0, 0, 0, 0, 0), (.getfield 7, 3, 12, 2, 0, 0, 0), (.iload_n 1, 1, 1, 0, 0, 0, 0), (.iaload, 1, 0, 0, 0, 0, 0), (.iconst 1, 1, 0, 0, 0, 1, 0)] (pe := 90) (gs := [hb_in x1 8]) (loc' := [.ref 54, .int x1, .int x2, .int x3]) (stk' := [.int 1, .int (σ47 55 (Int32.toNatClampNeg x1)), .int (((40 : Int32) * x1) + x2), .ref 57]) (σ' := σ47) (by decide +kernel) rfl).trans ?_
          refine congrArg (hb_g _) ?_
          refine hb_br (hb_fe_ok (r := (.if_icmp .ne 8, 3, 98, 0, 0, 0, 0)) (by decide +kernel)) rfl ?_ ?_
          · refine (hb_blk [(.iload_n 3, 1, 3, 0, 0, 0, 0)] (pe := 99) (gs := []) (loc' := [.ref 54, .int x1, .int x2, .int x3]) (stk' := [.int x3, .int (((40 : Int32) * x1) + x2), .ref 57]) (σ' := σ47) (by decide +kernel) rfl).trans ?_
            exact rfl
          · refine (hb_blk [(.iload_n 3, 1, 3, 0, 0, 0, 0), (.i2s, 1, 0, 0, 0, 0, 0)] (pe := 95) (gs := []) (loc' := [.ref 54, .int x1, .int x2, .int x3]) (stk' := [.int ((Int32.toInt16 x3).toInt32), .int (((40 : Int32) * x1) + x2), .ref 57]) (σ' := σ47) (by decide +kernel) rfl).trans ?_
            refine (hb_r_goto (hb_fe_ok (r := (.goto 4, 3, 99, 0, 0, 0, 0)) (by decide +kernel))).trans ?_
            exact rfl
        · refine (hb_blk [(.iload_n 3, 1, 3, 0, 0, 0, 0), (.i2b, 1, 0, 0, 0, 0, 0)] (pe := 80) (gs := []) (loc' := [.ref 54, .int x1, .int x2, .int x3]) (stk' := [.int ((Int32.toInt8 x3).toInt32), .int (((40 : Int32) * x1) + x2), .ref 57]) (σ' := σ47) (by decide +kernel) rfl).trans ?_
          refine (hb_r_goto (hb_fe_ok (r := (.goto 19, 3, 99, 0, 0, 0, 0)) (by decide +kernel))).trans ?_
          exact rfl
      · refine (hb_blk [(.aload_n 0, 1, 0, 0, 0, 0, 0), (.iconst 2, 1, 0, 0, 0, 2, 0)] (pe := 55) (gs := []) (loc' := [.ref 54, .int x1, .int x2, .int x3]) (stk' := [.int 2, .ref 54]) (σ' := σ47) (by decide +kernel) rfl).trans ?_
        refine hb_Vi (hb_fe_ok (r := (.invokevirtual 108, 3, 113, 1, 0, 0, 0)) (by decide +kernel)) (by decide +kernel) (as := [.int 2]) (v := .ref 54) (rest := []) rfl rfl (Nat.le_of_ble_eq_true rfl) (fun y55 σ55 => ?_)
        exact hb_r_iret (hb_fe_ok (r := (.ireturn, 1, 0, 0, 0, 0, 0)) (by decide +kernel))
    · refine (hb_blk [(.aload_n 0, 1, 0, 0, 0, 0, 0), (.iconst 1, 1, 0, 0, 0, 1, 0)] (pe := 31) (gs := []) (loc' := [.ref 54, .int x1, .int x2, .int x3]) (stk' := [.int 1, .ref 54]) (σ' := (hb_up σ6 54 1 0)) (by decide +kernel) rfl).trans ?_
      refine hb_Vi (hb_fe_ok (r := (.invokevirtual 108, 3, 113, 1, 0, 0, 0)) (by decide +kernel)) (by decide +kernel) (as := [.int 1]) (v := .ref 54) (rest := []) rfl rfl (Nat.le_of_ble_eq_true rfl) (fun y31 σ31 => ?_)
      exact hb_r_iret (hb_fe_ok (r := (.ireturn, 1, 0, 0, 0, 0, 0)) (by decide +kernel))
  · refine (hb_blk [(.ldc 107, 2, 0, 0, 0, (-1000001), 0)] (pe := 14) (gs := []) (loc' := [.ref 54, .int x1, .int x2, .int x3]) (stk' := [.int (-1000001)]) (σ' := σ6) (by decide +kernel) rfl).trans ?_
    exact hb_r_iret (hb_fe_ok (r := (.ireturn, 1, 0, 0, 0, 0, 0)) (by decide +kernel))
set_option maxRecDepth 8000 in
theorem e116_99  (σ : hbM) (x1 : Int32) (x2 : Int32) (x3 : Int32) (s0 : Int32) (s1 : Int32) : hb_run hbSH 116 (99, [.ref 54, .int x1, .int x2, .int x3], [.int s0, .int s1, .ref 57], σ) = hb_g [hb_in s1 320, hb_in (((40 : Int32) * x1) + x2) 320] (some (some (.int ((hb_up σ 57 (Int32.toNatClampNeg s1) s0) 57 (Int32.toNatClampNeg (((40 : Int32) * x1) + x2)))), (hb_up σ 57 (Int32.toNatClampNeg s1) s0))) := by
  refine (hb_blk [(.iastore, 1, 0, 0, 0, 0, 0), (.aload_n 0, 1, 0, 0, 0, 0, 0), (.getfield 16, 3, 12, 4, 0, 0, 0), (.bipush 40, 2, 0, 0, 0, 40, 0), (.iload_n 1, 1, 1, 0, 0, 0, 0), (.imul, 1, 0, 0, 0, 0, 0), (.iload_n 2, 1, 2, 0, 0, 0, 0), (.iadd, 1, 0, 0, 0, 0, 0), (.iaload, 1, 0, 0, 0, 0, 0)] (pe := 111) (gs := [hb_in s1 320, hb_in (((40 : Int32) * x1) + x2) 320]) (loc' := [.ref 54, .int x1, .int x2, .int x3]) (stk' := [.int ((hb_up σ 57 (Int32.toNatClampNeg s1) s0) 57 (Int32.toNatClampNeg (((40 : Int32) * x1) + x2)))]) (σ' := (hb_up σ 57 (Int32.toNatClampNeg s1) s0)) (by decide +kernel) rfl).trans ?_
  refine congrArg (hb_g _) ?_
  exact hb_r_iret (hb_fe_ok (r := (.ireturn, 1, 0, 0, 0, 0, 0)) (by decide +kernel))
set_option maxRecDepth 8000 in
theorem e117_0  (σ : hbM) (x1 : Int32) (x2 : Int32) (x3 : Int32) (x4 : Int32) (x5 : Int32) : hb_run hbSH 117 (0, [.ref 54, .int x1, .int x2, .int x3, .int x4, .int x5, .null, .null, .null], [], σ) = hb_ci (hb_ev hbSH 114 [.int x1] (hb_up σ 54 0 0)) (fun y6 σ6 => if (y6 = (0 : Int32)) then (some (some (.int (-1000001)), σ6)) else (hb_ci (hb_ev hbSH 114 [.int x3] σ6) (fun y13 σ13 => if (¬ y13 = (0 : Int32)) then (hb_g [hb_in x1 8] (if ((σ13 55 (Int32.toNatClampNeg x1)) < (0 : Int32)) then (hb_run hbSH 117 (45, [.ref 54, .int x1, .int x2, .int x3, .int x4, .int x5, .null, .null, .null], [], (hb_up σ13 54 1 0))) else (hb_g [hb_in x3 8] (if ((0 : Int32) ≤ (σ13 55 (Int32.toNatClampNeg x3))) then (hb_g [hb_in x1 8, hb_in x3 8] (if ((σ13 55 (Int32.toNatClampNeg x1)) = (σ13 55 (Int32.toNatClampNeg x3))) then (if (x2 < (0 : Int32)) then (hb_run hbSH 117 (121, [.ref 54, .int x1, .int x2, .int x3, .int x4, .int x5, .null, .null, .null], [], (hb_up σ13 54 1 0))) else (if (x4 < (0 : Int32)) then (hb_run hbSH 117 (121, [.ref 54, .int x1, .int x2, .int x3, .int x4, .int x5, .null, .null, .null], [], (hb_up σ13 54 1 0))) else (if (x5 < (0 : Int32)) then (hb_run hbSH 117 (121, [.ref 54, .int x1, .int x2, .int x3, .int x4, .int x5, .null, .null, .null], [], (hb_up σ13 54 1 0))) else (hb_g [hb_in x1 8] (if ((0 : Int32) < (lg_cmp ((Int32.toInt64 x2) + (Int32.toInt64 x5)) (Int32.toInt64 (σ13 56 (Int32.toNatClampNeg x1))))) then (hb_run hbSH 117 (121, [.ref 54, .int x1, .int x2, .int x3, .int x4, .int x5, .null, .null, .null], [], (hb_up σ13 54 1 0))) else (hb_g [hb_in x3 8] (if ((lg_cmp ((Int32.toInt64 x4) + (Int32.toInt64 x5)) (Int32.toInt64 (σ13 56 (Int32.toNatClampNeg x3)))) ≤ (0 : Int32)) then (if (x2 < x4) then (hb_run hbSH 117 (143, [.ref 54, .int x1, .int x2, .int x3, .int x4, .int x5, .int 0, .int 0, .null], [], (hb_up σ13 54 1 0))) else (hb_run hbSH 117 (143, [.ref 54, .int x1, .int x2, .int x3, .int x4, .int x5, .int 1, .int 0, .null], [], (hb_up σ13 54 1 0)))) else (hb_run hbSH 117 (121, [.ref 54, .int x1, .int x2, .int x3, .int x4, .int x5, .null, .null, .null], [], (hb_up σ13 54 1 0)))))))))) else (hb_ci (hb_ev hbSH 113 [.ref 54, .int 5] (hb_up σ13 54 1 0)) (fun y68 σ68 => some (some (.int y68), σ68))))) else (hb_run hbSH 117 (45, [.ref 54, .int x1, .int x2, .int x3, .int x4, .int x5, .null, .null, .null], [], (hb_up σ13 54 1 0))))))) else (some (some (.int (-1000001)), σ13))))) := by
  refine (hb_blk [(.aload_n 0, 1, 0, 0, 0, 0, 0), (.iconst 0, 1, 0, 0, 0, 0, 0), (.putfield 87, 3, 12, 0, 0, 0, 0), (.iload_n 1, 1, 1, 0, 0, 0, 0)] (pe := 6) (gs := []) (loc' := [.ref 54, .int x1, .int x2, .int x3, .int x4, .int x5, .null, .null, .null]) (stk' := [.int x1]) (σ' := (hb_up σ 54 0 0)) (by decide +kernel) rfl).trans ?_
  refine hb_Si (hb_fe_ok (r := (.invokestatic 101, 3, 114, 1, 0, 0, 0)) (by decide +kernel)) (by decide) (by decide +kernel) (as := [.int x1]) (rest := []) rfl (Nat.le_of_ble_eq_true rfl) (fun y6 σ6 => ?_)
  refine hb_br0 (hb_fe_ok (r := (.ifCond .eq 10, 3, 19, 0, 0, 0, 0)) (by decide +kernel)) rfl ?_ ?_
  · refine (hb_blk [(.ldc 107, 2, 0, 0, 0, (-1000001), 0)] (pe := 21) (gs := []) (loc' := [.ref 54, .int x1, .int x2, .int x3, .int x4, .int x5, .null, .null, .null]) (stk' := [.int (-1000001)]) (σ' := σ6) (by decide +kernel) rfl).trans ?_
    exact hb_r_iret (hb_fe_ok (r := (.ireturn, 1, 0, 0, 0, 0, 0)) (by decide +kernel))
  · refine (hb_blk [(.iload_n 3, 1, 3, 0, 0, 0, 0)] (pe := 13) (gs := []) (loc' := [.ref 54, .int x1, .int x2, .int x3, .int x4, .int x5, .null, .null, .null]) (stk' := [.int x3]) (σ' := σ6) (by decide +kernel) rfl).trans ?_
    refine hb_Si (hb_fe_ok (r := (.invokestatic 101, 3, 114, 1, 0, 0, 0)) (by decide +kernel)) (by decide) (by decide +kernel) (as := [.int x3]) (rest := []) rfl (Nat.le_of_ble_eq_true rfl) (fun y13 σ13 => ?_)
    refine hb_br0 (hb_fe_ok (r := (.ifCond .ne 6, 3, 22, 0, 0, 0, 0)) (by decide +kernel)) rfl ?_ ?_
    · refine (hb_blk [(.aload_n 0, 1, 0, 0, 0, 0, 0), (.iconst 0, 1, 0, 0, 0, 0, 0), (.putfield 91, 3, 12, 1, 0, 0, 0), (.aload_n 0, 1, 0, 0, 0, 0, 0), (.getfield 7, 3, 12, 2, 0, 0, 0), (.iload_n 1, 1, 1, 0, 0, 0, 0), (.iaload, 1, 0, 0, 0, 0, 0)] (pe := 33) (gs := [hb_in x1 8]) (loc' := [.ref 54, .int x1, .int x2, .int x3, .int x4, .int x5, .null, .null, .null]) (stk' := [.int (σ13 55 (Int32.toNatClampNeg x1))]) (σ' := (hb_up σ13 54 1 0)) (by decide +kernel) rfl).trans ?_
      refine congrArg (hb_g _) ?_
      refine hb_br0 (hb_fe_ok (r := (.ifCond .lt 12, 3, 45, 0, 0, 0, 0)) (by decide +kernel)) rfl ?_ ?_
      · exact rfl
      · refine (hb_blk [(.aload_n 0, 1, 0, 0, 0, 0, 0), (.getfield 7, 3, 12, 2, 0, 0, 0), (.iload_n 3, 1, 3, 0, 0, 0, 0), (.iaload, 1, 0, 0, 0, 0, 0)] (pe := 42) (gs := [hb_in x3 8]) (loc' := [.ref 54, .int x1, .int x2, .int x3, .int x4, .int x5, .null, .null, .null]) (stk' := [.int (σ13 55 (Int32.toNatClampNeg x3))]) (σ' := (hb_up σ13 54 1 0)) (by decide +kernel) rfl).trans ?_
        refine congrArg (hb_g _) ?_
        refine hb_br0 (hb_fe_ok (r := (.ifCond .ge 9, 3, 51, 0, 0, 0, 0)) (by decide +kernel)) rfl ?_ ?_
        · refine (hb_blk [(.aload_n 0, 1, 0, 0, 0, 0, 0), (.getfield 7, 3, 12, 2, 0, 0, 0), (.iload_n 1, 1, 1, 0, 0, 0, 0), (.iaload, 1, 0, 0, 0, 0, 0), (.aload_n 0, 1, 0, 0, 0, 0, 0), (.getfield 7, 3, 12, 2, 0, 0, 0), (.iload_n 3, 1, 3, 0, 0, 0, 0), (.iaload, 1, 0, 0, 0, 0, 0)] (pe := 63) (gs := [hb_in x1 8, hb_in x3 8]) (loc' := [.ref 54, .int x1, .int x2, .int x3, .int x4, .int x5, .null, .null, .null]) (stk' := [.int (σ13 55 (Int32.toNatClampNeg x3)), .int (σ13 55 (Int32.toNatClampNeg x1))]) (σ' := (hb_up σ13 54 1 0)) (by decide +kernel) rfl).trans ?_
          refine congrArg (hb_g _) ?_
          refine hb_br (hb_fe_ok (r := (.if_icmp .eq 9, 3, 72, 0, 0, 0, 0)) (by decide +kernel)) rfl ?_ ?_
          · refine (hb_blk [(.iload_n 2, 1, 2, 0, 0, 0, 0)] (pe := 73) (gs := []) (loc' := [.ref 54, .int x1, .int x2, .int x3, .int x4, .int x5, .null, .null, .null]) (stk' := [.int x2]) (σ' := (hb_up σ13 54 1 0)) (by decide +kernel) rfl).trans ?_
            refine hb_br0 (hb_fe_ok (r := (.ifCond .lt 48, 3, 121, 0, 0, 0, 0)) (by decide +kernel)) rfl ?_ ?_
            · exact rfl
            · refine (hb_blk [(.iload 4, 2, 4, 0, 0, 0, 0)] (pe := 78) (gs := []) (loc' := [.ref 54, .int x1, .int x2, .int x3, .int x4, .int x5, .null, .null, .null]) (stk' := [.int x4]) (σ' := (hb_up σ13 54 1 0)) (by decide +kernel) rfl).trans ?_
              refine hb_br0 (hb_fe_ok (r := (.ifCond .lt 43, 3, 121, 0, 0, 0, 0)) (by decide +kernel)) rfl ?_ ?_
              · exact rfl
              · refine (hb_blk [(.iload 5, 2, 5, 0, 0, 0, 0)] (pe := 83) (gs := []) (loc' := [.ref 54, .int x1, .int x2, .int x3, .int x4, .int x5, .null, .null, .null]) (stk' := [.int x5]) (σ' := (hb_up σ13 54 1 0)) (by decide +kernel) rfl).trans ?_
                refine hb_br0 (hb_fe_ok (r := (.ifCond .lt 38, 3, 121, 0, 0, 0, 0)) (by decide +kernel)) rfl ?_ ?_
                · exact rfl
                · refine (hb_blk [(.iload_n 2, 1, 2, 0, 0, 0, 0), (.i2l, 1, 0, 0, 0, 0, 0), (.iload 5, 2, 5, 0, 0, 0, 0), (.i2l, 1, 0, 0, 0, 0, 0), (.ladd, 1, 0, 0, 0, 0, 0), (.aload_n 0, 1, 0, 0, 0, 0, 0), (.getfield 13, 3, 12, 3, 0, 0, 0), (.iload_n 1, 1, 1, 0, 0, 0, 0), (.iaload, 1, 0, 0, 0, 0, 0), (.i2l, 1, 0, 0, 0, 0, 0), (.lcmp, 1, 0, 0, 0, 0, 0)] (pe := 100) (gs := [hb_in x1 8]) (loc' := [.ref 54, .int x1, .int x2, .int x3, .int x4, .int x5, .null, .null, .null]) (stk' := [.int (lg_cmp ((Int32.toInt64 x2) + (Int32.toInt64 x5)) (Int32.toInt64 (σ13 56 (Int32.toNatClampNeg x1))))]) (σ' := (hb_up σ13 54 1 0)) (by decide +kernel) rfl).trans ?_
                  refine congrArg (hb_g _) ?_
                  refine hb_br0 (hb_fe_ok (r := (.ifCond .gt 21, 3, 121, 0, 0, 0, 0)) (by decide +kernel)) rfl ?_ ?_
                  · exact rfl
                  · refine (hb_blk [(.iload 4, 2, 4, 0, 0, 0, 0), (.i2l, 1, 0, 0, 0, 0, 0), (.iload 5, 2, 5, 0, 0, 0, 0), (.i2l, 1, 0, 0, 0, 0, 0), (.ladd, 1, 0, 0, 0, 0, 0), (.aload_n 0, 1, 0, 0, 0, 0, 0), (.getfield 13, 3, 12, 3, 0, 0, 0), (.iload_n 3, 1, 3, 0, 0, 0, 0), (.iaload, 1, 0, 0, 0, 0, 0), (.i2l, 1, 0, 0, 0, 0, 0), (.lcmp, 1, 0, 0, 0, 0, 0)] (pe := 118) (gs := [hb_in x3 8]) (loc' := [.ref 54, .int x1, .int x2, .int x3, .int x4, .int x5, .null, .null, .null]) (stk' := [.int (lg_cmp ((Int32.toInt64 x4) + (Int32.toInt64 x5)) (Int32.toInt64 (σ13 56 (Int32.toNatClampNeg x3))))]) (σ' := (hb_up σ13 54 1 0)) (by decide +kernel) rfl).trans ?_
                    refine congrArg (hb_g _) ?_
                    refine hb_br0 (hb_fe_ok (r := (.ifCond .le 9, 3, 127, 0, 0, 0, 0)) (by decide +kernel)) rfl ?_ ?_
                    · refine (hb_blk [(.iload_n 2, 1, 2, 0, 0, 0, 0), (.iload 4, 2, 4, 0, 0, 0, 0)] (pe := 130) (gs := []) (loc' := [.ref 54, .int x1, .int x2, .int x3, .int x4, .int x5, .null, .null, .null]) (stk' := [.int x4, .int x2]) (σ' := (hb_up σ13 54 1 0)) (by decide +kernel) rfl).trans ?_
                      refine hb_br (hb_fe_ok (r := (.if_icmp .lt 7, 3, 137, 0, 0, 0, 0)) (by decide +kernel)) rfl ?_ ?_
                      · refine (hb_blk [(.iconst 0, 1, 0, 0, 0, 0, 0)] (pe := 138) (gs := []) (loc' := [.ref 54, .int x1, .int x2, .int x3, .int x4, .int x5, .null, .null, .null]) (stk' := [.int 0]) (σ' := (hb_up σ13 54 1 0)) (by decide +kernel) rfl).trans ?_
                        refine (hb_blk [(.istore 6, 2, 6, 0, 0, 0, 0), (.iconst 0, 1, 0, 0, 0, 0, 0), (.istore 7, 2, 7, 0, 0, 0, 0)] (pe := 143) (gs := []) (loc' := [.ref 54, .int x1, .int x2, .int x3, .int x4, .int x5, .int 0, .int 0, .null]) (stk' := []) (σ' := (hb_up σ13 54 1 0)) (by decide +kernel) rfl).trans ?_
                        exact rfl
                      · refine (hb_blk [(.iconst 1, 1, 0, 0, 0, 1, 0)] (pe := 134) (gs := []) (loc' := [.ref 54, .int x1, .int x2, .int x3, .int x4, .int x5, .null, .null, .null]) (stk' := [.int 1]) (σ' := (hb_up σ13 54 1 0)) (by decide +kernel) rfl).trans ?_
                        refine (hb_r_goto (hb_fe_ok (r := (.goto 4, 3, 138, 0, 0, 0, 0)) (by decide +kernel))).trans ?_
                        refine (hb_blk [(.istore 6, 2, 6, 0, 0, 0, 0), (.iconst 0, 1, 0, 0, 0, 0, 0), (.istore 7, 2, 7, 0, 0, 0, 0)] (pe := 143) (gs := []) (loc' := [.ref 54, .int x1, .int x2, .int x3, .int x4, .int x5, .int 1, .int 0, .null]) (stk' := []) (σ' := (hb_up σ13 54 1 0)) (by decide +kernel) rfl).trans ?_
                        exact rfl
                    · exact rfl
          · refine (hb_blk [(.aload_n 0, 1, 0, 0, 0, 0, 0), (.iconst 5, 1, 0, 0, 0, 5, 0)] (pe := 68) (gs := []) (loc' := [.ref 54, .int x1, .int x2, .int x3, .int x4, .int x5, .null, .null, .null]) (stk' := [.int 5, .ref 54]) (σ' := (hb_up σ13 54 1 0)) (by decide +kernel) rfl).trans ?_
            refine hb_Vi (hb_fe_ok (r := (.invokevirtual 108, 3, 113, 1, 0, 0, 0)) (by decide +kernel)) (by decide +kernel) (as := [.int 5]) (v := .ref 54) (rest := []) rfl rfl (Nat.le_of_ble_eq_true rfl) (fun y68 σ68 => ?_)
            exact hb_r_iret (hb_fe_ok (r := (.ireturn, 1, 0, 0, 0, 0, 0)) (by decide +kernel))
        · exact rfl
    · refine (hb_blk [(.ldc 107, 2, 0, 0, 0, (-1000001), 0)] (pe := 21) (gs := []) (loc' := [.ref 54, .int x1, .int x2, .int x3, .int x4, .int x5, .null, .null, .null]) (stk' := [.int (-1000001)]) (σ' := σ13) (by decide +kernel) rfl).trans ?_
      exact hb_r_iret (hb_fe_ok (r := (.ireturn, 1, 0, 0, 0, 0, 0)) (by decide +kernel))
set_option maxRecDepth 8000 in
theorem e117_45  (σ : hbM) (x1 : Int32) (x2 : Int32) (x3 : Int32) (x4 : Int32) (x5 : Int32) : hb_run hbSH 117 (45, [.ref 54, .int x1, .int x2, .int x3, .int x4, .int x5, .null, .null, .null], [], σ) = hb_ci (hb_ev hbSH 113 [.ref 54, .int 1] σ) (fun y47 σ47 => some (some (.int y47), σ47)) := by
  refine (hb_blk [(.aload_n 0, 1, 0, 0, 0, 0, 0), (.iconst 1, 1, 0, 0, 0, 1, 0)] (pe := 47) (gs := []) (loc' := [.ref 54, .int x1, .int x2, .int x3, .int x4, .int x5, .null, .null, .null]) (stk' := [.int 1, .ref 54]) (σ' := σ) (by decide +kernel) rfl).trans ?_
  refine hb_Vi (hb_fe_ok (r := (.invokevirtual 108, 3, 113, 1, 0, 0, 0)) (by decide +kernel)) (by decide +kernel) (as := [.int 1]) (v := .ref 54) (rest := []) rfl rfl (Nat.le_of_ble_eq_true rfl) (fun y47 σ47 => ?_)
  exact hb_r_iret (hb_fe_ok (r := (.ireturn, 1, 0, 0, 0, 0, 0)) (by decide +kernel))
set_option maxRecDepth 8000 in
theorem e117_121  (σ : hbM) (x1 : Int32) (x2 : Int32) (x3 : Int32) (x4 : Int32) (x5 : Int32) : hb_run hbSH 117 (121, [.ref 54, .int x1, .int x2, .int x3, .int x4, .int x5, .null, .null, .null], [], σ) = hb_ci (hb_ev hbSH 113 [.ref 54, .int 2] σ) (fun y123 σ123 => some (some (.int y123), σ123)) := by
  refine (hb_blk [(.aload_n 0, 1, 0, 0, 0, 0, 0), (.iconst 2, 1, 0, 0, 0, 2, 0)] (pe := 123) (gs := []) (loc' := [.ref 54, .int x1, .int x2, .int x3, .int x4, .int x5, .null, .null, .null]) (stk' := [.int 2, .ref 54]) (σ' := σ) (by decide +kernel) rfl).trans ?_
  refine hb_Vi (hb_fe_ok (r := (.invokevirtual 108, 3, 113, 1, 0, 0, 0)) (by decide +kernel)) (by decide +kernel) (as := [.int 2]) (v := .ref 54) (rest := []) rfl rfl (Nat.le_of_ble_eq_true rfl) (fun y123 σ123 => ?_)
  exact hb_r_iret (hb_fe_ok (r := (.ireturn, 1, 0, 0, 0, 0, 0)) (by decide +kernel))
set_option maxRecDepth 8000 in
theorem e117_143  (σ : hbM) (x1 : Int32) (x2 : Int32) (x3 : Int32) (x4 : Int32) (x5 : Int32) (x6 : Int32) (x7 : Int32) (v8 : Value) : hb_run hbSH 117 (143, [.ref 54, .int x1, .int x2, .int x3, .int x4, .int x5, .int x6, .int x7, v8], [], σ) = if (x5 ≤ x7) then (some (some (.int x5), σ)) else (if (x6 = (0 : Int32)) then (hb_run hbSH 117 (167, [.ref 54, .int x1, .int x2, .int x3, .int x4, .int x5, .int x6, .int x7, v8], [.int ((x5 - (1 : Int32)) - x7)], σ)) else (hb_run hbSH 117 (167, [.ref 54, .int x1, .int x2, .int x3, .int x4, .int x5, .int x6, .int x7, v8], [.int x7], σ))) := by
  refine (hb_blk [(.iload 7, 2, 7, 0, 0, 0, 0), (.iload 5, 2, 5, 0, 0, 0, 0)] (pe := 147) (gs := []) (loc' := [.ref 54, .int x1, .int x2, .int x3, .int x4, .int x5, .int x6, .int x7, v8]) (stk' := [.int x5, .int x7]) (σ' := σ) (by decide +kernel) rfl).trans ?_
  refine hb_br (hb_fe_ok (r := (.if_icmp .ge 57, 3, 204, 0, 0, 0, 0)) (by decide +kernel)) rfl ?_ ?_
  · refine (hb_blk [(.iload 5, 2, 5, 0, 0, 0, 0)] (pe := 206) (gs := []) (loc' := [.ref 54, .int x1, .int x2, .int x3, .int x4, .int x5, .int x6, .int x7, v8]) (stk' := [.int x5]) (σ' := σ) (by decide +kernel) rfl).trans ?_
    exact hb_r_iret (hb_fe_ok (r := (.ireturn, 1, 0, 0, 0, 0, 0)) (by decide +kernel))
  · refine (hb_blk [(.iload 6, 2, 6, 0, 0, 0, 0)] (pe := 152) (gs := []) (loc' := [.ref 54, .int x1, .int x2, .int x3, .int x4, .int x5, .int x6, .int x7, v8]) (stk' := [.int x6]) (σ' := σ) (by decide +kernel) rfl).trans ?_
    refine hb_br0 (hb_fe_ok (r := (.ifCond .eq 8, 3, 160, 0, 0, 0, 0)) (by decide +kernel)) rfl ?_ ?_
    · refine (hb_blk [(.iload 5, 2, 5, 0, 0, 0, 0), (.iconst 1, 1, 0, 0, 0, 1, 0), (.isub, 1, 0, 0, 0, 0, 0), (.iload 7, 2, 7, 0, 0, 0, 0), (.isub, 1, 0, 0, 0, 0, 0)] (pe := 167) (gs := []) (loc' := [.ref 54, .int x1, .int x2, .int x3, .int x4, .int x5, .int x6, .int x7, v8]) (stk' := [.int ((x5 - (1 : Int32)) - x7)]) (σ' := σ) (by decide +kernel) rfl).trans ?_
      exact rfl
    · refine (hb_blk [(.iload 7, 2, 7, 0, 0, 0, 0)] (pe := 157) (gs := []) (loc' := [.ref 54, .int x1, .int x2, .int x3, .int x4, .int x5, .int x6, .int x7, v8]) (stk' := [.int x7]) (σ' := σ) (by decide +kernel) rfl).trans ?_
      refine (hb_r_goto (hb_fe_ok (r := (.goto 10, 3, 167, 0, 0, 0, 0)) (by decide +kernel))).trans ?_
      exact rfl
set_option maxRecDepth 8000 in
theorem e117_167  (σ : hbM) (x1 : Int32) (x2 : Int32) (x3 : Int32) (x4 : Int32) (x5 : Int32) (x6 : Int32) (x7 : Int32) (v8 : Value) (s0 : Int32) : hb_run hbSH 117 (167, [.ref 54, .int x1, .int x2, .int x3, .int x4, .int x5, .int x6, .int x7, v8], [.int s0], σ) = hb_g [hb_in ((((40 : Int32) * x1) + x2) + s0) 320, hb_in ((((40 : Int32) * x3) + x4) + s0) 320] (hb_run hbSH 117 (143, [.ref 54, .int x1, .int x2, .int x3, .int x4, .int x5, .int x6, .int (x7 + (1 : Int32)), .int s0], [], (hb_up σ 57 (Int32.toNatClampNeg ((((40 : Int32) * x3) + x4) + s0)) (σ 57 (Int32.toNatClampNeg ((((40 : Int32) * x1) + x2) + s0)))))) := by
  refine (hb_blk [(.istore 8, 2, 8, 0, 0, 0, 0), (.aload_n 0, 1, 0, 0, 0, 0, 0), (.getfield 16, 3, 12, 4, 0, 0, 0), (.bipush 40, 2, 0, 0, 0, 40, 0), (.iload_n 3, 1, 3, 0, 0, 0, 0), (.imul, 1, 0, 0, 0, 0, 0), (.iload 4, 2, 4, 0, 0, 0, 0), (.iadd, 1, 0, 0, 0, 0, 0), (.iload 8, 2, 8, 0, 0, 0, 0), (.iadd, 1, 0, 0, 0, 0, 0), (.aload_n 0, 1, 0, 0, 0, 0, 0), (.getfield 16, 3, 12, 4, 0, 0, 0), (.bipush 40, 2, 0, 0, 0, 40, 0), (.iload_n 1, 1, 1, 0, 0, 0, 0), (.imul, 1, 0, 0, 0, 0, 0), (.iload_n 2, 1, 2, 0, 0, 0, 0), (.iadd, 1, 0, 0, 0, 0, 0), (.iload 8, 2, 8, 0, 0, 0, 0), (.iadd, 1, 0, 0, 0, 0, 0), (.iaload, 1, 0, 0, 0, 0, 0), (.iastore, 1, 0, 0, 0, 0, 0), (.iinc 7 1, 3, 7, 0, 0, 1, 0)] (pe := 201) (gs := [hb_in ((((40 : Int32) * x1) + x2) + s0) 320, hb_in ((((40 : Int32) * x3) + x4) + s0) 320]) (loc' := [.ref 54, .int x1, .int x2, .int x3, .int x4, .int x5, .int x6, .int (x7 + (1 : Int32)), .int s0]) (stk' := []) (σ' := (hb_up σ 57 (Int32.toNatClampNeg ((((40 : Int32) * x3) + x4) + s0)) (σ 57 (Int32.toNatClampNeg ((((40 : Int32) * x1) + x2) + s0))))) (by decide +kernel) rfl).trans ?_
  refine congrArg (hb_g _) ?_
  refine (hb_r_goto (hb_fe_ok (r := (.goto (-58), 3, 143, 0, 0, 0, 0)) (by decide +kernel))).trans ?_
  exact rfl
set_option maxRecDepth 8000 in
theorem e118_0  (σ : hbM) (x1 : Int32) : hb_run hbSH 118 (0, [.ref 54, .int x1], [], σ) = hb_ci (hb_ev hbSH 114 [.int x1] (hb_up σ 54 0 0)) (fun y6 σ6 => if (¬ y6 = (0 : Int32)) then (hb_g [hb_in x1 8] (if ((0 : Int32) ≤ (σ6 55 (Int32.toNatClampNeg x1))) then (hb_g [hb_in x1 8, hb_in x1 8] (some (some (.int (σ6 56 (Int32.toNatClampNeg x1))), (hb_up (hb_up σ6 54 1 0) 55 (Int32.toNatClampNeg x1) (-1))))) else (hb_ci (hb_ev hbSH 113 [.ref 54, .int 1] (hb_up σ6 54 1 0)) (fun y31 σ31 => some (some (.int y31), σ31))))) else (some (some (.int (-1000001)), σ6))) := by
  refine (hb_blk [(.aload_n 0, 1, 0, 0, 0, 0, 0), (.iconst 0, 1, 0, 0, 0, 0, 0), (.putfield 87, 3, 12, 0, 0, 0, 0), (.iload_n 1, 1, 1, 0, 0, 0, 0)] (pe := 6) (gs := []) (loc' := [.ref 54, .int x1]) (stk' := [.int x1]) (σ' := (hb_up σ 54 0 0)) (by decide +kernel) rfl).trans ?_
  refine hb_Si (hb_fe_ok (r := (.invokestatic 101, 3, 114, 1, 0, 0, 0)) (by decide +kernel)) (by decide) (by decide +kernel) (as := [.int x1]) (rest := []) rfl (Nat.le_of_ble_eq_true rfl) (fun y6 σ6 => ?_)
  refine hb_br0 (hb_fe_ok (r := (.ifCond .ne 6, 3, 15, 0, 0, 0, 0)) (by decide +kernel)) rfl ?_ ?_
  · refine (hb_blk [(.aload_n 0, 1, 0, 0, 0, 0, 0), (.iconst 0, 1, 0, 0, 0, 0, 0), (.putfield 91, 3, 12, 1, 0, 0, 0), (.aload_n 0, 1, 0, 0, 0, 0, 0), (.getfield 7, 3, 12, 2, 0, 0, 0), (.iload_n 1, 1, 1, 0, 0, 0, 0), (.iaload, 1, 0, 0, 0, 0, 0)] (pe := 26) (gs := [hb_in x1 8]) (loc' := [.ref 54, .int x1]) (stk' := [.int (σ6 55 (Int32.toNatClampNeg x1))]) (σ' := (hb_up σ6 54 1 0)) (by decide +kernel) rfl).trans ?_
    refine congrArg (hb_g _) ?_
    refine hb_br0 (hb_fe_ok (r := (.ifCond .ge 9, 3, 35, 0, 0, 0, 0)) (by decide +kernel)) rfl ?_ ?_
    · refine (hb_blk [(.aload_n 0, 1, 0, 0, 0, 0, 0), (.getfield 7, 3, 12, 2, 0, 0, 0), (.iload_n 1, 1, 1, 0, 0, 0, 0), (.iconst (-1), 1, 0, 0, 0, (-1), 0), (.iastore, 1, 0, 0, 0, 0, 0), (.aload_n 0, 1, 0, 0, 0, 0, 0), (.getfield 13, 3, 12, 3, 0, 0, 0), (.iload_n 1, 1, 1, 0, 0, 0, 0), (.iaload, 1, 0, 0, 0, 0, 0)] (pe := 48) (gs := [hb_in x1 8, hb_in x1 8]) (loc' := [.ref 54, .int x1]) (stk' := [.int (σ6 56 (Int32.toNatClampNeg x1))]) (σ' := (hb_up (hb_up σ6 54 1 0) 55 (Int32.toNatClampNeg x1) (-1))) (by decide +kernel) rfl).trans ?_
      refine congrArg (hb_g _) ?_
      exact hb_r_iret (hb_fe_ok (r := (.ireturn, 1, 0, 0, 0, 0, 0)) (by decide +kernel))
    · refine (hb_blk [(.aload_n 0, 1, 0, 0, 0, 0, 0), (.iconst 1, 1, 0, 0, 0, 1, 0)] (pe := 31) (gs := []) (loc' := [.ref 54, .int x1]) (stk' := [.int 1, .ref 54]) (σ' := (hb_up σ6 54 1 0)) (by decide +kernel) rfl).trans ?_
      refine hb_Vi (hb_fe_ok (r := (.invokevirtual 108, 3, 113, 1, 0, 0, 0)) (by decide +kernel)) (by decide +kernel) (as := [.int 1]) (v := .ref 54) (rest := []) rfl rfl (Nat.le_of_ble_eq_true rfl) (fun y31 σ31 => ?_)
      exact hb_r_iret (hb_fe_ok (r := (.ireturn, 1, 0, 0, 0, 0, 0)) (by decide +kernel))
  · refine (hb_blk [(.ldc 107, 2, 0, 0, 0, (-1000001), 0)] (pe := 14) (gs := []) (loc' := [.ref 54, .int x1]) (stk' := [.int (-1000001)]) (σ' := σ6) (by decide +kernel) rfl).trans ?_
    exact hb_r_iret (hb_fe_ok (r := (.ireturn, 1, 0, 0, 0, 0, 0)) (by decide +kernel))
set_option maxRecDepth 8000 in
theorem e119_0  (σ : hbM) (x1 : Int64) (x3 : Int32) : hb_run hbSH 119 (0, [.ref 54, .long x1, .null, .int x3, .null], [], σ) = hb_ci (hb_ev hbSH 112 [.long (Int32.toInt64 x3), .long 1, .long 8] (hb_up σ 54 0 0)) (fun y11 σ11 => if (¬ y11 = (0 : Int32)) then (if (((σ11 54 23) + x3) ≤ (400 : Int32)) then (hb_run hbSH 119 (40, [.ref 54, .long x1, .null, .int x3, .int (x3 - (1 : Int32))], [], σ11)) else (some (some (.int (-1000003)), σ11))) else (some (some (.int (-1000001)), σ11))) := by
  refine (hb_blk [(.aload_n 0, 1, 0, 0, 0, 0, 0), (.iconst 0, 1, 0, 0, 0, 0, 0), (.putfield 87, 3, 12, 0, 0, 0, 0), (.iload_n 3, 1, 3, 0, 0, 0, 0), (.i2l, 1, 0, 0, 0, 0, 0), (.lconst 1, 1, 0, 0, 0, 0, 1), (.ldc2_w 112, 3, 0, 0, 0, 0, 8)] (pe := 11) (gs := []) (loc' := [.ref 54, .long x1, .null, .int x3, .null]) (stk' := [.long 8, .long 1, .long (Int32.toInt64 x3)]) (σ' := (hb_up σ 54 0 0)) (by decide +kernel) rfl).trans ?_
  refine hb_Si (hb_fe_ok (r := (.invokestatic 97, 3, 112, 3, 0, 0, 0)) (by decide +kernel)) (by decide) (by decide +kernel) (as := [.long (Int32.toInt64 x3), .long 1, .long 8]) (rest := []) rfl (Nat.le_of_ble_eq_true rfl) (fun y11 σ11 => ?_)
  refine hb_br0 (hb_fe_ok (r := (.ifCond .ne 6, 3, 20, 0, 0, 0, 0)) (by decide +kernel)) rfl ?_ ?_
  · refine (hb_blk [(.aload_n 0, 1, 0, 0, 0, 0, 0), (.getfield 114, 3, 12, 23, 0, 0, 0), (.iload_n 3, 1, 3, 0, 0, 0, 0), (.iadd, 1, 0, 0, 0, 0, 0), (.sipush 400, 3, 0, 0, 0, 400, 0)] (pe := 29) (gs := []) (loc' := [.ref 54, .long x1, .null, .int x3, .null]) (stk' := [.int 400, .int ((σ11 54 23) + x3)]) (σ' := σ11) (by decide +kernel) rfl).trans ?_
    refine hb_br (hb_fe_ok (r := (.if_icmp .le 6, 3, 35, 0, 0, 0, 0)) (by decide +kernel)) rfl ?_ ?_
    · refine (hb_blk [(.iload_n 3, 1, 3, 0, 0, 0, 0), (.iconst 1, 1, 0, 0, 0, 1, 0), (.isub, 1, 0, 0, 0, 0, 0), (.istore 4, 2, 4, 0, 0, 0, 0)] (pe := 40) (gs := []) (loc' := [.ref 54, .long x1, .null, .int x3, .int (x3 - (1 : Int32))]) (stk' := []) (σ' := σ11) (by decide +kernel) rfl).trans ?_
      exact rfl
    · refine (hb_blk [(.ldc 117, 2, 0, 0, 0, (-1000003), 0)] (pe := 34) (gs := []) (loc' := [.ref 54, .long x1, .null, .int x3, .null]) (stk' := [.int (-1000003)]) (σ' := σ11) (by decide +kernel) rfl).trans ?_
      exact hb_r_iret (hb_fe_ok (r := (.ireturn, 1, 0, 0, 0, 0, 0)) (by decide +kernel))
  · refine (hb_blk [(.ldc 107, 2, 0, 0, 0, (-1000001), 0)] (pe := 19) (gs := []) (loc' := [.ref 54, .long x1, .null, .int x3, .null]) (stk' := [.int (-1000001)]) (σ' := σ11) (by decide +kernel) rfl).trans ?_
    exact hb_r_iret (hb_fe_ok (r := (.ireturn, 1, 0, 0, 0, 0, 0)) (by decide +kernel))
set_option maxRecDepth 8000 in
theorem e119_40  (σ : hbM) (x1 : Int64) (x3 : Int32) (x4 : Int32) : hb_run hbSH 119 (40, [.ref 54, .long x1, .null, .int x3, .int x4], [], σ) = if (x4 < (0 : Int32)) then (some (some (.int (σ 54 23)), σ)) else (hb_g [hb_in (σ 54 23) 400] (hb_run hbSH 119 (40, [.ref 54, .long x1, .null, .int x3, .int (x4 + (-1 : Int32))], [], (hb_up (hb_up σ 67 (Int32.toNatClampNeg (σ 54 23)) (Int64.toInt32 ((x1 >>> (Int32.toInt64 ((8 : Int32) * x4) &&& 63)) &&& (255 : Int64)))) 54 23 ((σ 54 23) + (1 : Int32)))))) := by
  refine (hb_blk [(.iload 4, 2, 4, 0, 0, 0, 0)] (pe := 42) (gs := []) (loc' := [.ref 54, .long x1, .null, .int x3, .int x4]) (stk' := [.int x4]) (σ' := σ) (by decide +kernel) rfl).trans ?_
  refine hb_br0 (hb_fe_ok (r := (.ifCond .lt 40, 3, 82, 0, 0, 0, 0)) (by decide +kernel)) rfl ?_ ?_
  · refine (hb_blk [(.aload_n 0, 1, 0, 0, 0, 0, 0), (.getfield 114, 3, 12, 23, 0, 0, 0)] (pe := 86) (gs := []) (loc' := [.ref 54, .long x1, .null, .int x3, .int x4]) (stk' := [.int (σ 54 23)]) (σ' := σ) (by decide +kernel) rfl).trans ?_
    exact hb_r_iret (hb_fe_ok (r := (.ireturn, 1, 0, 0, 0, 0, 0)) (by decide +kernel))
  · refine (hb_blk [(.aload_n 0, 1, 0, 0, 0, 0, 0), (.getfield 46, 3, 12, 22, 0, 0, 0), (.aload_n 0, 1, 0, 0, 0, 0, 0), (.getfield 114, 3, 12, 23, 0, 0, 0), (.lload_n 1, 1, 1, 0, 0, 0, 0), (.bipush 8, 2, 0, 0, 0, 8, 0), (.iload 4, 2, 4, 0, 0, 0, 0), (.imul, 1, 0, 0, 0, 0, 0), (.lshr, 1, 0, 0, 0, 0, 0), (.ldc2_w 118, 3, 0, 0, 0, 0, 255), (.land, 1, 0, 0, 0, 0, 0), (.l2i, 1, 0, 0, 0, 0, 0), (.iastore, 1, 0, 0, 0, 0, 0), (.aload_n 0, 1, 0, 0, 0, 0, 0), (.dup, 1, 0, 0, 0, 0, 0), (.getfield 114, 3, 12, 23, 0, 0, 0), (.iconst 1, 1, 0, 0, 0, 1, 0), (.iadd, 1, 0, 0, 0, 0, 0), (.putfield 114, 3, 12, 23, 0, 0, 0), (.iinc 4 (-1), 3, 4, 0, 0, (-1), 0)] (pe := 79) (gs := [hb_in (σ 54 23) 400]) (loc' := [.ref 54, .long x1, .null, .int x3, .int (x4 + (-1 : Int32))]) (stk' := []) (σ' := (hb_up (hb_up σ 67 (Int32.toNatClampNeg (σ 54 23)) (Int64.toInt32 ((x1 >>> (Int32.toInt64 ((8 : Int32) * x4) &&& 63)) &&& (255 : Int64)))) 54 23 ((σ 54 23) + (1 : Int32)))) (by decide +kernel) rfl).trans ?_
    refine congrArg (hb_g _) ?_
    refine (hb_r_goto (hb_fe_ok (r := (.goto (-39), 3, 40, 0, 0, 0, 0)) (by decide +kernel))).trans ?_
    exact rfl
set_option maxRecDepth 8000 in
theorem e120_0  (σ : hbM) (x1 : Int32) : hb_run hbSH 120 (0, [.ref 54, .int x1], [], σ) = if ((σ 54 25) ≤ x1) then (some (some (.int (-1000000)), σ)) else (hb_g [hb_in x1 400] (some (some (.int (σ 67 (Int32.toNatClampNeg x1))), σ))) := by
  refine (hb_blk [(.iload_n 1, 1, 1, 0, 0, 0, 0), (.aload_n 0, 1, 0, 0, 0, 0, 0), (.getfield 120, 3, 12, 25, 0, 0, 0)] (pe := 5) (gs := []) (loc' := [.ref 54, .int x1]) (stk' := [.int (σ 54 25), .int x1]) (σ' := σ) (by decide +kernel) rfl).trans ?_
  refine hb_br (hb_fe_ok (r := (.if_icmp .ge 12, 3, 17, 0, 0, 0, 0)) (by decide +kernel)) rfl ?_ ?_
  · refine (hb_blk [(.ldc 123, 2, 0, 0, 0, (-1000000), 0)] (pe := 19) (gs := []) (loc' := [.ref 54, .int x1]) (stk' := [.int (-1000000)]) (σ' := σ) (by decide +kernel) rfl).trans ?_
    exact hb_r_iret (hb_fe_ok (r := (.ireturn, 1, 0, 0, 0, 0, 0)) (by decide +kernel))
  · refine (hb_blk [(.aload_n 0, 1, 0, 0, 0, 0, 0), (.getfield 46, 3, 12, 22, 0, 0, 0), (.iload_n 1, 1, 1, 0, 0, 0, 0), (.iaload, 1, 0, 0, 0, 0, 0)] (pe := 14) (gs := [hb_in x1 400]) (loc' := [.ref 54, .int x1]) (stk' := [.int (σ 67 (Int32.toNatClampNeg x1))]) (σ' := σ) (by decide +kernel) rfl).trans ?_
    refine congrArg (hb_g _) ?_
    refine (hb_r_goto (hb_fe_ok (r := (.goto 5, 3, 19, 0, 0, 0, 0)) (by decide +kernel))).trans ?_
    exact hb_r_iret (hb_fe_ok (r := (.ireturn, 1, 0, 0, 0, 0, 0)) (by decide +kernel))
set_option maxRecDepth 8000 in
theorem e121_0  (σ : hbM) (x0 : Int32) : hb_run hbSH 121 (0, [.int x0], [], σ) = if (x0 < (97 : Int32)) then (some (some (.int 0), σ)) else (if ((122 : Int32) < x0) then (some (some (.int 0), σ)) else (some (some (.int 1), σ))) := by
  refine (hb_blk [(.iload_n 0, 1, 0, 0, 0, 0, 0), (.bipush 97, 2, 0, 0, 0, 97, 0)] (pe := 3) (gs := []) (loc' := [.int x0]) (stk' := [.int 97, .int x0]) (σ' := σ) (by decide +kernel) rfl).trans ?_
  refine hb_br (hb_fe_ok (r := (.if_icmp .lt 13, 3, 16, 0, 0, 0, 0)) (by decide +kernel)) rfl ?_ ?_
  · refine (hb_blk [(.iconst 0, 1, 0, 0, 0, 0, 0)] (pe := 17) (gs := []) (loc' := [.int x0]) (stk' := [.int 0]) (σ' := σ) (by decide +kernel) rfl).trans ?_
    exact hb_r_zret1 (hb_fe_ok (r := (.ireturn, 1, 0, 0, 1, 0, 0)) (by decide +kernel)) (by decide)
  · refine (hb_blk [(.iload_n 0, 1, 0, 0, 0, 0, 0), (.bipush 122, 2, 0, 0, 0, 122, 0)] (pe := 9) (gs := []) (loc' := [.int x0]) (stk' := [.int 122, .int x0]) (σ' := σ) (by decide +kernel) rfl).trans ?_
    refine hb_br (hb_fe_ok (r := (.if_icmp .gt 7, 3, 16, 0, 0, 0, 0)) (by decide +kernel)) rfl ?_ ?_
    · refine (hb_blk [(.iconst 0, 1, 0, 0, 0, 0, 0)] (pe := 17) (gs := []) (loc' := [.int x0]) (stk' := [.int 0]) (σ' := σ) (by decide +kernel) rfl).trans ?_
      exact hb_r_zret1 (hb_fe_ok (r := (.ireturn, 1, 0, 0, 1, 0, 0)) (by decide +kernel)) (by decide)
    · refine (hb_blk [(.iconst 1, 1, 0, 0, 0, 1, 0)] (pe := 13) (gs := []) (loc' := [.int x0]) (stk' := [.int 1]) (σ' := σ) (by decide +kernel) rfl).trans ?_
      refine (hb_r_goto (hb_fe_ok (r := (.goto 4, 3, 17, 0, 0, 0, 0)) (by decide +kernel))).trans ?_
      exact hb_r_zret1 (hb_fe_ok (r := (.ireturn, 1, 0, 0, 1, 0, 0)) (by decide +kernel)) (by decide)
set_option maxRecDepth 8000 in
theorem e122_0  (σ : hbM) (x0 : Int32) : hb_run hbSH 122 (0, [.int x0], [], σ) = if (x0 < (48 : Int32)) then (some (some (.int 0), σ)) else (if ((57 : Int32) < x0) then (some (some (.int 0), σ)) else (some (some (.int 1), σ))) := by
  refine (hb_blk [(.iload_n 0, 1, 0, 0, 0, 0, 0), (.bipush 48, 2, 0, 0, 0, 48, 0)] (pe := 3) (gs := []) (loc' := [.int x0]) (stk' := [.int 48, .int x0]) (σ' := σ) (by decide +kernel) rfl).trans ?_
  refine hb_br (hb_fe_ok (r := (.if_icmp .lt 13, 3, 16, 0, 0, 0, 0)) (by decide +kernel)) rfl ?_ ?_
  · refine (hb_blk [(.iconst 0, 1, 0, 0, 0, 0, 0)] (pe := 17) (gs := []) (loc' := [.int x0]) (stk' := [.int 0]) (σ' := σ) (by decide +kernel) rfl).trans ?_
    exact hb_r_zret1 (hb_fe_ok (r := (.ireturn, 1, 0, 0, 1, 0, 0)) (by decide +kernel)) (by decide)
  · refine (hb_blk [(.iload_n 0, 1, 0, 0, 0, 0, 0), (.bipush 57, 2, 0, 0, 0, 57, 0)] (pe := 9) (gs := []) (loc' := [.int x0]) (stk' := [.int 57, .int x0]) (σ' := σ) (by decide +kernel) rfl).trans ?_
    refine hb_br (hb_fe_ok (r := (.if_icmp .gt 7, 3, 16, 0, 0, 0, 0)) (by decide +kernel)) rfl ?_ ?_
    · refine (hb_blk [(.iconst 0, 1, 0, 0, 0, 0, 0)] (pe := 17) (gs := []) (loc' := [.int x0]) (stk' := [.int 0]) (σ' := σ) (by decide +kernel) rfl).trans ?_
      exact hb_r_zret1 (hb_fe_ok (r := (.ireturn, 1, 0, 0, 1, 0, 0)) (by decide +kernel)) (by decide)
    · refine (hb_blk [(.iconst 1, 1, 0, 0, 0, 1, 0)] (pe := 13) (gs := []) (loc' := [.int x0]) (stk' := [.int 1]) (σ' := σ) (by decide +kernel) rfl).trans ?_
      refine (hb_r_goto (hb_fe_ok (r := (.goto 4, 3, 17, 0, 0, 0, 0)) (by decide +kernel))).trans ?_
      exact hb_r_zret1 (hb_fe_ok (r := (.ireturn, 1, 0, 0, 1, 0, 0)) (by decide +kernel)) (by decide)
set_option maxRecDepth 8000 in
theorem e123_0  (σ : hbM) : hb_run hbSH 123 (0, [.ref 54, .null], [], σ) = hb_ci (hb_ev hbSH 120 [.ref 54, .int (σ 54 26)] σ) (fun y5 σ5 => if (y5 = (32 : Int32)) then (hb_run hbSH 123 (0, [.ref 54, .null], [], (hb_up σ5 54 26 ((σ5 54 26) + (1 : Int32))))) else (hb_ci (hb_ev hbSH 120 [.ref 54, .int (σ5 54 26)] σ5) (fun y18 σ18 => if (¬ y18 = (10 : Int32)) then (hb_ci (hb_ev hbSH 120 [.ref 54, .int (σ18 54 26)] (hb_up σ18 54 28 (σ18 54 26))) (fun y52 σ52 => if (¬ y52 = (-1000000 : Int32)) then (hb_ci (hb_ev hbSH 121 [.int y52] σ52) (fun y71 σ71 => if (y71 = (0 : Int32)) then (hb_ci (hb_ev hbSH 122 [.int y52] σ71) (fun y113 σ113 => if (y113 = (0 : Int32)) then (if (¬ y52 = (59 : Int32)) then (some (none, (hb_up (hb_up (hb_up σ113 54 26 ((σ113 54 26) + (1 : Int32))) 54 27 0) 54 29 ((σ113 54 26) + (1 : Int32))))) else (some (none, (hb_up (hb_up (hb_up σ113 54 26 ((σ113 54 26) + (1 : Int32))) 54 27 4) 54 29 ((σ113 54 26) + (1 : Int32)))))) else (hb_run hbSH 123 (119, [.ref 54, .int y52], [], σ113)))) else (hb_run hbSH 123 (77, [.ref 54, .int y52], [], σ71)))) else (some (none, (hb_up (hb_up σ52 54 27 1) 54 29 (σ52 54 26)))))) else (hb_run hbSH 123 (0, [.ref 54, .null], [], (hb_up σ18 54 26 ((σ18 54 26) + (1 : Int32)))))))) := by
  refine (hb_blk [(.aload_n 0, 1, 0, 0, 0, 0, 0), (.aload_n 0, 1, 0, 0, 0, 0, 0), (.getfield 124, 3, 12, 26, 0, 0, 0)] (pe := 5) (gs := []) (loc' := [.ref 54, .null]) (stk' := [.int (σ 54 26), .ref 54]) (σ' := σ) (by decide +kernel) rfl).trans ?_
  refine hb_Vi (hb_fe_ok (r := (.invokevirtual 127, 3, 120, 1, 0, 0, 0)) (by decide +kernel)) (by decide +kernel) (as := [.int (σ 54 26)]) (v := .ref 54) (rest := []) rfl rfl (Nat.le_of_ble_eq_true rfl) (fun y5 σ5 => ?_)
  refine (hb_blk [(.bipush 32, 2, 0, 0, 0, 32, 0)] (pe := 10) (gs := []) (loc' := [.ref 54, .null]) (stk' := [.int 32, .int y5]) (σ' := σ5) (by decide +kernel) rfl).trans ?_
  refine hb_br (hb_fe_ok (r := (.if_icmp .eq 16, 3, 26, 0, 0, 0, 0)) (by decide +kernel)) rfl ?_ ?_
  · refine (hb_blk [(.aload_n 0, 1, 0, 0, 0, 0, 0), (.dup, 1, 0, 0, 0, 0, 0), (.getfield 124, 3, 12, 26, 0, 0, 0), (.iconst 1, 1, 0, 0, 0, 1, 0), (.iadd, 1, 0, 0, 0, 0, 0), (.putfield 124, 3, 12, 26, 0, 0, 0)] (pe := 36) (gs := []) (loc' := [.ref 54, .null]) (stk' := []) (σ' := (hb_up σ5 54 26 ((σ5 54 26) + (1 : Int32)))) (by decide +kernel) rfl).trans ?_
    refine (hb_r_goto (hb_fe_ok (r := (.goto (-36), 3, 0, 0, 0, 0, 0)) (by decide +kernel))).trans ?_
    exact rfl
  · refine (hb_blk [(.aload_n 0, 1, 0, 0, 0, 0, 0), (.aload_n 0, 1, 0, 0, 0, 0, 0), (.getfield 124, 3, 12, 26, 0, 0, 0)] (pe := 18) (gs := []) (loc' := [.ref 54, .null]) (stk' := [.int (σ5 54 26), .ref 54]) (σ' := σ5) (by decide +kernel) rfl).trans ?_
    refine hb_Vi (hb_fe_ok (r := (.invokevirtual 127, 3, 120, 1, 0, 0, 0)) (by decide +kernel)) (by decide +kernel) (as := [.int (σ5 54 26)]) (v := .ref 54) (rest := []) rfl rfl (Nat.le_of_ble_eq_true rfl) (fun y18 σ18 => ?_)
    refine (hb_blk [(.bipush 10, 2, 0, 0, 0, 10, 0)] (pe := 23) (gs := []) (loc' := [.ref 54, .null]) (stk' := [.int 10, .int y18]) (σ' := σ18) (by decide +kernel) rfl).trans ?_
    refine hb_br (hb_fe_ok (r := (.if_icmp .ne 16, 3, 39, 0, 0, 0, 0)) (by decide +kernel)) rfl ?_ ?_
    · refine (hb_blk [(.aload_n 0, 1, 0, 0, 0, 0, 0), (.aload_n 0, 1, 0, 0, 0, 0, 0), (.getfield 124, 3, 12, 26, 0, 0, 0), (.putfield 130, 3, 12, 28, 0, 0, 0), (.aload_n 0, 1, 0, 0, 0, 0, 0), (.aload_n 0, 1, 0, 0, 0, 0, 0), (.getfield 124, 3, 12, 26, 0, 0, 0)] (pe := 52) (gs := []) (loc' := [.ref 54, .null]) (stk' := [.int (σ18 54 26), .ref 54]) (σ' := (hb_up σ18 54 28 (σ18 54 26))) (by decide +kernel) rfl).trans ?_
      refine hb_Vi (hb_fe_ok (r := (.invokevirtual 127, 3, 120, 1, 0, 0, 0)) (by decide +kernel)) (by decide +kernel) (as := [.int (σ18 54 26)]) (v := .ref 54) (rest := []) rfl rfl (Nat.le_of_ble_eq_true rfl) (fun y52 σ52 => ?_)
      refine (hb_blk [(.istore_n 1, 1, 1, 0, 0, 0, 0), (.iload_n 1, 1, 1, 0, 0, 0, 0), (.ldc 123, 2, 0, 0, 0, (-1000000), 0)] (pe := 59) (gs := []) (loc' := [.ref 54, .int y52]) (stk' := [.int (-1000000), .int y52]) (σ' := σ52) (by decide +kernel) rfl).trans ?_
      refine hb_br (hb_fe_ok (r := (.if_icmp .ne 11, 3, 70, 0, 0, 0, 0)) (by decide +kernel)) rfl ?_ ?_
      · refine (hb_blk [(.iload_n 1, 1, 1, 0, 0, 0, 0)] (pe := 71) (gs := []) (loc' := [.ref 54, .int y52]) (stk' := [.int y52]) (σ' := σ52) (by decide +kernel) rfl).trans ?_
        refine hb_Si (hb_fe_ok (r := (.invokestatic 136, 3, 121, 1, 0, 0, 0)) (by decide +kernel)) (by decide) (by decide +kernel) (as := [.int y52]) (rest := []) rfl (Nat.le_of_ble_eq_true rfl) (fun y71 σ71 => ?_)
        refine hb_br0 (hb_fe_ok (r := (.ifCond .eq 38, 3, 112, 0, 0, 0, 0)) (by decide +kernel)) rfl ?_ ?_
        · refine (hb_blk [(.iload_n 1, 1, 1, 0, 0, 0, 0)] (pe := 113) (gs := []) (loc' := [.ref 54, .int y52]) (stk' := [.int y52]) (σ' := σ71) (by decide +kernel) rfl).trans ?_
          refine hb_Si (hb_fe_ok (r := (.invokestatic 139, 3, 122, 1, 0, 0, 0)) (by decide +kernel)) (by decide) (by decide +kernel) (as := [.int y52]) (rest := []) rfl (Nat.le_of_ble_eq_true rfl) (fun y113 σ113 => ?_)
          refine hb_br0 (hb_fe_ok (r := (.ifCond .eq 55, 3, 171, 0, 0, 0, 0)) (by decide +kernel)) rfl ?_ ?_
          · refine (hb_blk [(.aload_n 0, 1, 0, 0, 0, 0, 0), (.dup, 1, 0, 0, 0, 0, 0), (.getfield 124, 3, 12, 26, 0, 0, 0), (.iconst 1, 1, 0, 0, 0, 1, 0), (.iadd, 1, 0, 0, 0, 0, 0), (.putfield 124, 3, 12, 26, 0, 0, 0), (.aload_n 0, 1, 0, 0, 0, 0, 0), (.iload_n 1, 1, 1, 0, 0, 0, 0), (.bipush 59, 2, 0, 0, 0, 59, 0)] (pe := 185) (gs := []) (loc' := [.ref 54, .int y52]) (stk' := [.int 59, .int y52, .ref 54]) (σ' := (hb_up σ113 54 26 ((σ113 54 26) + (1 : Int32)))) (by decide +kernel) rfl).trans ?_
            refine hb_br (hb_fe_ok (r := (.if_icmp .ne 7, 3, 192, 0, 0, 0, 0)) (by decide +kernel)) rfl ?_ ?_
            · refine (hb_blk [(.iconst 0, 1, 0, 0, 0, 0, 0)] (pe := 193) (gs := []) (loc' := [.ref 54, .int y52]) (stk' := [.int 0, .ref 54]) (σ' := (hb_up σ113 54 26 ((σ113 54 26) + (1 : Int32)))) (by decide +kernel) rfl).trans ?_
              refine (hb_blk [(.putfield 133, 3, 12, 27, 0, 0, 0)] (pe := 196) (gs := []) (loc' := [.ref 54, .int y52]) (stk' := []) (σ' := (hb_up (hb_up σ113 54 26 ((σ113 54 26) + (1 : Int32))) 54 27 0)) (by decide +kernel) rfl).trans ?_
              refine (hb_blk [(.aload_n 0, 1, 0, 0, 0, 0, 0), (.aload_n 0, 1, 0, 0, 0, 0, 0), (.getfield 124, 3, 12, 26, 0, 0, 0), (.putfield 142, 3, 12, 29, 0, 0, 0)] (pe := 204) (gs := []) (loc' := [.ref 54, .int y52]) (stk' := []) (σ' := (hb_up (hb_up (hb_up σ113 54 26 ((σ113 54 26) + (1 : Int32))) 54 27 0) 54 29 ((σ113 54 26) + (1 : Int32)))) (by decide +kernel) rfl).trans ?_
              exact hb_r_vret (hb_fe_ok (r := (.return_, 1, 0, 0, 0, 0, 0)) (by decide +kernel))
            · refine (hb_blk [(.iconst 4, 1, 0, 0, 0, 4, 0)] (pe := 189) (gs := []) (loc' := [.ref 54, .int y52]) (stk' := [.int 4, .ref 54]) (σ' := (hb_up σ113 54 26 ((σ113 54 26) + (1 : Int32)))) (by decide +kernel) rfl).trans ?_
              refine (hb_r_goto (hb_fe_ok (r := (.goto 4, 3, 193, 0, 0, 0, 0)) (by decide +kernel))).trans ?_
              refine (hb_blk [(.putfield 133, 3, 12, 27, 0, 0, 0)] (pe := 196) (gs := []) (loc' := [.ref 54, .int y52]) (stk' := []) (σ' := (hb_up (hb_up σ113 54 26 ((σ113 54 26) + (1 : Int32))) 54 27 4)) (by decide +kernel) rfl).trans ?_
              refine (hb_blk [(.aload_n 0, 1, 0, 0, 0, 0, 0), (.aload_n 0, 1, 0, 0, 0, 0, 0), (.getfield 124, 3, 12, 26, 0, 0, 0), (.putfield 142, 3, 12, 29, 0, 0, 0)] (pe := 204) (gs := []) (loc' := [.ref 54, .int y52]) (stk' := []) (σ' := (hb_up (hb_up (hb_up σ113 54 26 ((σ113 54 26) + (1 : Int32))) 54 27 4) 54 29 ((σ113 54 26) + (1 : Int32)))) (by decide +kernel) rfl).trans ?_
              exact hb_r_vret (hb_fe_ok (r := (.return_, 1, 0, 0, 0, 0, 0)) (by decide +kernel))
          · exact rfl
        · exact rfl
      · refine (hb_blk [(.aload_n 0, 1, 0, 0, 0, 0, 0), (.iconst 1, 1, 0, 0, 0, 1, 0), (.putfield 133, 3, 12, 27, 0, 0, 0)] (pe := 67) (gs := []) (loc' := [.ref 54, .int y52]) (stk' := []) (σ' := (hb_up σ52 54 27 1)) (by decide +kernel) rfl).trans ?_
        refine (hb_r_goto (hb_fe_ok (r := (.goto 129, 3, 196, 0, 0, 0, 0)) (by decide +kernel))).trans ?_
        refine (hb_blk [(.aload_n 0, 1, 0, 0, 0, 0, 0), (.aload_n 0, 1, 0, 0, 0, 0, 0), (.getfield 124, 3, 12, 26, 0, 0, 0), (.putfield 142, 3, 12, 29, 0, 0, 0)] (pe := 204) (gs := []) (loc' := [.ref 54, .int y52]) (stk' := []) (σ' := (hb_up (hb_up σ52 54 27 1) 54 29 (σ52 54 26))) (by decide +kernel) rfl).trans ?_
        exact hb_r_vret (hb_fe_ok (r := (.return_, 1, 0, 0, 0, 0, 0)) (by decide +kernel))
    · refine (hb_blk [(.aload_n 0, 1, 0, 0, 0, 0, 0), (.dup, 1, 0, 0, 0, 0, 0), (.getfield 124, 3, 12, 26, 0, 0, 0), (.iconst 1, 1, 0, 0, 0, 1, 0), (.iadd, 1, 0, 0, 0, 0, 0), (.putfield 124, 3, 12, 26, 0, 0, 0)] (pe := 36) (gs := []) (loc' := [.ref 54, .null]) (stk' := []) (σ' := (hb_up σ18 54 26 ((σ18 54 26) + (1 : Int32)))) (by decide +kernel) rfl).trans ?_
      refine (hb_r_goto (hb_fe_ok (r := (.goto (-36), 3, 0, 0, 0, 0, 0)) (by decide +kernel))).trans ?_
      exact rfl
set_option maxRecDepth 8000 in
theorem e123_77  (σ : hbM) (x1 : Int32) : hb_run hbSH 123 (77, [.ref 54, .int x1], [], σ) = hb_ci (hb_ev hbSH 120 [.ref 54, .int (σ 54 26)] σ) (fun y82 σ82 => hb_ci (hb_ev hbSH 121 [.int y82] σ82) (fun y85 σ85 => if (y85 = (0 : Int32)) then (some (none, (hb_up (hb_up σ85 54 27 2) 54 29 (σ85 54 26)))) else (hb_run hbSH 123 (77, [.ref 54, .int x1], [], (hb_up σ85 54 26 ((σ85 54 26) + (1 : Int32))))))) := by
  refine (hb_blk [(.aload_n 0, 1, 0, 0, 0, 0, 0), (.aload_n 0, 1, 0, 0, 0, 0, 0), (.getfield 124, 3, 12, 26, 0, 0, 0)] (pe := 82) (gs := []) (loc' := [.ref 54, .int x1]) (stk' := [.int (σ 54 26), .ref 54]) (σ' := σ) (by decide +kernel) rfl).trans ?_
  refine hb_Vi (hb_fe_ok (r := (.invokevirtual 127, 3, 120, 1, 0, 0, 0)) (by decide +kernel)) (by decide +kernel) (as := [.int (σ 54 26)]) (v := .ref 54) (rest := []) rfl rfl (Nat.le_of_ble_eq_true rfl) (fun y82 σ82 => ?_)
  refine hb_Si (hb_fe_ok (r := (.invokestatic 136, 3, 121, 1, 0, 0, 0)) (by decide +kernel)) (by decide) (by decide +kernel) (as := [.int y82]) (rest := []) rfl (Nat.le_of_ble_eq_true rfl) (fun y85 σ85 => ?_)
  refine hb_br0 (hb_fe_ok (r := (.ifCond .eq 16, 3, 104, 0, 0, 0, 0)) (by decide +kernel)) rfl ?_ ?_
  · refine (hb_blk [(.aload_n 0, 1, 0, 0, 0, 0, 0), (.iconst 2, 1, 0, 0, 0, 2, 0), (.putfield 133, 3, 12, 27, 0, 0, 0)] (pe := 109) (gs := []) (loc' := [.ref 54, .int x1]) (stk' := []) (σ' := (hb_up σ85 54 27 2)) (by decide +kernel) rfl).trans ?_
    refine (hb_r_goto (hb_fe_ok (r := (.goto 87, 3, 196, 0, 0, 0, 0)) (by decide +kernel))).trans ?_
    refine (hb_blk [(.aload_n 0, 1, 0, 0, 0, 0, 0), (.aload_n 0, 1, 0, 0, 0, 0, 0), (.getfield 124, 3, 12, 26, 0, 0, 0), (.putfield 142, 3, 12, 29, 0, 0, 0)] (pe := 204) (gs := []) (loc' := [.ref 54, .int x1]) (stk' := []) (σ' := (hb_up (hb_up σ85 54 27 2) 54 29 (σ85 54 26))) (by decide +kernel) rfl).trans ?_
    exact hb_r_vret (hb_fe_ok (r := (.return_, 1, 0, 0, 0, 0, 0)) (by decide +kernel))
  · refine (hb_blk [(.aload_n 0, 1, 0, 0, 0, 0, 0), (.dup, 1, 0, 0, 0, 0, 0), (.getfield 124, 3, 12, 26, 0, 0, 0), (.iconst 1, 1, 0, 0, 0, 1, 0), (.iadd, 1, 0, 0, 0, 0, 0), (.putfield 124, 3, 12, 26, 0, 0, 0)] (pe := 101) (gs := []) (loc' := [.ref 54, .int x1]) (stk' := []) (σ' := (hb_up σ85 54 26 ((σ85 54 26) + (1 : Int32)))) (by decide +kernel) rfl).trans ?_
    refine (hb_r_goto (hb_fe_ok (r := (.goto (-24), 3, 77, 0, 0, 0, 0)) (by decide +kernel))).trans ?_
    exact rfl
set_option maxRecDepth 8000 in
theorem e123_119  (σ : hbM) (x1 : Int32) : hb_run hbSH 123 (119, [.ref 54, .int x1], [], σ) = hb_ci (hb_ev hbSH 120 [.ref 54, .int (σ 54 26)] σ) (fun y124 σ124 => hb_ci (hb_ev hbSH 122 [.int y124] σ124) (fun y127 σ127 => if (y127 = (0 : Int32)) then (if (((σ127 54 26) - (σ127 54 28)) ≤ (2 : Int32)) then (some (none, (hb_up (hb_up σ127 54 27 3) 54 29 (σ127 54 26)))) else (some (none, (hb_up (hb_up σ127 54 27 0) 54 29 (σ127 54 26))))) else (hb_run hbSH 123 (119, [.ref 54, .int x1], [], (hb_up σ127 54 26 ((σ127 54 26) + (1 : Int32))))))) := by
  refine (hb_blk [(.aload_n 0, 1, 0, 0, 0, 0, 0), (.aload_n 0, 1, 0, 0, 0, 0, 0), (.getfield 124, 3, 12, 26, 0, 0, 0)] (pe := 124) (gs := []) (loc' := [.ref 54, .int x1]) (stk' := [.int (σ 54 26), .ref 54]) (σ' := σ) (by decide +kernel) rfl).trans ?_
  refine hb_Vi (hb_fe_ok (r := (.invokevirtual 127, 3, 120, 1, 0, 0, 0)) (by decide +kernel)) (by decide +kernel) (as := [.int (σ 54 26)]) (v := .ref 54) (rest := []) rfl rfl (Nat.le_of_ble_eq_true rfl) (fun y124 σ124 => ?_)
  refine hb_Si (hb_fe_ok (r := (.invokestatic 139, 3, 122, 1, 0, 0, 0)) (by decide +kernel)) (by decide) (by decide +kernel) (as := [.int y124]) (rest := []) rfl (Nat.le_of_ble_eq_true rfl) (fun y127 σ127 => ?_)
  refine hb_br0 (hb_fe_ok (r := (.ifCond .eq 16, 3, 146, 0, 0, 0, 0)) (by decide +kernel)) rfl ?_ ?_
  · refine (hb_blk [(.aload_n 0, 1, 0, 0, 0, 0, 0), (.aload_n 0, 1, 0, 0, 0, 0, 0), (.getfield 124, 3, 12, 26, 0, 0, 0), (.aload_n 0, 1, 0, 0, 0, 0, 0), (.getfield 130, 3, 12, 28, 0, 0, 0), (.isub, 1, 0, 0, 0, 0, 0), (.iconst 2, 1, 0, 0, 0, 2, 0)] (pe := 157) (gs := []) (loc' := [.ref 54, .int x1]) (stk' := [.int 2, .int ((σ127 54 26) - (σ127 54 28)), .ref 54]) (σ' := σ127) (by decide +kernel) rfl).trans ?_
    refine hb_br (hb_fe_ok (r := (.if_icmp .le 7, 3, 164, 0, 0, 0, 0)) (by decide +kernel)) rfl ?_ ?_
    · refine (hb_blk [(.iconst 3, 1, 0, 0, 0, 3, 0)] (pe := 165) (gs := []) (loc' := [.ref 54, .int x1]) (stk' := [.int 3, .ref 54]) (σ' := σ127) (by decide +kernel) rfl).trans ?_
      refine (hb_blk [(.putfield 133, 3, 12, 27, 0, 0, 0)] (pe := 168) (gs := []) (loc' := [.ref 54, .int x1]) (stk' := []) (σ' := (hb_up σ127 54 27 3)) (by decide +kernel) rfl).trans ?_
      refine (hb_r_goto (hb_fe_ok (r := (.goto 28, 3, 196, 0, 0, 0, 0)) (by decide +kernel))).trans ?_
      refine (hb_blk [(.aload_n 0, 1, 0, 0, 0, 0, 0), (.aload_n 0, 1, 0, 0, 0, 0, 0), (.getfield 124, 3, 12, 26, 0, 0, 0), (.putfield 142, 3, 12, 29, 0, 0, 0)] (pe := 204) (gs := []) (loc' := [.ref 54, .int x1]) (stk' := []) (σ' := (hb_up (hb_up σ127 54 27 3) 54 29 (σ127 54 26))) (by decide +kernel) rfl).trans ?_
      exact hb_r_vret (hb_fe_ok (r := (.return_, 1, 0, 0, 0, 0, 0)) (by decide +kernel))
    · refine (hb_blk [(.iconst 0, 1, 0, 0, 0, 0, 0)] (pe := 161) (gs := []) (loc' := [.ref 54, .int x1]) (stk' := [.int 0, .ref 54]) (σ' := σ127) (by decide +kernel) rfl).trans ?_
      refine (hb_r_goto (hb_fe_ok (r := (.goto 4, 3, 165, 0, 0, 0, 0)) (by decide +kernel))).trans ?_
      refine (hb_blk [(.putfield 133, 3, 12, 27, 0, 0, 0)] (pe := 168) (gs := []) (loc' := [.ref 54, .int x1]) (stk' := []) (σ' := (hb_up σ127 54 27 0)) (by decide +kernel) rfl).trans ?_
      refine (hb_r_goto (hb_fe_ok (r := (.goto 28, 3, 196, 0, 0, 0, 0)) (by decide +kernel))).trans ?_
      refine (hb_blk [(.aload_n 0, 1, 0, 0, 0, 0, 0), (.aload_n 0, 1, 0, 0, 0, 0, 0), (.getfield 124, 3, 12, 26, 0, 0, 0), (.putfield 142, 3, 12, 29, 0, 0, 0)] (pe := 204) (gs := []) (loc' := [.ref 54, .int x1]) (stk' := []) (σ' := (hb_up (hb_up σ127 54 27 0) 54 29 (σ127 54 26))) (by decide +kernel) rfl).trans ?_
      exact hb_r_vret (hb_fe_ok (r := (.return_, 1, 0, 0, 0, 0, 0)) (by decide +kernel))
  · refine (hb_blk [(.aload_n 0, 1, 0, 0, 0, 0, 0), (.dup, 1, 0, 0, 0, 0, 0), (.getfield 124, 3, 12, 26, 0, 0, 0), (.iconst 1, 1, 0, 0, 0, 1, 0), (.iadd, 1, 0, 0, 0, 0, 0), (.putfield 124, 3, 12, 26, 0, 0, 0)] (pe := 143) (gs := []) (loc' := [.ref 54, .int x1]) (stk' := []) (σ' := (hb_up σ127 54 26 ((σ127 54 26) + (1 : Int32)))) (by decide +kernel) rfl).trans ?_
    refine (hb_r_goto (hb_fe_ok (r := (.goto (-24), 3, 119, 0, 0, 0, 0)) (by decide +kernel))).trans ?_
    exact rfl
set_option maxRecDepth 8000 in
theorem e124_0  (σ : hbM) (x1 : Int32) : hb_run hbSH 124 (0, [.ref 54, .int x1], [], σ) = if (¬ (σ 54 30) = (0 : Int32)) then (some (none, σ)) else (some (none, (hb_up (hb_up σ 54 30 x1) 54 31 (σ 54 28)))) := by
  refine (hb_blk [(.aload_n 0, 1, 0, 0, 0, 0, 0), (.getfield 145, 3, 12, 30, 0, 0, 0)] (pe := 4) (gs := []) (loc' := [.ref 54, .int x1]) (stk' := [.int (σ 54 30)]) (σ' := σ) (by decide +kernel) rfl).trans ?_
  refine hb_br0 (hb_fe_ok (r := (.ifCond .ne 16, 3, 20, 0, 0, 0, 0)) (by decide +kernel)) rfl ?_ ?_
  · exact hb_r_vret (hb_fe_ok (r := (.return_, 1, 0, 0, 0, 0, 0)) (by decide +kernel))
  · refine (hb_blk [(.aload_n 0, 1, 0, 0, 0, 0, 0), (.iload_n 1, 1, 1, 0, 0, 0, 0), (.putfield 145, 3, 12, 30, 0, 0, 0), (.aload_n 0, 1, 0, 0, 0, 0, 0), (.aload_n 0, 1, 0, 0, 0, 0, 0), (.getfield 130, 3, 12, 28, 0, 0, 0), (.putfield 148, 3, 12, 31, 0, 0, 0)] (pe := 20) (gs := []) (loc' := [.ref 54, .int x1]) (stk' := []) (σ' := (hb_up (hb_up σ 54 30 x1) 54 31 (σ 54 28))) (by decide +kernel) rfl).trans ?_
    exact hb_r_vret (hb_fe_ok (r := (.return_, 1, 0, 0, 0, 0, 0)) (by decide +kernel))
set_option maxRecDepth 8000 in
theorem e125_0  (σ : hbM) (x1 : Int32) : hb_run hbSH 125 (0, [.ref 54, .int x1], [], σ) = if (¬ x1 = (0 : Int32)) then (if (¬ (σ 54 30) = (0 : Int32)) then (some (none, σ)) else (hb_cv (hb_ev hbSH 123 [.ref 54] σ) (fun σ17 => some (none, σ17)))) else (hb_cv (hb_ev hbSH 124 [.ref 54, .int 1] σ) (fun σ6 => if (¬ (σ6 54 30) = (0 : Int32)) then (some (none, σ6)) else (hb_cv (hb_ev hbSH 123 [.ref 54] σ6) (fun σ17 => some (none, σ17))))) := by
  refine (hb_blk [(.iload_n 1, 1, 1, 0, 0, 0, 0)] (pe := 1) (gs := []) (loc' := [.ref 54, .int x1]) (stk' := [.int x1]) (σ' := σ) (by decide +kernel) rfl).trans ?_
  refine hb_br0 (hb_fe_ok (r := (.ifCond .ne 8, 3, 9, 0, 0, 0, 0)) (by decide +kernel)) rfl ?_ ?_
  · refine (hb_blk [(.aload_n 0, 1, 0, 0, 0, 0, 0), (.getfield 145, 3, 12, 30, 0, 0, 0)] (pe := 13) (gs := []) (loc' := [.ref 54, .int x1]) (stk' := [.int (σ 54 30)]) (σ' := σ) (by decide +kernel) rfl).trans ?_
    refine hb_br0 (hb_fe_ok (r := (.ifCond .ne 7, 3, 20, 0, 0, 0, 0)) (by decide +kernel)) rfl ?_ ?_
    · exact hb_r_vret (hb_fe_ok (r := (.return_, 1, 0, 0, 0, 0, 0)) (by decide +kernel))
    · refine (hb_blk [(.aload_n 0, 1, 0, 0, 0, 0, 0)] (pe := 17) (gs := []) (loc' := [.ref 54, .int x1]) (stk' := [.ref 54]) (σ' := σ) (by decide +kernel) rfl).trans ?_
      refine hb_Vv (hb_fe_ok (r := (.invokevirtual 155, 3, 123, 0, 0, 0, 0)) (by decide +kernel)) (by decide +kernel) (as := []) (v := .ref 54) (rest := []) rfl rfl (Nat.le_of_ble_eq_true rfl) (fun σ17 => ?_)
      exact hb_r_vret (hb_fe_ok (r := (.return_, 1, 0, 0, 0, 0, 0)) (by decide +kernel))
  · refine (hb_blk [(.aload_n 0, 1, 0, 0, 0, 0, 0), (.iconst 1, 1, 0, 0, 0, 1, 0)] (pe := 6) (gs := []) (loc' := [.ref 54, .int x1]) (stk' := [.int 1, .ref 54]) (σ' := σ) (by decide +kernel) rfl).trans ?_
    refine hb_Vv (hb_fe_ok (r := (.invokevirtual 151, 3, 124, 1, 0, 0, 0)) (by decide +kernel)) (by decide +kernel) (as := [.int 1]) (v := .ref 54) (rest := []) rfl rfl (Nat.le_of_ble_eq_true rfl) (fun σ6 => ?_)
    refine (hb_blk [(.aload_n 0, 1, 0, 0, 0, 0, 0), (.getfield 145, 3, 12, 30, 0, 0, 0)] (pe := 13) (gs := []) (loc' := [.ref 54, .int x1]) (stk' := [.int (σ6 54 30)]) (σ' := σ6) (by decide +kernel) rfl).trans ?_
    refine hb_br0 (hb_fe_ok (r := (.ifCond .ne 7, 3, 20, 0, 0, 0, 0)) (by decide +kernel)) rfl ?_ ?_
    · exact hb_r_vret (hb_fe_ok (r := (.return_, 1, 0, 0, 0, 0, 0)) (by decide +kernel))
    · refine (hb_blk [(.aload_n 0, 1, 0, 0, 0, 0, 0)] (pe := 17) (gs := []) (loc' := [.ref 54, .int x1]) (stk' := [.ref 54]) (σ' := σ6) (by decide +kernel) rfl).trans ?_
      refine hb_Vv (hb_fe_ok (r := (.invokevirtual 155, 3, 123, 0, 0, 0, 0)) (by decide +kernel)) (by decide +kernel) (as := []) (v := .ref 54) (rest := []) rfl rfl (Nat.le_of_ble_eq_true rfl) (fun σ17 => ?_)
      exact hb_r_vret (hb_fe_ok (r := (.return_, 1, 0, 0, 0, 0, 0)) (by decide +kernel))
set_option maxRecDepth 8000 in
theorem e126_0  (σ : hbM) : hb_run hbSH 126 (0, [.ref 54, .null, .null, .null], [], σ) = hb_run hbSH 126 (7, [.ref 54, .long 0, .null, .int (σ 54 28)], [], σ) := by
  refine (hb_blk [(.lconst 0, 1, 0, 0, 0, 0, 0), (.lstore_n 1, 1, 1, 0, 0, 0, 0), (.aload_n 0, 1, 0, 0, 0, 0, 0), (.getfield 130, 3, 12, 28, 0, 0, 0), (.istore_n 3, 1, 3, 0, 0, 0, 0)] (pe := 7) (gs := []) (loc' := [.ref 54, .long 0, .null, .int (σ 54 28)]) (stk' := []) (σ' := σ) (by decide +kernel) rfl).trans ?_
  exact rfl
set_option maxRecDepth 8000 in
theorem e126_7  (σ : hbM) (x1 : Int64) (x3 : Int32) : hb_run hbSH 126 (7, [.ref 54, .long x1, .null, .int x3], [], σ) = if ((σ 54 29) ≤ x3) then (some (some (.long x1), σ)) else (if (¬ (σ 54 27) = (2 : Int32)) then (some (some (.long x1), σ)) else (if ((8 : Int32) ≤ ((σ 54 29) - (σ 54 28))) then (some (some (.long x1), σ)) else (hb_g [hb_in x3 400] (hb_run hbSH 126 (7, [.ref 54, .long ((x1 <<< (Int32.toInt64 (8 : Int32) &&& 63)) ||| (Int32.toInt64 (σ 67 (Int32.toNatClampNeg x3)))), .null, .int (x3 + (1 : Int32))], [], σ))))) := by
  refine (hb_blk [(.iload_n 3, 1, 3, 0, 0, 0, 0), (.aload_n 0, 1, 0, 0, 0, 0, 0), (.getfield 142, 3, 12, 29, 0, 0, 0)] (pe := 12) (gs := []) (loc' := [.ref 54, .long x1, .null, .int x3]) (stk' := [.int (σ 54 29), .int x3]) (σ' := σ) (by decide +kernel) rfl).trans ?_
  refine hb_br (hb_fe_ok (r := (.if_icmp .ge 44, 3, 56, 0, 0, 0, 0)) (by decide +kernel)) rfl ?_ ?_
  · refine (hb_blk [(.lload_n 1, 1, 1, 0, 0, 0, 0)] (pe := 57) (gs := []) (loc' := [.ref 54, .long x1, .null, .int x3]) (stk' := [.long x1]) (σ' := σ) (by decide +kernel) rfl).trans ?_
    exact hb_r_lret (hb_fe_ok (r := (.lreturn, 1, 0, 0, 0, 0, 0)) (by decide +kernel))
  · refine (hb_blk [(.aload_n 0, 1, 0, 0, 0, 0, 0), (.getfield 133, 3, 12, 27, 0, 0, 0), (.iconst 2, 1, 0, 0, 0, 2, 0)] (pe := 20) (gs := []) (loc' := [.ref 54, .long x1, .null, .int x3]) (stk' := [.int 2, .int (σ 54 27)]) (σ' := σ) (by decide +kernel) rfl).trans ?_
    refine hb_br (hb_fe_ok (r := (.if_icmp .ne 36, 3, 56, 0, 0, 0, 0)) (by decide +kernel)) rfl ?_ ?_
    · refine (hb_blk [(.lload_n 1, 1, 1, 0, 0, 0, 0)] (pe := 57) (gs := []) (loc' := [.ref 54, .long x1, .null, .int x3]) (stk' := [.long x1]) (σ' := σ) (by decide +kernel) rfl).trans ?_
      exact hb_r_lret (hb_fe_ok (r := (.lreturn, 1, 0, 0, 0, 0, 0)) (by decide +kernel))
    · refine (hb_blk [(.aload_n 0, 1, 0, 0, 0, 0, 0), (.getfield 142, 3, 12, 29, 0, 0, 0), (.aload_n 0, 1, 0, 0, 0, 0, 0), (.getfield 130, 3, 12, 28, 0, 0, 0), (.isub, 1, 0, 0, 0, 0, 0), (.bipush 8, 2, 0, 0, 0, 8, 0)] (pe := 34) (gs := []) (loc' := [.ref 54, .long x1, .null, .int x3]) (stk' := [.int 8, .int ((σ 54 29) - (σ 54 28))]) (σ' := σ) (by decide +kernel) rfl).trans ?_
      refine hb_br (hb_fe_ok (r := (.if_icmp .ge 22, 3, 56, 0, 0, 0, 0)) (by decide +kernel)) rfl ?_ ?_
      · refine (hb_blk [(.lload_n 1, 1, 1, 0, 0, 0, 0)] (pe := 57) (gs := []) (loc' := [.ref 54, .long x1, .null, .int x3]) (stk' := [.long x1]) (σ' := σ) (by decide +kernel) rfl).trans ?_
        exact hb_r_lret (hb_fe_ok (r := (.lreturn, 1, 0, 0, 0, 0, 0)) (by decide +kernel))
      · refine (hb_blk [(.lload_n 1, 1, 1, 0, 0, 0, 0), (.bipush 8, 2, 0, 0, 0, 8, 0), (.lshl, 1, 0, 0, 0, 0, 0), (.aload_n 0, 1, 0, 0, 0, 0, 0), (.getfield 46, 3, 12, 22, 0, 0, 0), (.iload_n 3, 1, 3, 0, 0, 0, 0), (.iaload, 1, 0, 0, 0, 0, 0), (.i2l, 1, 0, 0, 0, 0, 0), (.lor, 1, 0, 0, 0, 0, 0), (.lstore_n 1, 1, 1, 0, 0, 0, 0), (.iinc 3 1, 3, 3, 0, 0, 1, 0)] (pe := 53) (gs := [hb_in x3 400]) (loc' := [.ref 54, .long ((x1 <<< (Int32.toInt64 (8 : Int32) &&& 63)) ||| (Int32.toInt64 (σ 67 (Int32.toNatClampNeg x3)))), .null, .int (x3 + (1 : Int32))]) (stk' := []) (σ' := σ) (by decide +kernel) rfl).trans ?_
        refine congrArg (hb_g _) ?_
        refine (hb_r_goto (hb_fe_ok (r := (.goto (-46), 3, 7, 0, 0, 0, 0)) (by decide +kernel))).trans ?_
        exact rfl
set_option maxRecDepth 8000 in
theorem e127_0  (σ : hbM) (x1 : Int32) : hb_run hbSH 127 (0, [.ref 54, .int x1, .null, .null], [], σ) = if ((σ 54 30) ≤ (0 : Int32)) then (hb_run hbSH 127 (16, [.ref 54, .int x1, .int 0, .int (σ 54 28)], [], σ)) else (some (some (.int 0), σ)) := by
  refine (hb_blk [(.aload_n 0, 1, 0, 0, 0, 0, 0), (.getfield 145, 3, 12, 30, 0, 0, 0)] (pe := 4) (gs := []) (loc' := [.ref 54, .int x1, .null, .null]) (stk' := [.int (σ 54 30)]) (σ' := σ) (by decide +kernel) rfl).trans ?_
  refine hb_br0 (hb_fe_ok (r := (.ifCond .le 5, 3, 9, 0, 0, 0, 0)) (by decide +kernel)) rfl ?_ ?_
  · refine (hb_blk [(.iconst 0, 1, 0, 0, 0, 0, 0), (.istore_n 2, 1, 2, 0, 0, 0, 0), (.aload_n 0, 1, 0, 0, 0, 0, 0), (.getfield 130, 3, 12, 28, 0, 0, 0), (.istore_n 3, 1, 3, 0, 0, 0, 0)] (pe := 16) (gs := []) (loc' := [.ref 54, .int x1, .int 0, .int (σ 54 28)]) (stk' := []) (σ' := σ) (by decide +kernel) rfl).trans ?_
    exact rfl
  · refine (hb_blk [(.iconst 0, 1, 0, 0, 0, 0, 0)] (pe := 8) (gs := []) (loc' := [.ref 54, .int x1, .null, .null]) (stk' := [.int 0]) (σ' := σ) (by decide +kernel) rfl).trans ?_
    exact hb_r_iret (hb_fe_ok (r := (.ireturn, 1, 0, 0, 0, 0, 0)) (by decide +kernel))
set_option maxRecDepth 8000 in
theorem e127_16  (σ : hbM) (x1 : Int32) (x2 : Int32) (x3 : Int32) : hb_run hbSH 127 (16, [.ref 54, .int x1, .int x2, .int x3], [], σ) = if ((σ 54 29) ≤ x3) then (if (¬ (σ 54 27) = (3 : Int32)) then (if (¬ (σ 54 27) = (3 : Int32)) then (hb_run hbSH 127 (85, [.ref 54, .int x1, .int x2, .int x3], [.int 0, .ref 54], σ)) else (hb_run hbSH 127 (85, [.ref 54, .int x1, .int x2, .int x3], [.int 1, .ref 54], σ))) else (if (x2 ≤ x1) then (if (¬ (σ 54 27) = (3 : Int32)) then (hb_run hbSH 127 (85, [.ref 54, .int x1, .int x2, .int x3], [.int 0, .ref 54], σ)) else (hb_run hbSH 127 (85, [.ref 54, .int x1, .int x2, .int x3], [.int 1, .ref 54], σ))) else (hb_cv (hb_ev hbSH 124 [.ref 54, .int 2] σ) (fun σ68 => if (¬ (σ68 54 27) = (3 : Int32)) then (hb_run hbSH 127 (85, [.ref 54, .int x1, .int x2, .int x3], [.int 0, .ref 54], σ68)) else (hb_run hbSH 127 (85, [.ref 54, .int x1, .int x2, .int x3], [.int 1, .ref 54], σ68)))))) else (if (¬ (σ 54 27) = (3 : Int32)) then (if (¬ (σ 54 27) = (3 : Int32)) then (if (¬ (σ 54 27) = (3 : Int32)) then (hb_run hbSH 127 (85, [.ref 54, .int x1, .int x2, .int x3], [.int 0, .ref 54], σ)) else (hb_run hbSH 127 (85, [.ref 54, .int x1, .int x2, .int x3], [.int 1, .ref 54], σ))) else (if (x2 ≤ x1) then (if (¬ (σ 54 27) = (3 : Int32)) then (hb_run hbSH 127 (85, [.ref 54, .int x1, .int x2, .int x3], [.int 0, .ref 54], σ)) else (hb_run hbSH 127 (85, [.ref 54, .int x1, .int x2, .int x3], [.int 1, .ref 54], σ))) else (hb_cv (hb_ev hbSH 124 [.ref 54, .int 2] σ) (fun σ68 => if (¬ (σ68 54 27) = (3 : Int32)) then (hb_run hbSH 127 (85, [.ref 54, .int x1, .int x2, .int x3], [.int 0, .ref 54], σ68)) else (hb_run hbSH 127 (85, [.ref 54, .int x1, .int x2, .int x3], [.int 1, .ref 54], σ68)))))) else (hb_g [hb_in x3 400] (hb_run hbSH 127 (16, [.ref 54, .int x1, .int ((((10 : Int32) * x2) + (σ 67 (Int32.toNatClampNeg x3))) - (48 : Int32)), .int (x3 + (1 : Int32))], [], σ)))) := by
  refine (hb_blk [(.iload_n 3, 1, 3, 0, 0, 0, 0), (.aload_n 0, 1, 0, 0, 0, 0, 0), (.getfield 142, 3, 12, 29, 0, 0, 0)] (pe := 21) (gs := []) (loc' := [.ref 54, .int x1, .int x2, .int x3]) (stk' := [.int (σ 54 29), .int x3]) (σ' := σ) (by decide +kernel) rfl).trans ?_
  refine hb_br (hb_fe_ok (r := (.if_icmp .ge 32, 3, 53, 0, 0, 0, 0)) (by decide +kernel)) rfl ?_ ?_
  · refine (hb_blk [(.aload_n 0, 1, 0, 0, 0, 0, 0), (.getfield 133, 3, 12, 27, 0, 0, 0), (.iconst 3, 1, 0, 0, 0, 3, 0)] (pe := 58) (gs := []) (loc' := [.ref 54, .int x1, .int x2, .int x3]) (stk' := [.int 3, .int (σ 54 27)]) (σ' := σ) (by decide +kernel) rfl).trans ?_
    refine hb_br (hb_fe_ok (r := (.if_icmp .ne 13, 3, 71, 0, 0, 0, 0)) (by decide +kernel)) rfl ?_ ?_
    · refine (hb_blk [(.aload_n 0, 1, 0, 0, 0, 0, 0), (.aload_n 0, 1, 0, 0, 0, 0, 0), (.getfield 133, 3, 12, 27, 0, 0, 0), (.iconst 3, 1, 0, 0, 0, 3, 0)] (pe := 77) (gs := []) (loc' := [.ref 54, .int x1, .int x2, .int x3]) (stk' := [.int 3, .int (σ 54 27), .ref 54]) (σ' := σ) (by decide +kernel) rfl).trans ?_
      refine hb_br (hb_fe_ok (r := (.if_icmp .ne 7, 3, 84, 0, 0, 0, 0)) (by decide +kernel)) rfl ?_ ?_
      · refine (hb_blk [(.iconst 0, 1, 0, 0, 0, 0, 0)] (pe := 85) (gs := []) (loc' := [.ref 54, .int x1, .int x2, .int x3]) (stk' := [.int 0, .ref 54]) (σ' := σ) (by decide +kernel) rfl).trans ?_
        exact rfl
      · refine (hb_blk [(.iconst 1, 1, 0, 0, 0, 1, 0)] (pe := 81) (gs := []) (loc' := [.ref 54, .int x1, .int x2, .int x3]) (stk' := [.int 1, .ref 54]) (σ' := σ) (by decide +kernel) rfl).trans ?_
        refine (hb_r_goto (hb_fe_ok (r := (.goto 4, 3, 85, 0, 0, 0, 0)) (by decide +kernel))).trans ?_
        exact rfl
    · refine (hb_blk [(.iload_n 2, 1, 2, 0, 0, 0, 0), (.iload_n 1, 1, 1, 0, 0, 0, 0)] (pe := 63) (gs := []) (loc' := [.ref 54, .int x1, .int x2, .int x3]) (stk' := [.int x1, .int x2]) (σ' := σ) (by decide +kernel) rfl).trans ?_
      refine hb_br (hb_fe_ok (r := (.if_icmp .le 8, 3, 71, 0, 0, 0, 0)) (by decide +kernel)) rfl ?_ ?_
      · refine (hb_blk [(.aload_n 0, 1, 0, 0, 0, 0, 0), (.aload_n 0, 1, 0, 0, 0, 0, 0), (.getfield 133, 3, 12, 27, 0, 0, 0), (.iconst 3, 1, 0, 0, 0, 3, 0)] (pe := 77) (gs := []) (loc' := [.ref 54, .int x1, .int x2, .int x3]) (stk' := [.int 3, .int (σ 54 27), .ref 54]) (σ' := σ) (by decide +kernel) rfl).trans ?_
        refine hb_br (hb_fe_ok (r := (.if_icmp .ne 7, 3, 84, 0, 0, 0, 0)) (by decide +kernel)) rfl ?_ ?_
        · refine (hb_blk [(.iconst 0, 1, 0, 0, 0, 0, 0)] (pe := 85) (gs := []) (loc' := [.ref 54, .int x1, .int x2, .int x3]) (stk' := [.int 0, .ref 54]) (σ' := σ) (by decide +kernel) rfl).trans ?_
          exact rfl
        · refine (hb_blk [(.iconst 1, 1, 0, 0, 0, 1, 0)] (pe := 81) (gs := []) (loc' := [.ref 54, .int x1, .int x2, .int x3]) (stk' := [.int 1, .ref 54]) (σ' := σ) (by decide +kernel) rfl).trans ?_
          refine (hb_r_goto (hb_fe_ok (r := (.goto 4, 3, 85, 0, 0, 0, 0)) (by decide +kernel))).trans ?_
          exact rfl
      · refine (hb_blk [(.aload_n 0, 1, 0, 0, 0, 0, 0), (.iconst 2, 1, 0, 0, 0, 2, 0)] (pe := 68) (gs := []) (loc' := [.ref 54, .int x1, .int x2, .int x3]) (stk' := [.int 2, .ref 54]) (σ' := σ) (by decide +kernel) rfl).trans ?_
        refine hb_Vv (hb_fe_ok (r := (.invokevirtual 151, 3, 124, 1, 0, 0, 0)) (by decide +kernel)) (by decide +kernel) (as := [.int 2]) (v := .ref 54) (rest := []) rfl rfl (Nat.le_of_ble_eq_true rfl) (fun σ68 => ?_)
        refine (hb_blk [(.aload_n 0, 1, 0, 0, 0, 0, 0), (.aload_n 0, 1, 0, 0, 0, 0, 0), (.getfield 133, 3, 12, 27, 0, 0, 0), (.iconst 3, 1, 0, 0, 0, 3, 0)] (pe := 77) (gs := []) (loc' := [.ref 54, .int x1, .int x2, .int x3]) (stk' := [.int 3, .int (σ68 54 27), .ref 54]) (σ' := σ68) (by decide +kernel) rfl).trans ?_
        refine hb_br (hb_fe_ok (r := (.if_icmp .ne 7, 3, 84, 0, 0, 0, 0)) (by decide +kernel)) rfl ?_ ?_
        · refine (hb_blk [(.iconst 0, 1, 0, 0, 0, 0, 0)] (pe := 85) (gs := []) (loc' := [.ref 54, .int x1, .int x2, .int x3]) (stk' := [.int 0, .ref 54]) (σ' := σ68) (by decide +kernel) rfl).trans ?_
          exact rfl
        · refine (hb_blk [(.iconst 1, 1, 0, 0, 0, 1, 0)] (pe := 81) (gs := []) (loc' := [.ref 54, .int x1, .int x2, .int x3]) (stk' := [.int 1, .ref 54]) (σ' := σ68) (by decide +kernel) rfl).trans ?_
          refine (hb_r_goto (hb_fe_ok (r := (.goto 4, 3, 85, 0, 0, 0, 0)) (by decide +kernel))).trans ?_
          exact rfl
  · refine (hb_blk [(.aload_n 0, 1, 0, 0, 0, 0, 0), (.getfield 133, 3, 12, 27, 0, 0, 0), (.iconst 3, 1, 0, 0, 0, 3, 0)] (pe := 29) (gs := []) (loc' := [.ref 54, .int x1, .int x2, .int x3]) (stk' := [.int 3, .int (σ 54 27)]) (σ' := σ) (by decide +kernel) rfl).trans ?_
    refine hb_br (hb_fe_ok (r := (.if_icmp .ne 24, 3, 53, 0, 0, 0, 0)) (by decide +kernel)) rfl ?_ ?_
    · refine (hb_blk [(.aload_n 0, 1, 0, 0, 0, 0, 0), (.getfield 133, 3, 12, 27, 0, 0, 0), (.iconst 3, 1, 0, 0, 0, 3, 0)] (pe := 58) (gs := []) (loc' := [.ref 54, .int x1, .int x2, .int x3]) (stk' := [.int 3, .int (σ 54 27)]) (σ' := σ) (by decide +kernel) rfl).trans ?_
      refine hb_br (hb_fe_ok (r := (.if_icmp .ne 13, 3, 71, 0, 0, 0, 0)) (by decide +kernel)) rfl ?_ ?_
      · refine (hb_blk [(.aload_n 0, 1, 0, 0, 0, 0, 0), (.aload_n 0, 1, 0, 0, 0, 0, 0), (.getfield 133, 3, 12, 27, 0, 0, 0), (.iconst 3, 1, 0, 0, 0, 3, 0)] (pe := 77) (gs := []) (loc' := [.ref 54, .int x1, .int x2, .int x3]) (stk' := [.int 3, .int (σ 54 27), .ref 54]) (σ' := σ) (by decide +kernel) rfl).trans ?_
        refine hb_br (hb_fe_ok (r := (.if_icmp .ne 7, 3, 84, 0, 0, 0, 0)) (by decide +kernel)) rfl ?_ ?_
        · refine (hb_blk [(.iconst 0, 1, 0, 0, 0, 0, 0)] (pe := 85) (gs := []) (loc' := [.ref 54, .int x1, .int x2, .int x3]) (stk' := [.int 0, .ref 54]) (σ' := σ) (by decide +kernel) rfl).trans ?_
          exact rfl
        · refine (hb_blk [(.iconst 1, 1, 0, 0, 0, 1, 0)] (pe := 81) (gs := []) (loc' := [.ref 54, .int x1, .int x2, .int x3]) (stk' := [.int 1, .ref 54]) (σ' := σ) (by decide +kernel) rfl).trans ?_
          refine (hb_r_goto (hb_fe_ok (r := (.goto 4, 3, 85, 0, 0, 0, 0)) (by decide +kernel))).trans ?_
          exact rfl
      · refine (hb_blk [(.iload_n 2, 1, 2, 0, 0, 0, 0), (.iload_n 1, 1, 1, 0, 0, 0, 0)] (pe := 63) (gs := []) (loc' := [.ref 54, .int x1, .int x2, .int x3]) (stk' := [.int x1, .int x2]) (σ' := σ) (by decide +kernel) rfl).trans ?_
        refine hb_br (hb_fe_ok (r := (.if_icmp .le 8, 3, 71, 0, 0, 0, 0)) (by decide +kernel)) rfl ?_ ?_
        · refine (hb_blk [(.aload_n 0, 1, 0, 0, 0, 0, 0), (.aload_n 0, 1, 0, 0, 0, 0, 0), (.getfield 133, 3, 12, 27, 0, 0, 0), (.iconst 3, 1, 0, 0, 0, 3, 0)] (pe := 77) (gs := []) (loc' := [.ref 54, .int x1, .int x2, .int x3]) (stk' := [.int 3, .int (σ 54 27), .ref 54]) (σ' := σ) (by decide +kernel) rfl).trans ?_
          refine hb_br (hb_fe_ok (r := (.if_icmp .ne 7, 3, 84, 0, 0, 0, 0)) (by decide +kernel)) rfl ?_ ?_
          · refine (hb_blk [(.iconst 0, 1, 0, 0, 0, 0, 0)] (pe := 85) (gs := []) (loc' := [.ref 54, .int x1, .int x2, .int x3]) (stk' := [.int 0, .ref 54]) (σ' := σ) (by decide +kernel) rfl).trans ?_
            exact rfl
          · refine (hb_blk [(.iconst 1, 1, 0, 0, 0, 1, 0)] (pe := 81) (gs := []) (loc' := [.ref 54, .int x1, .int x2, .int x3]) (stk' := [.int 1, .ref 54]) (σ' := σ) (by decide +kernel) rfl).trans ?_
            refine (hb_r_goto (hb_fe_ok (r := (.goto 4, 3, 85, 0, 0, 0, 0)) (by decide +kernel))).trans ?_
            exact rfl
        · refine (hb_blk [(.aload_n 0, 1, 0, 0, 0, 0, 0), (.iconst 2, 1, 0, 0, 0, 2, 0)] (pe := 68) (gs := []) (loc' := [.ref 54, .int x1, .int x2, .int x3]) (stk' := [.int 2, .ref 54]) (σ' := σ) (by decide +kernel) rfl).trans ?_
          refine hb_Vv (hb_fe_ok (r := (.invokevirtual 151, 3, 124, 1, 0, 0, 0)) (by decide +kernel)) (by decide +kernel) (as := [.int 2]) (v := .ref 54) (rest := []) rfl rfl (Nat.le_of_ble_eq_true rfl) (fun σ68 => ?_)
          refine (hb_blk [(.aload_n 0, 1, 0, 0, 0, 0, 0), (.aload_n 0, 1, 0, 0, 0, 0, 0), (.getfield 133, 3, 12, 27, 0, 0, 0), (.iconst 3, 1, 0, 0, 0, 3, 0)] (pe := 77) (gs := []) (loc' := [.ref 54, .int x1, .int x2, .int x3]) (stk' := [.int 3, .int (σ68 54 27), .ref 54]) (σ' := σ68) (by decide +kernel) rfl).trans ?_
          refine hb_br (hb_fe_ok (r := (.if_icmp .ne 7, 3, 84, 0, 0, 0, 0)) (by decide +kernel)) rfl ?_ ?_
          · refine (hb_blk [(.iconst 0, 1, 0, 0, 0, 0, 0)] (pe := 85) (gs := []) (loc' := [.ref 54, .int x1, .int x2, .int x3]) (stk' := [.int 0, .ref 54]) (σ' := σ68) (by decide +kernel) rfl).trans ?_
            exact rfl
          · refine (hb_blk [(.iconst 1, 1, 0, 0, 0, 1, 0)] (pe := 81) (gs := []) (loc' := [.ref 54, .int x1, .int x2, .int x3]) (stk' := [.int 1, .ref 54]) (σ' := σ68) (by decide +kernel) rfl).trans ?_
            refine (hb_r_goto (hb_fe_ok (r := (.goto 4, 3, 85, 0, 0, 0, 0)) (by decide +kernel))).trans ?_
            exact rfl
    · refine (hb_blk [(.bipush 10, 2, 0, 0, 0, 10, 0), (.iload_n 2, 1, 2, 0, 0, 0, 0), (.imul, 1, 0, 0, 0, 0, 0), (.aload_n 0, 1, 0, 0, 0, 0, 0), (.getfield 46, 3, 12, 22, 0, 0, 0), (.iload_n 3, 1, 3, 0, 0, 0, 0), (.iaload, 1, 0, 0, 0, 0, 0), (.iadd, 1, 0, 0, 0, 0, 0), (.bipush 48, 2, 0, 0, 0, 48, 0), (.isub, 1, 0, 0, 0, 0, 0), (.istore_n 2, 1, 2, 0, 0, 0, 0), (.iinc 3 1, 3, 3, 0, 0, 1, 0)] (pe := 50) (gs := [hb_in x3 400]) (loc' := [.ref 54, .int x1, .int ((((10 : Int32) * x2) + (σ 67 (Int32.toNatClampNeg x3))) - (48 : Int32)), .int (x3 + (1 : Int32))]) (stk' := []) (σ' := σ) (by decide +kernel) rfl).trans ?_
      refine congrArg (hb_g _) ?_
      refine (hb_r_goto (hb_fe_ok (r := (.goto (-34), 3, 16, 0, 0, 0, 0)) (by decide +kernel))).trans ?_
      exact rfl
set_option maxRecDepth 8000 in
theorem e127_85  (σ : hbM) (x1 : Int32) (x2 : Int32) (x3 : Int32) (s0 : Int32) : hb_run hbSH 127 (85, [.ref 54, .int x1, .int x2, .int x3], [.int s0, .ref 54], σ) = hb_cv (hb_ev hbSH 125 [.ref 54, .int s0] σ) (fun σ85 => some (some (.int x2), σ85)) := by
  refine hb_Vv (hb_fe_ok (r := (.invokevirtual 158, 3, 125, 1, 0, 0, 0)) (by decide +kernel)) (by decide +kernel) (as := [.int s0]) (v := .ref 54) (rest := []) rfl rfl (Nat.le_of_ble_eq_true rfl) (fun σ85 => ?_)
  refine (hb_blk [(.iload_n 2, 1, 2, 0, 0, 0, 0)] (pe := 89) (gs := []) (loc' := [.ref 54, .int x1, .int x2, .int x3]) (stk' := [.int x2]) (σ' := σ85) (by decide +kernel) rfl).trans ?_
  exact hb_r_iret (hb_fe_ok (r := (.ireturn, 1, 0, 0, 0, 0, 0)) (by decide +kernel))
set_option maxRecDepth 8000 in
theorem e128_0  (σ : hbM) : hb_run hbSH 128 (0, [.ref 54, .null, .null], [], σ) = hb_cl (hb_ev hbSH 126 [.ref 54] σ) (fun y1 σ1 => if (¬ (lg_cmp y1 1869636974) = (0 : Int32)) then (if (¬ (lg_cmp y1 1936225652) = (0 : Int32)) then (if (¬ (lg_cmp y1 418263299685) = (0 : Int32)) then (if (¬ (lg_cmp y1 422608400247) = (0 : Int32)) then (if (¬ (lg_cmp y1 2002872692) = (0 : Int32)) then (if (¬ (lg_cmp y1 26982) = (0 : Int32)) then (if (¬ (lg_cmp y1 26479) = (0 : Int32)) then (if (¬ (lg_cmp y1 6647396) = (0 : Int32)) then (some (some (.int (-1000000)), σ1)) else (some (some (.int 7), σ1))) else (some (some (.int 6), σ1))) else (some (some (.int 5), σ1))) else (some (some (.int 4), σ1))) else (some (some (.int 3), σ1))) else (some (some (.int 2), σ1))) else (some (some (.int 1), σ1))) else (some (some (.int 0), σ1))) := by
  refine (hb_blk [(.aload_n 0, 1, 0, 0, 0, 0, 0)] (pe := 1) (gs := []) (loc' := [.ref 54, .null, .null]) (stk' := [.ref 54]) (σ' := σ) (by decide +kernel) rfl).trans ?_
  refine hb_Vl (hb_fe_ok (r := (.invokevirtual 162, 3, 126, 0, 0, 0, 0)) (by decide +kernel)) (by decide +kernel) (as := []) (v := .ref 54) (rest := []) rfl rfl (Nat.le_of_ble_eq_true rfl) (fun y1 σ1 => ?_)
  refine (hb_blk [(.lstore_n 1, 1, 1, 0, 0, 0, 0), (.lload_n 1, 1, 1, 0, 0, 0, 0), (.ldc2_w 166, 3, 0, 0, 0, 0, 1869636974), (.lcmp, 1, 0, 0, 0, 0, 0)] (pe := 10) (gs := []) (loc' := [.ref 54, .long y1, .null]) (stk' := [.int (lg_cmp y1 1869636974)]) (σ' := σ1) (by decide +kernel) rfl).trans ?_
  refine hb_br0 (hb_fe_ok (r := (.ifCond .ne 7, 3, 17, 0, 0, 0, 0)) (by decide +kernel)) rfl ?_ ?_
  · refine (hb_blk [(.lload_n 1, 1, 1, 0, 0, 0, 0), (.ldc2_w 168, 3, 0, 0, 0, 0, 1936225652), (.lcmp, 1, 0, 0, 0, 0, 0)] (pe := 22) (gs := []) (loc' := [.ref 54, .long y1, .null]) (stk' := [.int (lg_cmp y1 1936225652)]) (σ' := σ1) (by decide +kernel) rfl).trans ?_
    refine hb_br0 (hb_fe_ok (r := (.ifCond .ne 7, 3, 29, 0, 0, 0, 0)) (by decide +kernel)) rfl ?_ ?_
    · refine (hb_blk [(.lload_n 1, 1, 1, 0, 0, 0, 0), (.ldc2_w 170, 3, 0, 0, 0, 0, 418263299685), (.lcmp, 1, 0, 0, 0, 0, 0)] (pe := 34) (gs := []) (loc' := [.ref 54, .long y1, .null]) (stk' := [.int (lg_cmp y1 418263299685)]) (σ' := σ1) (by decide +kernel) rfl).trans ?_
      refine hb_br0 (hb_fe_ok (r := (.ifCond .ne 7, 3, 41, 0, 0, 0, 0)) (by decide +kernel)) rfl ?_ ?_
      · refine (hb_blk [(.lload_n 1, 1, 1, 0, 0, 0, 0), (.ldc2_w 172, 3, 0, 0, 0, 0, 422608400247), (.lcmp, 1, 0, 0, 0, 0, 0)] (pe := 46) (gs := []) (loc' := [.ref 54, .long y1, .null]) (stk' := [.int (lg_cmp y1 422608400247)]) (σ' := σ1) (by decide +kernel) rfl).trans ?_
        refine hb_br0 (hb_fe_ok (r := (.ifCond .ne 7, 3, 53, 0, 0, 0, 0)) (by decide +kernel)) rfl ?_ ?_
        · refine (hb_blk [(.lload_n 1, 1, 1, 0, 0, 0, 0), (.ldc2_w 174, 3, 0, 0, 0, 0, 2002872692), (.lcmp, 1, 0, 0, 0, 0, 0)] (pe := 58) (gs := []) (loc' := [.ref 54, .long y1, .null]) (stk' := [.int (lg_cmp y1 2002872692)]) (σ' := σ1) (by decide +kernel) rfl).trans ?_
          refine hb_br0 (hb_fe_ok (r := (.ifCond .ne 7, 3, 65, 0, 0, 0, 0)) (by decide +kernel)) rfl ?_ ?_
          · refine (hb_blk [(.lload_n 1, 1, 1, 0, 0, 0, 0), (.ldc2_w 176, 3, 0, 0, 0, 0, 26982), (.lcmp, 1, 0, 0, 0, 0, 0)] (pe := 70) (gs := []) (loc' := [.ref 54, .long y1, .null]) (stk' := [.int (lg_cmp y1 26982)]) (σ' := σ1) (by decide +kernel) rfl).trans ?_
            refine hb_br0 (hb_fe_ok (r := (.ifCond .ne 7, 3, 77, 0, 0, 0, 0)) (by decide +kernel)) rfl ?_ ?_
            · refine (hb_blk [(.lload_n 1, 1, 1, 0, 0, 0, 0), (.ldc2_w 178, 3, 0, 0, 0, 0, 26479), (.lcmp, 1, 0, 0, 0, 0, 0)] (pe := 82) (gs := []) (loc' := [.ref 54, .long y1, .null]) (stk' := [.int (lg_cmp y1 26479)]) (σ' := σ1) (by decide +kernel) rfl).trans ?_
              refine hb_br0 (hb_fe_ok (r := (.ifCond .ne 8, 3, 90, 0, 0, 0, 0)) (by decide +kernel)) rfl ?_ ?_
              · refine (hb_blk [(.lload_n 1, 1, 1, 0, 0, 0, 0), (.ldc2_w 180, 3, 0, 0, 0, 0, 6647396), (.lcmp, 1, 0, 0, 0, 0, 0)] (pe := 95) (gs := []) (loc' := [.ref 54, .long y1, .null]) (stk' := [.int (lg_cmp y1 6647396)]) (σ' := σ1) (by decide +kernel) rfl).trans ?_
                refine hb_br0 (hb_fe_ok (r := (.ifCond .ne 8, 3, 103, 0, 0, 0, 0)) (by decide +kernel)) rfl ?_ ?_
                · refine (hb_blk [(.ldc 123, 2, 0, 0, 0, (-1000000), 0)] (pe := 105) (gs := []) (loc' := [.ref 54, .long y1, .null]) (stk' := [.int (-1000000)]) (σ' := σ1) (by decide +kernel) rfl).trans ?_
                  exact hb_r_iret (hb_fe_ok (r := (.ireturn, 1, 0, 0, 0, 0, 0)) (by decide +kernel))
                · refine (hb_blk [(.bipush 7, 2, 0, 0, 0, 7, 0)] (pe := 100) (gs := []) (loc' := [.ref 54, .long y1, .null]) (stk' := [.int 7]) (σ' := σ1) (by decide +kernel) rfl).trans ?_
                  refine (hb_r_goto (hb_fe_ok (r := (.goto 5, 3, 105, 0, 0, 0, 0)) (by decide +kernel))).trans ?_
                  exact hb_r_iret (hb_fe_ok (r := (.ireturn, 1, 0, 0, 0, 0, 0)) (by decide +kernel))
              · refine (hb_blk [(.bipush 6, 2, 0, 0, 0, 6, 0)] (pe := 87) (gs := []) (loc' := [.ref 54, .long y1, .null]) (stk' := [.int 6]) (σ' := σ1) (by decide +kernel) rfl).trans ?_
                refine (hb_r_goto (hb_fe_ok (r := (.goto 18, 3, 105, 0, 0, 0, 0)) (by decide +kernel))).trans ?_
                exact hb_r_iret (hb_fe_ok (r := (.ireturn, 1, 0, 0, 0, 0, 0)) (by decide +kernel))
            · refine (hb_blk [(.iconst 5, 1, 0, 0, 0, 5, 0)] (pe := 74) (gs := []) (loc' := [.ref 54, .long y1, .null]) (stk' := [.int 5]) (σ' := σ1) (by decide +kernel) rfl).trans ?_
              refine (hb_r_goto (hb_fe_ok (r := (.goto 31, 3, 105, 0, 0, 0, 0)) (by decide +kernel))).trans ?_
              exact hb_r_iret (hb_fe_ok (r := (.ireturn, 1, 0, 0, 0, 0, 0)) (by decide +kernel))
          · refine (hb_blk [(.iconst 4, 1, 0, 0, 0, 4, 0)] (pe := 62) (gs := []) (loc' := [.ref 54, .long y1, .null]) (stk' := [.int 4]) (σ' := σ1) (by decide +kernel) rfl).trans ?_
            refine (hb_r_goto (hb_fe_ok (r := (.goto 43, 3, 105, 0, 0, 0, 0)) (by decide +kernel))).trans ?_
            exact hb_r_iret (hb_fe_ok (r := (.ireturn, 1, 0, 0, 0, 0, 0)) (by decide +kernel))
        · refine (hb_blk [(.iconst 3, 1, 0, 0, 0, 3, 0)] (pe := 50) (gs := []) (loc' := [.ref 54, .long y1, .null]) (stk' := [.int 3]) (σ' := σ1) (by decide +kernel) rfl).trans ?_
          refine (hb_r_goto (hb_fe_ok (r := (.goto 55, 3, 105, 0, 0, 0, 0)) (by decide +kernel))).trans ?_
          exact hb_r_iret (hb_fe_ok (r := (.ireturn, 1, 0, 0, 0, 0, 0)) (by decide +kernel))
      · refine (hb_blk [(.iconst 2, 1, 0, 0, 0, 2, 0)] (pe := 38) (gs := []) (loc' := [.ref 54, .long y1, .null]) (stk' := [.int 2]) (σ' := σ1) (by decide +kernel) rfl).trans ?_
        refine (hb_r_goto (hb_fe_ok (r := (.goto 67, 3, 105, 0, 0, 0, 0)) (by decide +kernel))).trans ?_
        exact hb_r_iret (hb_fe_ok (r := (.ireturn, 1, 0, 0, 0, 0, 0)) (by decide +kernel))
    · refine (hb_blk [(.iconst 1, 1, 0, 0, 0, 1, 0)] (pe := 26) (gs := []) (loc' := [.ref 54, .long y1, .null]) (stk' := [.int 1]) (σ' := σ1) (by decide +kernel) rfl).trans ?_
      refine (hb_r_goto (hb_fe_ok (r := (.goto 79, 3, 105, 0, 0, 0, 0)) (by decide +kernel))).trans ?_
      exact hb_r_iret (hb_fe_ok (r := (.ireturn, 1, 0, 0, 0, 0, 0)) (by decide +kernel))
  · refine (hb_blk [(.iconst 0, 1, 0, 0, 0, 0, 0)] (pe := 14) (gs := []) (loc' := [.ref 54, .long y1, .null]) (stk' := [.int 0]) (σ' := σ1) (by decide +kernel) rfl).trans ?_
    refine (hb_r_goto (hb_fe_ok (r := (.goto 91, 3, 105, 0, 0, 0, 0)) (by decide +kernel))).trans ?_
    exact hb_r_iret (hb_fe_ok (r := (.ireturn, 1, 0, 0, 0, 0, 0)) (by decide +kernel))
set_option maxRecDepth 8000 in
theorem e129_0  (σ : hbM) (x1 : Int32) : hb_run hbSH 129 (0, [.ref 54, .int x1, .null, .null, .null], [], σ) = if ((σ 54 30) ≤ (0 : Int32)) then (hb_ci (hb_ev hbSH 128 [.ref 54] σ) (fun y9 σ9 => hb_ci (hb_ev hbSH 112 [.long (Int32.toInt64 y9), .long 0, .long 3] σ9) (fun y20 σ20 => hb_cv (hb_ev hbSH 125 [.ref 54, .int y20] σ20) (fun σ23 => if ((2 : Int32) ≤ y9) then (hb_run hbSH 129 (37, [.ref 54, .int x1, .int y9, .null, .null], [.int 1, .ref 54], σ23)) else (hb_run hbSH 129 (37, [.ref 54, .int x1, .int y9, .null, .null], [.int 3, .ref 54], σ23)))))) else (some (none, σ)) := by
  refine (hb_blk [(.aload_n 0, 1, 0, 0, 0, 0, 0), (.getfield 145, 3, 12, 30, 0, 0, 0)] (pe := 4) (gs := []) (loc' := [.ref 54, .int x1, .null, .null, .null]) (stk' := [.int (σ 54 30)]) (σ' := σ) (by decide +kernel) rfl).trans ?_
  refine hb_br0 (hb_fe_ok (r := (.ifCond .le 4, 3, 8, 0, 0, 0, 0)) (by decide +kernel)) rfl ?_ ?_
  · refine (hb_blk [(.aload_n 0, 1, 0, 0, 0, 0, 0)] (pe := 9) (gs := []) (loc' := [.ref 54, .int x1, .null, .null, .null]) (stk' := [.ref 54]) (σ' := σ) (by decide +kernel) rfl).trans ?_
    refine hb_Vi (hb_fe_ok (r := (.invokevirtual 182, 3, 128, 0, 0, 0, 0)) (by decide +kernel)) (by decide +kernel) (as := []) (v := .ref 54) (rest := []) rfl rfl (Nat.le_of_ble_eq_true rfl) (fun y9 σ9 => ?_)
    refine (hb_blk [(.istore_n 2, 1, 2, 0, 0, 0, 0), (.aload_n 0, 1, 0, 0, 0, 0, 0), (.iload_n 2, 1, 2, 0, 0, 0, 0), (.i2l, 1, 0, 0, 0, 0, 0), (.lconst 0, 1, 0, 0, 0, 0, 0), (.ldc2_w 186, 3, 0, 0, 0, 0, 3)] (pe := 20) (gs := []) (loc' := [.ref 54, .int x1, .int y9, .null, .null]) (stk' := [.long 3, .long 0, .long (Int32.toInt64 y9), .ref 54]) (σ' := σ9) (by decide +kernel) rfl).trans ?_
    refine hb_Si (hb_fe_ok (r := (.invokestatic 97, 3, 112, 3, 0, 0, 0)) (by decide +kernel)) (by decide) (by decide +kernel) (as := [.long (Int32.toInt64 y9), .long 0, .long 3]) (rest := [.ref 54]) rfl (Nat.le_of_ble_eq_true rfl) (fun y20 σ20 => ?_)
    refine hb_Vv (hb_fe_ok (r := (.invokevirtual 158, 3, 125, 1, 0, 0, 0)) (by decide +kernel)) (by decide +kernel) (as := [.int y20]) (v := .ref 54) (rest := []) rfl rfl (Nat.le_of_ble_eq_true rfl) (fun σ23 => ?_)
    refine (hb_blk [(.aload_n 0, 1, 0, 0, 0, 0, 0), (.iload_n 2, 1, 2, 0, 0, 0, 0), (.iconst 2, 1, 0, 0, 0, 2, 0)] (pe := 29) (gs := []) (loc' := [.ref 54, .int x1, .int y9, .null, .null]) (stk' := [.int 2, .int y9, .ref 54]) (σ' := σ23) (by decide +kernel) rfl).trans ?_
    refine hb_br (hb_fe_ok (r := (.if_icmp .ge 7, 3, 36, 0, 0, 0, 0)) (by decide +kernel)) rfl ?_ ?_
    · refine (hb_blk [(.iconst 1, 1, 0, 0, 0, 1, 0)] (pe := 37) (gs := []) (loc' := [.ref 54, .int x1, .int y9, .null, .null]) (stk' := [.int 1, .ref 54]) (σ' := σ23) (by decide +kernel) rfl).trans ?_
      exact rfl
    · refine (hb_blk [(.iconst 3, 1, 0, 0, 0, 3, 0)] (pe := 33) (gs := []) (loc' := [.ref 54, .int x1, .int y9, .null, .null]) (stk' := [.int 3, .ref 54]) (σ' := σ23) (by decide +kernel) rfl).trans ?_
      refine (hb_r_goto (hb_fe_ok (r := (.goto 4, 3, 37, 0, 0, 0, 0)) (by decide +kernel))).trans ?_
      exact rfl
  · exact hb_r_vret (hb_fe_ok (r := (.return_, 1, 0, 0, 0, 0, 0)) (by decide +kernel))
set_option maxRecDepth 8000 in
theorem e129_37  (σ : hbM) (x1 : Int32) (x2 : Int32) (s0 : Int32) : hb_run hbSH 129 (37, [.ref 54, .int x1, .int x2, .null, .null], [.int s0, .ref 54], σ) = hb_ci (hb_ev hbSH 127 [.ref 54, .int s0] σ) (fun y37 σ37 => if ((2 : Int32) ≤ x2) then (hb_ci (hb_ev hbSH 127 [.ref 54, .int 7] σ37) (fun y53 σ53 => if (¬ (σ53 54 30) = (0 : Int32)) then (some (none, σ53)) else (hb_g [hb_in x1 40, hb_in x1 40, hb_in x1 40] (some (none, (hb_up (hb_up (hb_up σ53 62 (Int32.toNatClampNeg x1) x2) 63 (Int32.toNatClampNeg x1) y37) 64 (Int32.toNatClampNeg x1) y53)))))) else (if (¬ (σ37 54 30) = (0 : Int32)) then (some (none, σ37)) else (hb_g [hb_in x1 40, hb_in x1 40, hb_in x1 40] (some (none, (hb_up (hb_up (hb_up σ37 62 (Int32.toNatClampNeg x1) x2) 63 (Int32.toNatClampNeg x1) y37) 64 (Int32.toNatClampNeg x1) 0)))))) := by
  refine hb_Vi (hb_fe_ok (r := (.invokevirtual 188, 3, 127, 1, 0, 0, 0)) (by decide +kernel)) (by decide +kernel) (as := [.int s0]) (v := .ref 54) (rest := []) rfl rfl (Nat.le_of_ble_eq_true rfl) (fun y37 σ37 => ?_)
  refine (hb_blk [(.istore_n 3, 1, 3, 0, 0, 0, 0), (.iload_n 2, 1, 2, 0, 0, 0, 0), (.iconst 2, 1, 0, 0, 0, 2, 0)] (pe := 43) (gs := []) (loc' := [.ref 54, .int x1, .int x2, .int y37, .null]) (stk' := [.int 2, .int x2]) (σ' := σ37) (by decide +kernel) rfl).trans ?_
  refine hb_br (hb_fe_ok (r := (.if_icmp .ge 7, 3, 50, 0, 0, 0, 0)) (by decide +kernel)) rfl ?_ ?_
  · refine (hb_blk [(.aload_n 0, 1, 0, 0, 0, 0, 0), (.bipush 7, 2, 0, 0, 0, 7, 0)] (pe := 53) (gs := []) (loc' := [.ref 54, .int x1, .int x2, .int y37, .null]) (stk' := [.int 7, .ref 54]) (σ' := σ37) (by decide +kernel) rfl).trans ?_
    refine hb_Vi (hb_fe_ok (r := (.invokevirtual 188, 3, 127, 1, 0, 0, 0)) (by decide +kernel)) (by decide +kernel) (as := [.int 7]) (v := .ref 54) (rest := []) rfl rfl (Nat.le_of_ble_eq_true rfl) (fun y53 σ53 => ?_)
    refine (hb_blk [(.istore 4, 2, 4, 0, 0, 0, 0), (.aload_n 0, 1, 0, 0, 0, 0, 0), (.getfield 145, 3, 12, 30, 0, 0, 0)] (pe := 62) (gs := []) (loc' := [.ref 54, .int x1, .int x2, .int y37, .int y53]) (stk' := [.int (σ53 54 30)]) (σ' := σ53) (by decide +kernel) rfl).trans ?_
    refine hb_br0 (hb_fe_ok (r := (.ifCond .ne 25, 3, 87, 0, 0, 0, 0)) (by decide +kernel)) rfl ?_ ?_
    · exact hb_r_vret (hb_fe_ok (r := (.return_, 1, 0, 0, 0, 0, 0)) (by decide +kernel))
    · refine (hb_blk [(.aload_n 0, 1, 0, 0, 0, 0, 0), (.getfield 31, 3, 12, 17, 0, 0, 0), (.iload_n 1, 1, 1, 0, 0, 0, 0), (.iload_n 2, 1, 2, 0, 0, 0, 0), (.iastore, 1, 0, 0, 0, 0, 0), (.aload_n 0, 1, 0, 0, 0, 0, 0), (.getfield 34, 3, 12, 18, 0, 0, 0), (.iload_n 1, 1, 1, 0, 0, 0, 0), (.iload_n 3, 1, 3, 0, 0, 0, 0), (.iastore, 1, 0, 0, 0, 0, 0), (.aload_n 0, 1, 0, 0, 0, 0, 0), (.getfield 37, 3, 12, 19, 0, 0, 0), (.iload_n 1, 1, 1, 0, 0, 0, 0), (.iload 4, 2, 4, 0, 0, 0, 0), (.iastore, 1, 0, 0, 0, 0, 0)] (pe := 87) (gs := [hb_in x1 40, hb_in x1 40, hb_in x1 40]) (loc' := [.ref 54, .int x1, .int x2, .int y37, .int y53]) (stk' := []) (σ' := (hb_up (hb_up (hb_up σ53 62 (Int32.toNatClampNeg x1) x2) 63 (Int32.toNatClampNeg x1) y37) 64 (Int32.toNatClampNeg x1) y53)) (by decide +kernel) rfl).trans ?_
      refine congrArg (hb_g _) ?_
      exact hb_r_vret (hb_fe_ok (r := (.return_, 1, 0, 0, 0, 0, 0)) (by decide +kernel))
  · refine (hb_blk [(.iconst 0, 1, 0, 0, 0, 0, 0)] (pe := 47) (gs := []) (loc' := [.ref 54, .int x1, .int x2, .int y37, .null]) (stk' := [.int 0]) (σ' := σ37) (by decide +kernel) rfl).trans ?_
    refine (hb_r_goto (hb_fe_ok (r := (.goto 9, 3, 56, 0, 0, 0, 0)) (by decide +kernel))).trans ?_
    refine (hb_blk [(.istore 4, 2, 4, 0, 0, 0, 0), (.aload_n 0, 1, 0, 0, 0, 0, 0), (.getfield 145, 3, 12, 30, 0, 0, 0)] (pe := 62) (gs := []) (loc' := [.ref 54, .int x1, .int x2, .int y37, .int 0]) (stk' := [.int (σ37 54 30)]) (σ' := σ37) (by decide +kernel) rfl).trans ?_
    refine hb_br0 (hb_fe_ok (r := (.ifCond .ne 25, 3, 87, 0, 0, 0, 0)) (by decide +kernel)) rfl ?_ ?_
    · exact hb_r_vret (hb_fe_ok (r := (.return_, 1, 0, 0, 0, 0, 0)) (by decide +kernel))
    · refine (hb_blk [(.aload_n 0, 1, 0, 0, 0, 0, 0), (.getfield 31, 3, 12, 17, 0, 0, 0), (.iload_n 1, 1, 1, 0, 0, 0, 0), (.iload_n 2, 1, 2, 0, 0, 0, 0), (.iastore, 1, 0, 0, 0, 0, 0), (.aload_n 0, 1, 0, 0, 0, 0, 0), (.getfield 34, 3, 12, 18, 0, 0, 0), (.iload_n 1, 1, 1, 0, 0, 0, 0), (.iload_n 3, 1, 3, 0, 0, 0, 0), (.iastore, 1, 0, 0, 0, 0, 0), (.aload_n 0, 1, 0, 0, 0, 0, 0), (.getfield 37, 3, 12, 19, 0, 0, 0), (.iload_n 1, 1, 1, 0, 0, 0, 0), (.iload 4, 2, 4, 0, 0, 0, 0), (.iastore, 1, 0, 0, 0, 0, 0)] (pe := 87) (gs := [hb_in x1 40, hb_in x1 40, hb_in x1 40]) (loc' := [.ref 54, .int x1, .int x2, .int y37, .int 0]) (stk' := []) (σ' := (hb_up (hb_up (hb_up σ37 62 (Int32.toNatClampNeg x1) x2) 63 (Int32.toNatClampNeg x1) y37) 64 (Int32.toNatClampNeg x1) 0)) (by decide +kernel) rfl).trans ?_
      refine congrArg (hb_g _) ?_
      exact hb_r_vret (hb_fe_ok (r := (.return_, 1, 0, 0, 0, 0, 0)) (by decide +kernel))
set_option maxRecDepth 8000 in
theorem e130_0  (σ : hbM) (x1 : Int32) : hb_run hbSH 130 (0, [.ref 54, .int x1, .null], [], σ) = hb_g [hb_in x1 8] (hb_run hbSH 130 (9, [.ref 54, .int x1, .int 1], [], (hb_up σ 61 (Int32.toNatClampNeg x1) 0))) := by
  refine (hb_blk [(.aload_n 0, 1, 0, 0, 0, 0, 0), (.getfield 28, 3, 12, 16, 0, 0, 0), (.iload_n 1, 1, 1, 0, 0, 0, 0), (.iconst 0, 1, 0, 0, 0, 0, 0), (.iastore, 1, 0, 0, 0, 0, 0), (.iconst 1, 1, 0, 0, 0, 1, 0), (.istore_n 2, 1, 2, 0, 0, 0, 0)] (pe := 9) (gs := [hb_in x1 8]) (loc' := [.ref 54, .int x1, .int 1]) (stk' := []) (σ' := (hb_up σ 61 (Int32.toNatClampNeg x1) 0)) (by decide +kernel) rfl).trans ?_
  refine congrArg (hb_g _) ?_
  exact rfl
set_option maxRecDepth 8000 in
theorem e130_9  (σ : hbM) (x1 : Int32) (x2 : Int32) : hb_run hbSH 130 (9, [.ref 54, .int x1, .int x2], [], σ) = if (x2 = (0 : Int32)) then (some (none, σ)) else (hb_ci (hb_ev hbSH 128 [.ref 54] σ) (fun y14 σ14 => hb_ci (hb_ev hbSH 112 [.long (Int32.toInt64 y14), .long 0, .long 3] σ14) (fun y22 σ22 => if (y22 = (0 : Int32)) then (hb_run hbSH 130 (43, [.ref 54, .int x1, .int x2], [], σ22)) else (hb_g [hb_in x1 8] (if (¬ (σ22 61 (Int32.toNatClampNeg x1)) = (3 : Int32)) then (hb_run hbSH 130 (43, [.ref 54, .int x1, .int x2], [], σ22)) else (hb_cv (hb_ev hbSH 124 [.ref 54, .int 3] σ22) (fun σ40 => hb_run hbSH 130 (43, [.ref 54, .int x1, .int x2], [], σ40)))))))) := by
  refine (hb_blk [(.iload_n 2, 1, 2, 0, 0, 0, 0)] (pe := 10) (gs := []) (loc' := [.ref 54, .int x1, .int x2]) (stk' := [.int x2]) (σ' := σ) (by decide +kernel) rfl).trans ?_
  refine hb_br0 (hb_fe_ok (r := (.ifCond .eq 92, 3, 102, 0, 0, 0, 0)) (by decide +kernel)) rfl ?_ ?_
  · exact hb_r_vret (hb_fe_ok (r := (.return_, 1, 0, 0, 0, 0, 0)) (by decide +kernel))
  · refine (hb_blk [(.aload_n 0, 1, 0, 0, 0, 0, 0)] (pe := 14) (gs := []) (loc' := [.ref 54, .int x1, .int x2]) (stk' := [.ref 54]) (σ' := σ) (by decide +kernel) rfl).trans ?_
    refine hb_Vi (hb_fe_ok (r := (.invokevirtual 182, 3, 128, 0, 0, 0, 0)) (by decide +kernel)) (by decide +kernel) (as := []) (v := .ref 54) (rest := []) rfl rfl (Nat.le_of_ble_eq_true rfl) (fun y14 σ14 => ?_)
    refine (hb_blk [(.i2l, 1, 0, 0, 0, 0, 0), (.lconst 0, 1, 0, 0, 0, 0, 0), (.ldc2_w 186, 3, 0, 0, 0, 0, 3)] (pe := 22) (gs := []) (loc' := [.ref 54, .int x1, .int x2]) (stk' := [.long 3, .long 0, .long (Int32.toInt64 y14)]) (σ' := σ14) (by decide +kernel) rfl).trans ?_
    refine hb_Si (hb_fe_ok (r := (.invokestatic 97, 3, 112, 3, 0, 0, 0)) (by decide +kernel)) (by decide) (by decide +kernel) (as := [.long (Int32.toInt64 y14), .long 0, .long 3]) (rest := []) rfl (Nat.le_of_ble_eq_true rfl) (fun y22 σ22 => ?_)
    refine hb_br0 (hb_fe_ok (r := (.ifCond .eq 18, 3, 43, 0, 0, 0, 0)) (by decide +kernel)) rfl ?_ ?_
    · exact rfl
    · refine (hb_blk [(.aload_n 0, 1, 0, 0, 0, 0, 0), (.getfield 28, 3, 12, 16, 0, 0, 0), (.iload_n 1, 1, 1, 0, 0, 0, 0), (.iaload, 1, 0, 0, 0, 0, 0), (.iconst 3, 1, 0, 0, 0, 3, 0)] (pe := 35) (gs := [hb_in x1 8]) (loc' := [.ref 54, .int x1, .int x2]) (stk' := [.int 3, .int (σ22 61 (Int32.toNatClampNeg x1))]) (σ' := σ22) (by decide +kernel) rfl).trans ?_
      refine congrArg (hb_g _) ?_
      refine hb_br (hb_fe_ok (r := (.if_icmp .ne 8, 3, 43, 0, 0, 0, 0)) (by decide +kernel)) rfl ?_ ?_
      · exact rfl
      · refine (hb_blk [(.aload_n 0, 1, 0, 0, 0, 0, 0), (.iconst 3, 1, 0, 0, 0, 3, 0)] (pe := 40) (gs := []) (loc' := [.ref 54, .int x1, .int x2]) (stk' := [.int 3, .ref 54]) (σ' := σ22) (by decide +kernel) rfl).trans ?_
        refine hb_Vv (hb_fe_ok (r := (.invokevirtual 151, 3, 124, 1, 0, 0, 0)) (by decide +kernel)) (by decide +kernel) (as := [.int 3]) (v := .ref 54) (rest := []) rfl rfl (Nat.le_of_ble_eq_true rfl) (fun σ40 => ?_)
        exact rfl
set_option maxRecDepth 8000 in
theorem e130_43  (σ : hbM) (x1 : Int32) (x2 : Int32) : hb_run hbSH 130 (43, [.ref 54, .int x1, .int x2], [], σ) = hb_g [hb_in x1 8] (hb_cv (hb_ev hbSH 129 [.ref 54, .int (((3 : Int32) * x1) + (σ 61 (Int32.toNatClampNeg x1)))] σ) (fun σ54 => hb_g [hb_in x1 8, hb_in x1 8] (if (¬ (σ54 54 30) = (0 : Int32)) then (hb_run hbSH 130 (9, [.ref 54, .int x1, .int 0], [], (hb_up σ54 61 (Int32.toNatClampNeg x1) ((σ54 61 (Int32.toNatClampNeg x1)) + (1 : Int32))))) else (hb_cl (hb_ev hbSH 126 [.ref 54] (hb_up σ54 61 (Int32.toNatClampNeg x1) ((σ54 61 (Int32.toNatClampNeg x1)) + (1 : Int32)))) (fun y75 σ75 => if (¬ (lg_cmp y75 6385252) = (0 : Int32)) then (hb_run hbSH 130 (9, [.ref 54, .int x1, .int 0], [], σ75)) else (hb_cv (hb_ev hbSH 123 [.ref 54] σ75) (fun σ96 => hb_run hbSH 130 (9, [.ref 54, .int x1, .int 1], [], σ96)))))))) := by
  refine (hb_blk [(.aload_n 0, 1, 0, 0, 0, 0, 0), (.iconst 3, 1, 0, 0, 0, 3, 0), (.iload_n 1, 1, 1, 0, 0, 0, 0), (.imul, 1, 0, 0, 0, 0, 0), (.aload_n 0, 1, 0, 0, 0, 0, 0), (.getfield 28, 3, 12, 16, 0, 0, 0), (.iload_n 1, 1, 1, 0, 0, 0, 0), (.iaload, 1, 0, 0, 0, 0, 0), (.iadd, 1, 0, 0, 0, 0, 0)] (pe := 54) (gs := [hb_in x1 8]) (loc' := [.ref 54, .int x1, .int x2]) (stk' := [.int (((3 : Int32) * x1) + (σ 61 (Int32.toNatClampNeg x1))), .ref 54]) (σ' := σ) (by decide +kernel) rfl).trans ?_
  refine congrArg (hb_g _) ?_
  refine hb_Vv (hb_fe_ok (r := (.invokevirtual 191, 3, 129, 1, 0, 0, 0)) (by decide +kernel)) (by decide +kernel) (as := [.int (((3 : Int32) * x1) + (σ 61 (Int32.toNatClampNeg x1)))]) (v := .ref 54) (rest := []) rfl rfl (Nat.le_of_ble_eq_true rfl) (fun σ54 => ?_)
  refine (hb_blk [(.aload_n 0, 1, 0, 0, 0, 0, 0), (.getfield 28, 3, 12, 16, 0, 0, 0), (.iload_n 1, 1, 1, 0, 0, 0, 0), (.dup2, 1, 0, 0, 0, 0, 0), (.iaload, 1, 0, 0, 0, 0, 0), (.iconst 1, 1, 0, 0, 0, 1, 0), (.iadd, 1, 0, 0, 0, 0, 0), (.iastore, 1, 0, 0, 0, 0, 0), (.aload_n 0, 1, 0, 0, 0, 0, 0), (.getfield 145, 3, 12, 30, 0, 0, 0)] (pe := 71) (gs := [hb_in x1 8, hb_in x1 8]) (loc' := [.ref 54, .int x1, .int x2]) (stk' := [.int (σ54 54 30)]) (σ' := (hb_up σ54 61 (Int32.toNatClampNeg x1) ((σ54 61 (Int32.toNatClampNeg x1)) + (1 : Int32)))) (by decide +kernel) rfl).trans ?_
  refine congrArg (hb_g _) ?_
  refine hb_br0 (hb_fe_ok (r := (.ifCond .ne 18, 3, 89, 0, 0, 0, 0)) (by decide +kernel)) rfl ?_ ?_
  · refine (hb_blk [(.iconst 0, 1, 0, 0, 0, 0, 0)] (pe := 90) (gs := []) (loc' := [.ref 54, .int x1, .int x2]) (stk' := [.int 0]) (σ' := (hb_up σ54 61 (Int32.toNatClampNeg x1) ((σ54 61 (Int32.toNatClampNeg x1)) + (1 : Int32)))) (by decide +kernel) rfl).trans ?_
    refine (hb_blk [(.istore_n 2, 1, 2, 0, 0, 0, 0), (.iload_n 2, 1, 2, 0, 0, 0, 0)] (pe := 92) (gs := []) (loc' := [.ref 54, .int x1, .int 0]) (stk' := [.int 0]) (σ' := (hb_up σ54 61 (Int32.toNatClampNeg x1) ((σ54 61 (Int32.toNatClampNeg x1)) + (1 : Int32)))) (by decide +kernel) rfl).trans ?_
    refine hb_br0T (hb_fe_ok (r := (.ifCond .eq (-83), 3, 9, 0, 0, 0, 0)) (by decide +kernel)) (by decide) ?_
    exact rfl
  · refine (hb_blk [(.aload_n 0, 1, 0, 0, 0, 0, 0)] (pe := 75) (gs := []) (loc' := [.ref 54, .int x1, .int x2]) (stk' := [.ref 54]) (σ' := (hb_up σ54 61 (Int32.toNatClampNeg x1) ((σ54 61 (Int32.toNatClampNeg x1)) + (1 : Int32)))) (by decide +kernel) rfl).trans ?_
    refine hb_Vl (hb_fe_ok (r := (.invokevirtual 162, 3, 126, 0, 0, 0, 0)) (by decide +kernel)) (by decide +kernel) (as := []) (v := .ref 54) (rest := []) rfl rfl (Nat.le_of_ble_eq_true rfl) (fun y75 σ75 => ?_)
    refine (hb_blk [(.ldc2_w 194, 3, 0, 0, 0, 0, 6385252), (.lcmp, 1, 0, 0, 0, 0, 0)] (pe := 82) (gs := []) (loc' := [.ref 54, .int x1, .int x2]) (stk' := [.int (lg_cmp y75 6385252)]) (σ' := σ75) (by decide +kernel) rfl).trans ?_
    refine hb_br0 (hb_fe_ok (r := (.ifCond .ne 7, 3, 89, 0, 0, 0, 0)) (by decide +kernel)) rfl ?_ ?_
    · refine (hb_blk [(.iconst 0, 1, 0, 0, 0, 0, 0)] (pe := 90) (gs := []) (loc' := [.ref 54, .int x1, .int x2]) (stk' := [.int 0]) (σ' := σ75) (by decide +kernel) rfl).trans ?_
      refine (hb_blk [(.istore_n 2, 1, 2, 0, 0, 0, 0), (.iload_n 2, 1, 2, 0, 0, 0, 0)] (pe := 92) (gs := []) (loc' := [.ref 54, .int x1, .int 0]) (stk' := [.int 0]) (σ' := σ75) (by decide +kernel) rfl).trans ?_
      refine hb_br0T (hb_fe_ok (r := (.ifCond .eq (-83), 3, 9, 0, 0, 0, 0)) (by decide +kernel)) (by decide) ?_
      exact rfl
    · refine (hb_blk [(.iconst 1, 1, 0, 0, 0, 1, 0)] (pe := 86) (gs := []) (loc' := [.ref 54, .int x1, .int x2]) (stk' := [.int 1]) (σ' := σ75) (by decide +kernel) rfl).trans ?_
      refine (hb_r_goto (hb_fe_ok (r := (.goto 4, 3, 90, 0, 0, 0, 0)) (by decide +kernel))).trans ?_
      refine (hb_blk [(.istore_n 2, 1, 2, 0, 0, 0, 0), (.iload_n 2, 1, 2, 0, 0, 0, 0)] (pe := 92) (gs := []) (loc' := [.ref 54, .int x1, .int 1]) (stk' := [.int 1]) (σ' := σ75) (by decide +kernel) rfl).trans ?_
      refine hb_br0F (hb_fe_ok (r := (.ifCond .eq (-83), 3, 9, 0, 0, 0, 0)) (by decide +kernel)) (by decide) ?_
      refine (hb_blk [(.aload_n 0, 1, 0, 0, 0, 0, 0)] (pe := 96) (gs := []) (loc' := [.ref 54, .int x1, .int 1]) (stk' := [.ref 54]) (σ' := σ75) (by decide +kernel) rfl).trans ?_
      refine hb_Vv (hb_fe_ok (r := (.invokevirtual 155, 3, 123, 0, 0, 0, 0)) (by decide +kernel)) (by decide +kernel) (as := []) (v := .ref 54) (rest := []) rfl rfl (Nat.le_of_ble_eq_true rfl) (fun σ96 => ?_)
      refine (hb_r_goto (hb_fe_ok (r := (.goto (-90), 3, 9, 0, 0, 0, 0)) (by decide +kernel))).trans ?_
      exact rfl
set_option maxRecDepth 8000 in
theorem e131_0  (σ : hbM) : hb_run hbSH 131 (0, [.ref 54, .null], [], σ) = hb_ci (hb_ev hbSH 128 [.ref 54] σ) (fun y1 σ1 => if (y1 = (-1000000 : Int32)) then (hb_run hbSH 131 (27, [.ref 54, .int y1], [.int 0, .ref 54], σ1)) else (if (y1 = (2 : Int32)) then (hb_run hbSH 131 (27, [.ref 54, .int y1], [.int 0, .ref 54], σ1)) else (if (y1 = (3 : Int32)) then (hb_run hbSH 131 (27, [.ref 54, .int y1], [.int 0, .ref 54], σ1)) else (hb_run hbSH 131 (27, [.ref 54, .int y1], [.int 1, .ref 54], σ1))))) := by
  refine (hb_blk [(.aload_n 0, 1, 0, 0, 0, 0, 0)] (pe := 1) (gs := []) (loc' := [.ref 54, .null]) (stk' := [.ref 54]) (σ' := σ) (by decide +kernel) rfl).trans ?_
  refine hb_Vi (hb_fe_ok (r := (.invokevirtual 182, 3, 128, 0, 0, 0, 0)) (by decide +kernel)) (by decide +kernel) (as := []) (v := .ref 54) (rest := []) rfl rfl (Nat.le_of_ble_eq_true rfl) (fun y1 σ1 => ?_)
  refine (hb_blk [(.istore_n 1, 1, 1, 0, 0, 0, 0), (.aload_n 0, 1, 0, 0, 0, 0, 0), (.iload_n 1, 1, 1, 0, 0, 0, 0), (.ldc 123, 2, 0, 0, 0, (-1000000), 0)] (pe := 9) (gs := []) (loc' := [.ref 54, .int y1]) (stk' := [.int (-1000000), .int y1, .ref 54]) (σ' := σ1) (by decide +kernel) rfl).trans ?_
  refine hb_br (hb_fe_ok (r := (.if_icmp .eq 17, 3, 26, 0, 0, 0, 0)) (by decide +kernel)) rfl ?_ ?_
  · refine (hb_blk [(.iconst 0, 1, 0, 0, 0, 0, 0)] (pe := 27) (gs := []) (loc' := [.ref 54, .int y1]) (stk' := [.int 0, .ref 54]) (σ' := σ1) (by decide +kernel) rfl).trans ?_
    exact rfl
  · refine (hb_blk [(.iload_n 1, 1, 1, 0, 0, 0, 0), (.iconst 2, 1, 0, 0, 0, 2, 0)] (pe := 14) (gs := []) (loc' := [.ref 54, .int y1]) (stk' := [.int 2, .int y1, .ref 54]) (σ' := σ1) (by decide +kernel) rfl).trans ?_
    refine hb_br (hb_fe_ok (r := (.if_icmp .eq 12, 3, 26, 0, 0, 0, 0)) (by decide +kernel)) rfl ?_ ?_
    · refine (hb_blk [(.iconst 0, 1, 0, 0, 0, 0, 0)] (pe := 27) (gs := []) (loc' := [.ref 54, .int y1]) (stk' := [.int 0, .ref 54]) (σ' := σ1) (by decide +kernel) rfl).trans ?_
      exact rfl
    · refine (hb_blk [(.iload_n 1, 1, 1, 0, 0, 0, 0), (.iconst 3, 1, 0, 0, 0, 3, 0)] (pe := 19) (gs := []) (loc' := [.ref 54, .int y1]) (stk' := [.int 3, .int y1, .ref 54]) (σ' := σ1) (by decide +kernel) rfl).trans ?_
      refine hb_br (hb_fe_ok (r := (.if_icmp .eq 7, 3, 26, 0, 0, 0, 0)) (by decide +kernel)) rfl ?_ ?_
      · refine (hb_blk [(.iconst 0, 1, 0, 0, 0, 0, 0)] (pe := 27) (gs := []) (loc' := [.ref 54, .int y1]) (stk' := [.int 0, .ref 54]) (σ' := σ1) (by decide +kernel) rfl).trans ?_
        exact rfl
      · refine (hb_blk [(.iconst 1, 1, 0, 0, 0, 1, 0)] (pe := 23) (gs := []) (loc' := [.ref 54, .int y1]) (stk' := [.int 1, .ref 54]) (σ' := σ1) (by decide +kernel) rfl).trans ?_
        refine (hb_r_goto (hb_fe_ok (r := (.goto 4, 3, 27, 0, 0, 0, 0)) (by decide +kernel))).trans ?_
        exact rfl
set_option maxRecDepth 8000 in
theorem e131_27  (σ : hbM) (x1 : Int32) (s0 : Int32) : hb_run hbSH 131 (27, [.ref 54, .int x1], [.int s0, .ref 54], σ) = hb_cv (hb_ev hbSH 125 [.ref 54, .int s0] σ) (fun σ27 => hb_g [hb_in (σ27 54 15) 16] (if (x1 = (4 : Int32)) then (hb_run hbSH 131 (50, [.ref 54, .int x1], [], (hb_up σ27 65 (Int32.toNatClampNeg (σ27 54 15)) x1))) else (if (¬ x1 = (5 : Int32)) then (if (x1 = (4 : Int32)) then (some (none, (hb_up (hb_up σ27 65 (Int32.toNatClampNeg (σ27 54 15)) x1) 54 15 ((σ27 54 15) + (1 : Int32))))) else (if (x1 = (7 : Int32)) then (some (none, (hb_up (hb_up σ27 65 (Int32.toNatClampNeg (σ27 54 15)) x1) 54 15 ((σ27 54 15) + (1 : Int32))))) else (if ((2 : Int32) ≤ x1) then (hb_run hbSH 131 (92, [.ref 54, .int x1], [.int 15, .ref 54, .int (σ27 54 15), .ref 66], (hb_up σ27 65 (Int32.toNatClampNeg (σ27 54 15)) x1))) else (hb_run hbSH 131 (92, [.ref 54, .int x1], [.int 3, .ref 54, .int (σ27 54 15), .ref 66], (hb_up σ27 65 (Int32.toNatClampNeg (σ27 54 15)) x1)))))) else (hb_run hbSH 131 (50, [.ref 54, .int x1], [], (hb_up σ27 65 (Int32.toNatClampNeg (σ27 54 15)) x1)))))) := by
  refine hb_Vv (hb_fe_ok (r := (.invokevirtual 158, 3, 125, 1, 0, 0, 0)) (by decide +kernel)) (by decide +kernel) (as := [.int s0]) (v := .ref 54) (rest := []) rfl rfl (Nat.le_of_ble_eq_true rfl) (fun σ27 => ?_)
  refine (hb_blk [(.aload_n 0, 1, 0, 0, 0, 0, 0), (.getfield 40, 3, 12, 20, 0, 0, 0), (.aload_n 0, 1, 0, 0, 0, 0, 0), (.getfield 196, 3, 12, 15, 0, 0, 0), (.iload_n 1, 1, 1, 0, 0, 0, 0), (.iastore, 1, 0, 0, 0, 0, 0), (.iload_n 1, 1, 1, 0, 0, 0, 0), (.iconst 4, 1, 0, 0, 0, 4, 0)] (pe := 42) (gs := [hb_in (σ27 54 15) 16]) (loc' := [.ref 54, .int x1]) (stk' := [.int 4, .int x1]) (σ' := (hb_up σ27 65 (Int32.toNatClampNeg (σ27 54 15)) x1)) (by decide +kernel) rfl).trans ?_
  refine congrArg (hb_g _) ?_
  refine hb_br (hb_fe_ok (r := (.if_icmp .eq 8, 3, 50, 0, 0, 0, 0)) (by decide +kernel)) rfl ?_ ?_
  · exact rfl
  · refine (hb_blk [(.iload_n 1, 1, 1, 0, 0, 0, 0), (.iconst 5, 1, 0, 0, 0, 5, 0)] (pe := 47) (gs := []) (loc' := [.ref 54, .int x1]) (stk' := [.int 5, .int x1]) (σ' := (hb_up σ27 65 (Int32.toNatClampNeg (σ27 54 15)) x1)) (by decide +kernel) rfl).trans ?_
    refine hb_br (hb_fe_ok (r := (.if_icmp .ne 14, 3, 61, 0, 0, 0, 0)) (by decide +kernel)) rfl ?_ ?_
    · refine (hb_blk [(.iload_n 1, 1, 1, 0, 0, 0, 0), (.iconst 4, 1, 0, 0, 0, 4, 0)] (pe := 63) (gs := []) (loc' := [.ref 54, .int x1]) (stk' := [.int 4, .int x1]) (σ' := (hb_up σ27 65 (Int32.toNatClampNeg (σ27 54 15)) x1)) (by decide +kernel) rfl).trans ?_
      refine hb_br (hb_fe_ok (r := (.if_icmp .eq 33, 3, 96, 0, 0, 0, 0)) (by decide +kernel)) rfl ?_ ?_
      · refine (hb_blk [(.aload_n 0, 1, 0, 0, 0, 0, 0), (.dup, 1, 0, 0, 0, 0, 0), (.getfield 196, 3, 12, 15, 0, 0, 0), (.iconst 1, 1, 0, 0, 0, 1, 0), (.iadd, 1, 0, 0, 0, 0, 0), (.putfield 196, 3, 12, 15, 0, 0, 0)] (pe := 106) (gs := []) (loc' := [.ref 54, .int x1]) (stk' := []) (σ' := (hb_up (hb_up σ27 65 (Int32.toNatClampNeg (σ27 54 15)) x1) 54 15 ((σ27 54 15) + (1 : Int32)))) (by decide +kernel) rfl).trans ?_
        exact hb_r_vret (hb_fe_ok (r := (.return_, 1, 0, 0, 0, 0, 0)) (by decide +kernel))
      · refine (hb_blk [(.iload_n 1, 1, 1, 0, 0, 0, 0), (.bipush 7, 2, 0, 0, 0, 7, 0)] (pe := 69) (gs := []) (loc' := [.ref 54, .int x1]) (stk' := [.int 7, .int x1]) (σ' := (hb_up σ27 65 (Int32.toNatClampNeg (σ27 54 15)) x1)) (by decide +kernel) rfl).trans ?_
        refine hb_br (hb_fe_ok (r := (.if_icmp .eq 27, 3, 96, 0, 0, 0, 0)) (by decide +kernel)) rfl ?_ ?_
        · refine (hb_blk [(.aload_n 0, 1, 0, 0, 0, 0, 0), (.dup, 1, 0, 0, 0, 0, 0), (.getfield 196, 3, 12, 15, 0, 0, 0), (.iconst 1, 1, 0, 0, 0, 1, 0), (.iadd, 1, 0, 0, 0, 0, 0), (.putfield 196, 3, 12, 15, 0, 0, 0)] (pe := 106) (gs := []) (loc' := [.ref 54, .int x1]) (stk' := []) (σ' := (hb_up (hb_up σ27 65 (Int32.toNatClampNeg (σ27 54 15)) x1) 54 15 ((σ27 54 15) + (1 : Int32)))) (by decide +kernel) rfl).trans ?_
          exact hb_r_vret (hb_fe_ok (r := (.return_, 1, 0, 0, 0, 0, 0)) (by decide +kernel))
        · refine (hb_blk [(.aload_n 0, 1, 0, 0, 0, 0, 0), (.getfield 43, 3, 12, 21, 0, 0, 0), (.aload_n 0, 1, 0, 0, 0, 0, 0), (.getfield 196, 3, 12, 15, 0, 0, 0), (.aload_n 0, 1, 0, 0, 0, 0, 0), (.iload_n 1, 1, 1, 0, 0, 0, 0), (.iconst 2, 1, 0, 0, 0, 2, 0)] (pe := 83) (gs := []) (loc' := [.ref 54, .int x1]) (stk' := [.int 2, .int x1, .ref 54, .int (σ27 54 15), .ref 66]) (σ' := (hb_up σ27 65 (Int32.toNatClampNeg (σ27 54 15)) x1)) (by decide +kernel) rfl).trans ?_
          refine hb_br (hb_fe_ok (r := (.if_icmp .ge 7, 3, 90, 0, 0, 0, 0)) (by decide +kernel)) rfl ?_ ?_
          · refine (hb_blk [(.bipush 15, 2, 0, 0, 0, 15, 0)] (pe := 92) (gs := []) (loc' := [.ref 54, .int x1]) (stk' := [.int 15, .ref 54, .int (σ27 54 15), .ref 66]) (σ' := (hb_up σ27 65 (Int32.toNatClampNeg (σ27 54 15)) x1)) (by decide +kernel) rfl).trans ?_
            exact rfl
          · refine (hb_blk [(.iconst 3, 1, 0, 0, 0, 3, 0)] (pe := 87) (gs := []) (loc' := [.ref 54, .int x1]) (stk' := [.int 3, .ref 54, .int (σ27 54 15), .ref 66]) (σ' := (hb_up σ27 65 (Int32.toNatClampNeg (σ27 54 15)) x1)) (by decide +kernel) rfl).trans ?_
            refine (hb_r_goto (hb_fe_ok (r := (.goto 5, 3, 92, 0, 0, 0, 0)) (by decide +kernel))).trans ?_
            exact rfl
    · exact rfl
set_option maxRecDepth 8000 in
theorem e131_50  (σ : hbM) (x1 : Int32) : hb_run hbSH 131 (50, [.ref 54, .int x1], [], σ) = hb_cv (hb_ev hbSH 129 [.ref 54, .int ((24 : Int32) + (σ 54 15))] σ) (fun σ58 => if (x1 = (4 : Int32)) then (some (none, (hb_up σ58 54 15 ((σ58 54 15) + (1 : Int32))))) else (if (x1 = (7 : Int32)) then (some (none, (hb_up σ58 54 15 ((σ58 54 15) + (1 : Int32))))) else (if ((2 : Int32) ≤ x1) then (hb_run hbSH 131 (92, [.ref 54, .int x1], [.int 15, .ref 54, .int (σ58 54 15), .ref 66], σ58)) else (hb_run hbSH 131 (92, [.ref 54, .int x1], [.int 3, .ref 54, .int (σ58 54 15), .ref 66], σ58))))) := by
  refine (hb_blk [(.aload_n 0, 1, 0, 0, 0, 0, 0), (.bipush 24, 2, 0, 0, 0, 24, 0), (.aload_n 0, 1, 0, 0, 0, 0, 0), (.getfield 196, 3, 12, 15, 0, 0, 0), (.iadd, 1, 0, 0, 0, 0, 0)] (pe := 58) (gs := []) (loc' := [.ref 54, .int x1]) (stk' := [.int ((24 : Int32) + (σ 54 15)), .ref 54]) (σ' := σ) (by decide +kernel) rfl).trans ?_
  refine hb_Vv (hb_fe_ok (r := (.invokevirtual 191, 3, 129, 1, 0, 0, 0)) (by decide +kernel)) (by decide +kernel) (as := [.int ((24 : Int32) + (σ 54 15))]) (v := .ref 54) (rest := []) rfl rfl (Nat.le_of_ble_eq_true rfl) (fun σ58 => ?_)
  refine (hb_blk [(.iload_n 1, 1, 1, 0, 0, 0, 0), (.iconst 4, 1, 0, 0, 0, 4, 0)] (pe := 63) (gs := []) (loc' := [.ref 54, .int x1]) (stk' := [.int 4, .int x1]) (σ' := σ58) (by decide +kernel) rfl).trans ?_
  refine hb_br (hb_fe_ok (r := (.if_icmp .eq 33, 3, 96, 0, 0, 0, 0)) (by decide +kernel)) rfl ?_ ?_
  · refine (hb_blk [(.aload_n 0, 1, 0, 0, 0, 0, 0), (.dup, 1, 0, 0, 0, 0, 0), (.getfield 196, 3, 12, 15, 0, 0, 0), (.iconst 1, 1, 0, 0, 0, 1, 0), (.iadd, 1, 0, 0, 0, 0, 0), (.putfield 196, 3, 12, 15, 0, 0, 0)] (pe := 106) (gs := []) (loc' := [.ref 54, .int x1]) (stk' := []) (σ' := (hb_up σ58 54 15 ((σ58 54 15) + (1 : Int32)))) (by decide +kernel) rfl).trans ?_
    exact hb_r_vret (hb_fe_ok (r := (.return_, 1, 0, 0, 0, 0, 0)) (by decide +kernel))
  · refine (hb_blk [(.iload_n 1, 1, 1, 0, 0, 0, 0), (.bipush 7, 2, 0, 0, 0, 7, 0)] (pe := 69) (gs := []) (loc' := [.ref 54, .int x1]) (stk' := [.int 7, .int x1]) (σ' := σ58) (by decide +kernel) rfl).trans ?_
    refine hb_br (hb_fe_ok (r := (.if_icmp .eq 27, 3, 96, 0, 0, 0, 0)) (by decide +kernel)) rfl ?_ ?_
    · refine (hb_blk [(.aload_n 0, 1, 0, 0, 0, 0, 0), (.dup, 1, 0, 0, 0, 0, 0), (.getfield 196, 3, 12, 15, 0, 0, 0), (.iconst 1, 1, 0, 0, 0, 1, 0), (.iadd, 1, 0, 0, 0, 0, 0), (.putfield 196, 3, 12, 15, 0, 0, 0)] (pe := 106) (gs := []) (loc' := [.ref 54, .int x1]) (stk' := []) (σ' := (hb_up σ58 54 15 ((σ58 54 15) + (1 : Int32)))) (by decide +kernel) rfl).trans ?_
      exact hb_r_vret (hb_fe_ok (r := (.return_, 1, 0, 0, 0, 0, 0)) (by decide +kernel))
    · refine (hb_blk [(.aload_n 0, 1, 0, 0, 0, 0, 0), (.getfield 43, 3, 12, 21, 0, 0, 0), (.aload_n 0, 1, 0, 0, 0, 0, 0), (.getfield 196, 3, 12, 15, 0, 0, 0), (.aload_n 0, 1, 0, 0, 0, 0, 0), (.iload_n 1, 1, 1, 0, 0, 0, 0), (.iconst 2, 1, 0, 0, 0, 2, 0)] (pe := 83) (gs := []) (loc' := [.ref 54, .int x1]) (stk' := [.int 2, .int x1, .ref 54, .int (σ58 54 15), .ref 66]) (σ' := σ58) (by decide +kernel) rfl).trans ?_
      refine hb_br (hb_fe_ok (r := (.if_icmp .ge 7, 3, 90, 0, 0, 0, 0)) (by decide +kernel)) rfl ?_ ?_
      · refine (hb_blk [(.bipush 15, 2, 0, 0, 0, 15, 0)] (pe := 92) (gs := []) (loc' := [.ref 54, .int x1]) (stk' := [.int 15, .ref 54, .int (σ58 54 15), .ref 66]) (σ' := σ58) (by decide +kernel) rfl).trans ?_
        exact rfl
      · refine (hb_blk [(.iconst 3, 1, 0, 0, 0, 3, 0)] (pe := 87) (gs := []) (loc' := [.ref 54, .int x1]) (stk' := [.int 3, .ref 54, .int (σ58 54 15), .ref 66]) (σ' := σ58) (by decide +kernel) rfl).trans ?_
        refine (hb_r_goto (hb_fe_ok (r := (.goto 5, 3, 92, 0, 0, 0, 0)) (by decide +kernel))).trans ?_
        exact rfl
set_option maxRecDepth 8000 in
theorem e131_92  (σ : hbM) (x1 : Int32) (s0 : Int32) (s2 : Int32) : hb_run hbSH 131 (92, [.ref 54, .int x1], [.int s0, .ref 54, .int s2, .ref 66], σ) = hb_ci (hb_ev hbSH 127 [.ref 54, .int s0] σ) (fun y92 σ92 => hb_g [hb_in s2 16] (some (none, (hb_up (hb_up σ92 66 (Int32.toNatClampNeg s2) y92) 54 15 ((σ92 54 15) + (1 : Int32)))))) := by
  refine hb_Vi (hb_fe_ok (r := (.invokevirtual 188, 3, 127, 1, 0, 0, 0)) (by decide +kernel)) (by decide +kernel) (as := [.int s0]) (v := .ref 54) (rest := [.int s2, .ref 66]) rfl rfl (Nat.le_of_ble_eq_true rfl) (fun y92 σ92 => ?_)
  refine (hb_blk [(.iastore, 1, 0, 0, 0, 0, 0)] (pe := 96) (gs := [hb_in s2 16]) (loc' := [.ref 54, .int x1]) (stk' := []) (σ' := (hb_up σ92 66 (Int32.toNatClampNeg s2) y92)) (by decide +kernel) rfl).trans ?_
  refine congrArg (hb_g _) ?_
  refine (hb_blk [(.aload_n 0, 1, 0, 0, 0, 0, 0), (.dup, 1, 0, 0, 0, 0, 0), (.getfield 196, 3, 12, 15, 0, 0, 0), (.iconst 1, 1, 0, 0, 0, 1, 0), (.iadd, 1, 0, 0, 0, 0, 0), (.putfield 196, 3, 12, 15, 0, 0, 0)] (pe := 106) (gs := []) (loc' := [.ref 54, .int x1]) (stk' := []) (σ' := (hb_up (hb_up σ92 66 (Int32.toNatClampNeg s2) y92) 54 15 ((σ92 54 15) + (1 : Int32)))) (by decide +kernel) rfl).trans ?_
  exact hb_r_vret (hb_fe_ok (r := (.return_, 1, 0, 0, 0, 0, 0)) (by decide +kernel))
set_option maxRecDepth 8000 in
theorem e132_0  (σ : hbM) : hb_run hbSH 132 (0, [.ref 54, .null, .null], [], σ) = hb_cl (hb_ev hbSH 126 [.ref 54] σ) (fun y1 σ1 => if (¬ (lg_cmp y1 1718382455) = (0 : Int32)) then (if (¬ (lg_cmp y1 6447460) = (0 : Int32)) then (if (¬ (lg_cmp y1 1735356260) = (0 : Int32)) then (if (¬ (lg_cmp y1 1937007984) = (0 : Int32)) then (if ((lg_cmp y1 1718382455) = (0 : Int32)) then (hb_run hbSH 132 (109, [.ref 54, .long y1, .null], [.ref 54], σ1)) else (if ((lg_cmp y1 6447460) = (0 : Int32)) then (hb_run hbSH 132 (109, [.ref 54, .long y1, .null], [.ref 54], σ1)) else (if ((lg_cmp y1 1735356260) = (0 : Int32)) then (hb_run hbSH 132 (109, [.ref 54, .long y1, .null], [.ref 54], σ1)) else (if (¬ (lg_cmp y1 1937007984) = (0 : Int32)) then (hb_run hbSH 132 (114, [.ref 54, .long y1, .null], [.int 0, .ref 54], σ1)) else (hb_run hbSH 132 (109, [.ref 54, .long y1, .null], [.ref 54], σ1)))))) else (if (¬ (σ1 54 15) = (16 : Int32)) then (if ((lg_cmp y1 1718382455) = (0 : Int32)) then (hb_run hbSH 132 (109, [.ref 54, .long y1, .null], [.ref 54], σ1)) else (if ((lg_cmp y1 6447460) = (0 : Int32)) then (hb_run hbSH 132 (109, [.ref 54, .long y1, .null], [.ref 54], σ1)) else (if ((lg_cmp y1 1735356260) = (0 : Int32)) then (hb_run hbSH 132 (109, [.ref 54, .long y1, .null], [.ref 54], σ1)) else (if (¬ (lg_cmp y1 1937007984) = (0 : Int32)) then (hb_run hbSH 132 (114, [.ref 54, .long y1, .null], [.int 0, .ref 54], σ1)) else (hb_run hbSH 132 (109, [.ref 54, .long y1, .null], [.ref 54], σ1)))))) else (hb_run hbSH 132 (71, [.ref 54, .long y1, .null], [], σ1)))) else (if ((σ1 54 14) = (4 : Int32)) then (hb_run hbSH 132 (71, [.ref 54, .long y1, .null], [], σ1)) else (if (¬ (lg_cmp y1 1937007984) = (0 : Int32)) then (if ((lg_cmp y1 1718382455) = (0 : Int32)) then (hb_run hbSH 132 (109, [.ref 54, .long y1, .null], [.ref 54], σ1)) else (if ((lg_cmp y1 6447460) = (0 : Int32)) then (hb_run hbSH 132 (109, [.ref 54, .long y1, .null], [.ref 54], σ1)) else (if ((lg_cmp y1 1735356260) = (0 : Int32)) then (hb_run hbSH 132 (109, [.ref 54, .long y1, .null], [.ref 54], σ1)) else (if (¬ (lg_cmp y1 1937007984) = (0 : Int32)) then (hb_run hbSH 132 (114, [.ref 54, .long y1, .null], [.int 0, .ref 54], σ1)) else (hb_run hbSH 132 (109, [.ref 54, .long y1, .null], [.ref 54], σ1)))))) else (if (¬ (σ1 54 15) = (16 : Int32)) then (if ((lg_cmp y1 1718382455) = (0 : Int32)) then (hb_run hbSH 132 (109, [.ref 54, .long y1, .null], [.ref 54], σ1)) else (if ((lg_cmp y1 6447460) = (0 : Int32)) then (hb_run hbSH 132 (109, [.ref 54, .long y1, .null], [.ref 54], σ1)) else (if ((lg_cmp y1 1735356260) = (0 : Int32)) then (hb_run hbSH 132 (109, [.ref 54, .long y1, .null], [.ref 54], σ1)) else (if (¬ (lg_cmp y1 1937007984) = (0 : Int32)) then (hb_run hbSH 132 (114, [.ref 54, .long y1, .null], [.int 0, .ref 54], σ1)) else (hb_run hbSH 132 (109, [.ref 54, .long y1, .null], [.ref 54], σ1)))))) else (hb_run hbSH 132 (71, [.ref 54, .long y1, .null], [], σ1)))))) else (if ((σ1 54 13) = (4 : Int32)) then (hb_run hbSH 132 (71, [.ref 54, .long y1, .null], [], σ1)) else (if (¬ (lg_cmp y1 1735356260) = (0 : Int32)) then (if (¬ (lg_cmp y1 1937007984) = (0 : Int32)) then (if ((lg_cmp y1 1718382455) = (0 : Int32)) then (hb_run hbSH 132 (109, [.ref 54, .long y1, .null], [.ref 54], σ1)) else (if ((lg_cmp y1 6447460) = (0 : Int32)) then (hb_run hbSH 132 (109, [.ref 54, .long y1, .null], [.ref 54], σ1)) else (if ((lg_cmp y1 1735356260) = (0 : Int32)) then (hb_run hbSH 132 (109, [.ref 54, .long y1, .null], [.ref 54], σ1)) else (if (¬ (lg_cmp y1 1937007984) = (0 : Int32)) then (hb_run hbSH 132 (114, [.ref 54, .long y1, .null], [.int 0, .ref 54], σ1)) else (hb_run hbSH 132 (109, [.ref 54, .long y1, .null], [.ref 54], σ1)))))) else (if (¬ (σ1 54 15) = (16 : Int32)) then (if ((lg_cmp y1 1718382455) = (0 : Int32)) then (hb_run hbSH 132 (109, [.ref 54, .long y1, .null], [.ref 54], σ1)) else (if ((lg_cmp y1 6447460) = (0 : Int32)) then (hb_run hbSH 132 (109, [.ref 54, .long y1, .null], [.ref 54], σ1)) else (if ((lg_cmp y1 1735356260) = (0 : Int32)) then (hb_run hbSH 132 (109, [.ref 54, .long y1, .null], [.ref 54], σ1)) else (if (¬ (lg_cmp y1 1937007984) = (0 : Int32)) then (hb_run hbSH 132 (114, [.ref 54, .long y1, .null], [.int 0, .ref 54], σ1)) else (hb_run hbSH 132 (109, [.ref 54, .long y1, .null], [.ref 54], σ1)))))) else (hb_run hbSH 132 (71, [.ref 54, .long y1, .null], [], σ1)))) else (if ((σ1 54 14) = (4 : Int32)) then (hb_run hbSH 132 (71, [.ref 54, .long y1, .null], [], σ1)) else (if (¬ (lg_cmp y1 1937007984) = (0 : Int32)) then (if ((lg_cmp y1 1718382455) = (0 : Int32)) then (hb_run hbSH 132 (109, [.ref 54, .long y1, .null], [.ref 54], σ1)) else (if ((lg_cmp y1 6447460) = (0 : Int32)) then (hb_run hbSH 132 (109, [.ref 54, .long y1, .null], [.ref 54], σ1)) else (if ((lg_cmp y1 1735356260) = (0 : Int32)) then (hb_run hbSH 132 (109, [.ref 54, .long y1, .null], [.ref 54], σ1)) else (if (¬ (lg_cmp y1 1937007984) = (0 : Int32)) then (hb_run hbSH 132 (114, [.ref 54, .long y1, .null], [.int 0, .ref 54], σ1)) else (hb_run hbSH 132 (109, [.ref 54, .long y1, .null], [.ref 54], σ1)))))) else (if (¬ (σ1 54 15) = (16 : Int32)) then (if ((lg_cmp y1 1718382455) = (0 : Int32)) then (hb_run hbSH 132 (109, [.ref 54, .long y1, .null], [.ref 54], σ1)) else (if ((lg_cmp y1 6447460) = (0 : Int32)) then (hb_run hbSH 132 (109, [.ref 54, .long y1, .null], [.ref 54], σ1)) else (if ((lg_cmp y1 1735356260) = (0 : Int32)) then (hb_run hbSH 132 (109, [.ref 54, .long y1, .null], [.ref 54], σ1)) else (if (¬ (lg_cmp y1 1937007984) = (0 : Int32)) then (hb_run hbSH 132 (114, [.ref 54, .long y1, .null], [.int 0, .ref 54], σ1)) else (hb_run hbSH 132 (109, [.ref 54, .long y1, .null], [.ref 54], σ1)))))) else (hb_run hbSH 132 (71, [.ref 54, .long y1, .null], [], σ1)))))))) else (if ((σ1 54 12) = (8 : Int32)) then (hb_run hbSH 132 (71, [.ref 54, .long y1, .null], [], σ1)) else (if (¬ (lg_cmp y1 6447460) = (0 : Int32)) then (if (¬ (lg_cmp y1 1735356260) = (0 : Int32)) then (if (¬ (lg_cmp y1 1937007984) = (0 : Int32)) then (if ((lg_cmp y1 1718382455) = (0 : Int32)) then (hb_run hbSH 132 (109, [.ref 54, .long y1, .null], [.ref 54], σ1)) else (if ((lg_cmp y1 6447460) = (0 : Int32)) then (hb_run hbSH 132 (109, [.ref 54, .long y1, .null], [.ref 54], σ1)) else (if ((lg_cmp y1 1735356260) = (0 : Int32)) then (hb_run hbSH 132 (109, [.ref 54, .long y1, .null], [.ref 54], σ1)) else (if (¬ (lg_cmp y1 1937007984) = (0 : Int32)) then (hb_run hbSH 132 (114, [.ref 54, .long y1, .null], [.int 0, .ref 54], σ1)) else (hb_run hbSH 132 (109, [.ref 54, .long y1, .null], [.ref 54], σ1)))))) else (if (¬ (σ1 54 15) = (16 : Int32)) then (if ((lg_cmp y1 1718382455) = (0 : Int32)) then (hb_run hbSH 132 (109, [.ref 54, .long y1, .null], [.ref 54], σ1)) else (if ((lg_cmp y1 6447460) = (0 : Int32)) then (hb_run hbSH 132 (109, [.ref 54, .long y1, .null], [.ref 54], σ1)) else (if ((lg_cmp y1 1735356260) = (0 : Int32)) then (hb_run hbSH 132 (109, [.ref 54, .long y1, .null], [.ref 54], σ1)) else (if (¬ (lg_cmp y1 1937007984) = (0 : Int32)) then (hb_run hbSH 132 (114, [.ref 54, .long y1, .null], [.int 0, .ref 54], σ1)) else (hb_run hbSH 132 (109, [.ref 54, .long y1, .null], [.ref 54], σ1)))))) else (hb_run hbSH 132 (71, [.ref 54, .long y1, .null], [], σ1)))) else (if ((σ1 54 14) = (4 : Int32)) then (hb_run hbSH 132 (71, [.ref 54, .long y1, .null], [], σ1)) else (if (¬ (lg_cmp y1 1937007984) = (0 : Int32)) then (if ((lg_cmp y1 1718382455) = (0 : Int32)) then (hb_run hbSH 132 (109, [.ref 54, .long y1, .null], [.ref 54], σ1)) else (if ((lg_cmp y1 6447460) = (0 : Int32)) then (hb_run hbSH 132 (109, [.ref 54, .long y1, .null], [.ref 54], σ1)) else (if ((lg_cmp y1 1735356260) = (0 : Int32)) then (hb_run hbSH 132 (109, [.ref 54, .long y1, .null], [.ref 54], σ1)) else (if (¬ (lg_cmp y1 1937007984) = (0 : Int32)) then (hb_run hbSH 132 (114, [.ref 54, .long y1, .null], [.int 0, .ref 54], σ1)) else (hb_run hbSH 132 (109, [.ref 54, .long y1, .null], [.ref 54], σ1)))))) else (if (¬ (σ1 54 15) = (16 : Int32)) then (if ((lg_cmp y1 1718382455) = (0 : Int32)) then (hb_run hbSH 132 (109, [.ref 54, .long y1, .null], [.ref 54], σ1)) else (if ((lg_cmp y1 6447460) = (0 : Int32)) then (hb_run hbSH 132 (109, [.ref 54, .long y1, .null], [.ref 54], σ1)) else (if ((lg_cmp y1 1735356260) = (0 : Int32)) then (hb_run hbSH 132 (109, [.ref 54, .long y1, .null], [.ref 54], σ1)) else (if (¬ (lg_cmp y1 1937007984) = (0 : Int32)) then (hb_run hbSH 132 (114, [.ref 54, .long y1, .null], [.int 0, .ref 54], σ1)) else (hb_run hbSH 132 (109, [.ref 54, .long y1, .null], [.ref 54], σ1)))))) else (hb_run hbSH 132 (71, [.ref 54, .long y1, .null], [], σ1)))))) else (if ((σ1 54 13) = (4 : Int32)) then (hb_run hbSH 132 (71, [.ref 54, .long y1, .null], [], σ1)) else (if (¬ (lg_cmp y1 1735356260) = (0 : Int32)) then (if (¬ (lg_cmp y1 1937007984) = (0 : Int32)) then (if ((lg_cmp y1 1718382455) = (0 : Int32)) then (hb_run hbSH 132 (109, [.ref 54, .long y1, .null], [.ref 54], σ1)) else (if ((lg_cmp y1 6447460) = (0 : Int32)) then (hb_run hbSH 132 (109, [.ref 54, .long y1, .null], [.ref 54], σ1)) else (if ((lg_cmp y1 1735356260) = (0 : Int32)) then (hb_run hbSH 132 (109, [.ref 54, .long y1, .null], [.ref 54], σ1)) else (if (¬ (lg_cmp y1 1937007984) = (0 : Int32)) then (hb_run hbSH 132 (114, [.ref 54, .long y1, .null], [.int 0, .ref 54], σ1)) else (hb_run hbSH 132 (109, [.ref 54, .long y1, .null], [.ref 54], σ1)))))) else (if (¬ (σ1 54 15) = (16 : Int32)) then (if ((lg_cmp y1 1718382455) = (0 : Int32)) then (hb_run hbSH 132 (109, [.ref 54, .long y1, .null], [.ref 54], σ1)) else (if ((lg_cmp y1 6447460) = (0 : Int32)) then (hb_run hbSH 132 (109, [.ref 54, .long y1, .null], [.ref 54], σ1)) else (if ((lg_cmp y1 1735356260) = (0 : Int32)) then (hb_run hbSH 132 (109, [.ref 54, .long y1, .null], [.ref 54], σ1)) else (if (¬ (lg_cmp y1 1937007984) = (0 : Int32)) then (hb_run hbSH 132 (114, [.ref 54, .long y1, .null], [.int 0, .ref 54], σ1)) else (hb_run hbSH 132 (109, [.ref 54, .long y1, .null], [.ref 54], σ1)))))) else (hb_run hbSH 132 (71, [.ref 54, .long y1, .null], [], σ1)))) else (if ((σ1 54 14) = (4 : Int32)) then (hb_run hbSH 132 (71, [.ref 54, .long y1, .null], [], σ1)) else (if (¬ (lg_cmp y1 1937007984) = (0 : Int32)) then (if ((lg_cmp y1 1718382455) = (0 : Int32)) then (hb_run hbSH 132 (109, [.ref 54, .long y1, .null], [.ref 54], σ1)) else (if ((lg_cmp y1 6447460) = (0 : Int32)) then (hb_run hbSH 132 (109, [.ref 54, .long y1, .null], [.ref 54], σ1)) else (if ((lg_cmp y1 1735356260) = (0 : Int32)) then (hb_run hbSH 132 (109, [.ref 54, .long y1, .null], [.ref 54], σ1)) else (if (¬ (lg_cmp y1 1937007984) = (0 : Int32)) then (hb_run hbSH 132 (114, [.ref 54, .long y1, .null], [.int 0, .ref 54], σ1)) else (hb_run hbSH 132 (109, [.ref 54, .long y1, .null], [.ref 54], σ1)))))) else (if (¬ (σ1 54 15) = (16 : Int32)) then (if ((lg_cmp y1 1718382455) = (0 : Int32)) then (hb_run hbSH 132 (109, [.ref 54, .long y1, .null], [.ref 54], σ1)) else (if ((lg_cmp y1 6447460) = (0 : Int32)) then (hb_run hbSH 132 (109, [.ref 54, .long y1, .null], [.ref 54], σ1)) else (if ((lg_cmp y1 1735356260) = (0 : Int32)) then (hb_run hbSH 132 (109, [.ref 54, .long y1, .null], [.ref 54], σ1)) else (if (¬ (lg_cmp y1 1937007984) = (0 : Int32)) then (hb_run hbSH 132 (114, [.ref 54, .long y1, .null], [.int 0, .ref 54], σ1)) else (hb_run hbSH 132 (109, [.ref 54, .long y1, .null], [.ref 54], σ1)))))) else (hb_run hbSH 132 (71, [.ref 54, .long y1, .null], [], σ1)))))))))) := by
  refine (hb_blk [(.aload_n 0, 1, 0, 0, 0, 0, 0)] (pe := 1) (gs := []) (loc' := [.ref 54, .null, .null]) (stk' := [.ref 54]) (σ' := σ) (by decide +kernel) rfl).trans ?_
  refine hb_Vl (hb_fe_ok (r := (.invokevirtual 162, 3, 126, 0, 0, 0, 0)) (by decide +kernel)) (by decide +kernel) (as := []) (v := .ref 54) (rest := []) rfl rfl (Nat.le_of_ble_eq_true rfl) (fun y1 σ1 => ?_)
  refine (hb_blk [(.lstore_n 1, 1, 1, 0, 0, 0, 0), (.lload_n 1, 1, 1, 0, 0, 0, 0), (.ldc2_w 199, 3, 0, 0, 0, 0, 1718382455), (.lcmp, 1, 0, 0, 0, 0, 0)] (pe := 10) (gs := []) (loc' := [.ref 54, .long y1, .null]) (stk' := [.int (lg_cmp y1 1718382455)]) (σ' := σ1) (by decide +kernel) rfl).trans ?_
  refine hb_br0 (hb_fe_ok (r := (.ifCond .ne 12, 3, 22, 0, 0, 0, 0)) (by decide +kernel)) rfl ?_ ?_
  · refine (hb_blk [(.lload_n 1, 1, 1, 0, 0, 0, 0), (.ldc2_w 204, 3, 0, 0, 0, 0, 6447460), (.lcmp, 1, 0, 0, 0, 0, 0)] (pe := 27) (gs := []) (loc' := [.ref 54, .long y1, .null]) (stk' := [.int (lg_cmp y1 6447460)]) (σ' := σ1) (by decide +kernel) rfl).trans ?_
    refine hb_br0 (hb_fe_ok (r := (.ifCond .ne 11, 3, 38, 0, 0, 0, 0)) (by decide +kernel)) rfl ?_ ?_
    · refine (hb_blk [(.lload_n 1, 1, 1, 0, 0, 0, 0), (.ldc2_w 209, 3, 0, 0, 0, 0, 1735356260), (.lcmp, 1, 0, 0, 0, 0, 0)] (pe := 43) (gs := []) (loc' := [.ref 54, .long y1, .null]) (stk' := [.int (lg_cmp y1 1735356260)]) (σ' := σ1) (by decide +kernel) rfl).trans ?_
      refine hb_br0 (hb_fe_ok (r := (.ifCond .ne 11, 3, 54, 0, 0, 0, 0)) (by decide +kernel)) rfl ?_ ?_
      · refine (hb_blk [(.lload_n 1, 1, 1, 0, 0, 0, 0), (.ldc2_w 214, 3, 0, 0, 0, 0, 1937007984), (.lcmp, 1, 0, 0, 0, 0, 0)] (pe := 59) (gs := []) (loc' := [.ref 54, .long y1, .null]) (stk' := [.int (lg_cmp y1 1937007984)]) (σ' := σ1) (by decide +kernel) rfl).trans ?_
        refine hb_br0 (hb_fe_ok (r := (.ifCond .ne 17, 3, 76, 0, 0, 0, 0)) (by decide +kernel)) rfl ?_ ?_
        · refine (hb_blk [(.aload_n 0, 1, 0, 0, 0, 0, 0), (.lload_n 1, 1, 1, 0, 0, 0, 0), (.ldc2_w 199, 3, 0, 0, 0, 0, 1718382455), (.lcmp, 1, 0, 0, 0, 0, 0)] (pe := 82) (gs := []) (loc' := [.ref 54, .long y1, .null]) (stk' := [.int (lg_cmp y1 1718382455), .ref 54]) (σ' := σ1) (by decide +kernel) rfl).trans ?_
          refine hb_br0 (hb_fe_ok (r := (.ifCond .eq 27, 3, 109, 0, 0, 0, 0)) (by decide +kernel)) rfl ?_ ?_
          · exact rfl
          · refine (hb_blk [(.lload_n 1, 1, 1, 0, 0, 0, 0), (.ldc2_w 204, 3, 0, 0, 0, 0, 6447460), (.lcmp, 1, 0, 0, 0, 0, 0)] (pe := 90) (gs := []) (loc' := [.ref 54, .long y1, .null]) (stk' := [.int (lg_cmp y1 6447460), .ref 54]) (σ' := σ1) (by decide +kernel) rfl).trans ?_
            refine hb_br0 (hb_fe_ok (r := (.ifCond .eq 19, 3, 109, 0, 0, 0, 0)) (by decide +kernel)) rfl ?_ ?_
            · exact rfl
            · refine (hb_blk [(.lload_n 1, 1, 1, 0, 0, 0, 0), (.ldc2_w 209, 3, 0, 0, 0, 0, 1735356260), (.lcmp, 1, 0, 0, 0, 0, 0)] (pe := 98) (gs := []) (loc' := [.ref 54, .long y1, .null]) (stk' := [.int (lg_cmp y1 1735356260), .ref 54]) (σ' := σ1) (by decide +kernel) rfl).trans ?_
              refine hb_br0 (hb_fe_ok (r := (.ifCond .eq 11, 3, 109, 0, 0, 0, 0)) (by decide +kernel)) rfl ?_ ?_
              · exact rfl
              · refine (hb_blk [(.lload_n 1, 1, 1, 0, 0, 0, 0), (.ldc2_w 214, 3, 0, 0, 0, 0, 1937007984), (.lcmp, 1, 0, 0, 0, 0, 0)] (pe := 106) (gs := []) (loc' := [.ref 54, .long y1, .null]) (stk' := [.int (lg_cmp y1 1937007984), .ref 54]) (σ' := σ1) (by decide +kernel) rfl).trans ?_
                refine hb_br0 (hb_fe_ok (r := (.ifCond .ne 7, 3, 113, 0, 0, 0, 0)) (by decide +kernel)) rfl ?_ ?_
                · refine (hb_blk [(.iconst 0, 1, 0, 0, 0, 0, 0)] (pe := 114) (gs := []) (loc' := [.ref 54, .long y1, .null]) (stk' := [.int 0, .ref 54]) (σ' := σ1) (by decide +kernel) rfl).trans ?_
                  exact rfl
                · exact rfl
        · refine (hb_blk [(.aload_n 0, 1, 0, 0, 0, 0, 0), (.getfield 196, 3, 12, 15, 0, 0, 0), (.bipush 16, 2, 0, 0, 0, 16, 0)] (pe := 68) (gs := []) (loc' := [.ref 54, .long y1, .null]) (stk' := [.int 16, .int (σ1 54 15)]) (σ' := σ1) (by decide +kernel) rfl).trans ?_
          refine hb_br (hb_fe_ok (r := (.if_icmp .ne 8, 3, 76, 0, 0, 0, 0)) (by decide +kernel)) rfl ?_ ?_
          · refine (hb_blk [(.aload_n 0, 1, 0, 0, 0, 0, 0), (.lload_n 1, 1, 1, 0, 0, 0, 0), (.ldc2_w 199, 3, 0, 0, 0, 0, 1718382455), (.lcmp, 1, 0, 0, 0, 0, 0)] (pe := 82) (gs := []) (loc' := [.ref 54, .long y1, .null]) (stk' := [.int (lg_cmp y1 1718382455), .ref 54]) (σ' := σ1) (by decide +kernel) rfl).trans ?_
            refine hb_br0 (hb_fe_ok (r := (.ifCond .eq 27, 3, 109, 0, 0, 0, 0)) (by decide +kernel)) rfl ?_ ?_
            · exact rfl
            · refine (hb_blk [(.lload_n 1, 1, 1, 0, 0, 0, 0), (.ldc2_w 204, 3, 0, 0, 0, 0, 6447460), (.lcmp, 1, 0, 0, 0, 0, 0)] (pe := 90) (gs := []) (loc' := [.ref 54, .long y1, .null]) (stk' := [.int (lg_cmp y1 6447460), .ref 54]) (σ' := σ1) (by decide +kernel) rfl).trans ?_
              refine hb_br0 (hb_fe_ok (r := (.ifCond .eq 19, 3, 109, 0, 0, 0, 0)) (by decide +kernel)) rfl ?_ ?_
              · exact rfl
              · refine (hb_blk [(.lload_n 1, 1, 1, 0, 0, 0, 0), (.ldc2_w 209, 3, 0, 0, 0, 0, 1735356260), (.lcmp, 1, 0, 0, 0, 0, 0)] (pe := 98) (gs := []) (loc' := [.ref 54, .long y1, .null]) (stk' := [.int (lg_cmp y1 1735356260), .ref 54]) (σ' := σ1) (by decide +kernel) rfl).trans ?_
                refine hb_br0 (hb_fe_ok (r := (.ifCond .eq 11, 3, 109, 0, 0, 0, 0)) (by decide +kernel)) rfl ?_ ?_
                · exact rfl
                · refine (hb_blk [(.lload_n 1, 1, 1, 0, 0, 0, 0), (.ldc2_w 214, 3, 0, 0, 0, 0, 1937007984), (.lcmp, 1, 0, 0, 0, 0, 0)] (pe := 106) (gs := []) (loc' := [.ref 54, .long y1, .null]) (stk' := [.int (lg_cmp y1 1937007984), .ref 54]) (σ' := σ1) (by decide +kernel) rfl).trans ?_
                  refine hb_br0 (hb_fe_ok (r := (.ifCond .ne 7, 3, 113, 0, 0, 0, 0)) (by decide +kernel)) rfl ?_ ?_
                  · refine (hb_blk [(.iconst 0, 1, 0, 0, 0, 0, 0)] (pe := 114) (gs := []) (loc' := [.ref 54, .long y1, .null]) (stk' := [.int 0, .ref 54]) (σ' := σ1) (by decide +kernel) rfl).trans ?_
                    exact rfl
                  · exact rfl
          · exact rfl
      · refine (hb_blk [(.aload_n 0, 1, 0, 0, 0, 0, 0), (.getfield 211, 3, 12, 14, 0, 0, 0), (.iconst 4, 1, 0, 0, 0, 4, 0)] (pe := 51) (gs := []) (loc' := [.ref 54, .long y1, .null]) (stk' := [.int 4, .int (σ1 54 14)]) (σ' := σ1) (by decide +kernel) rfl).trans ?_
        refine hb_br (hb_fe_ok (r := (.if_icmp .eq 20, 3, 71, 0, 0, 0, 0)) (by decide +kernel)) rfl ?_ ?_
        · exact rfl
        · refine (hb_blk [(.lload_n 1, 1, 1, 0, 0, 0, 0), (.ldc2_w 214, 3, 0, 0, 0, 0, 1937007984), (.lcmp, 1, 0, 0, 0, 0, 0)] (pe := 59) (gs := []) (loc' := [.ref 54, .long y1, .null]) (stk' := [.int (lg_cmp y1 1937007984)]) (σ' := σ1) (by decide +kernel) rfl).trans ?_
          refine hb_br0 (hb_fe_ok (r := (.ifCond .ne 17, 3, 76, 0, 0, 0, 0)) (by decide +kernel)) rfl ?_ ?_
          · refine (hb_blk [(.aload_n 0, 1, 0, 0, 0, 0, 0), (.lload_n 1, 1, 1, 0, 0, 0, 0), (.ldc2_w 199, 3, 0, 0, 0, 0, 1718382455), (.lcmp, 1, 0, 0, 0, 0, 0)] (pe := 82) (gs := []) (loc' := [.ref 54, .long y1, .null]) (stk' := [.int (lg_cmp y1 1718382455), .ref 54]) (σ' := σ1) (by decide +kernel) rfl).trans ?_
            refine hb_br0 (hb_fe_ok (r := (.ifCond .eq 27, 3, 109, 0, 0, 0, 0)) (by decide +kernel)) rfl ?_ ?_
            · exact rfl
            · refine (hb_blk [(.lload_n 1, 1, 1, 0, 0, 0, 0), (.ldc2_w 204, 3, 0, 0, 0, 0, 6447460), (.lcmp, 1, 0, 0, 0, 0, 0)] (pe := 90) (gs := []) (loc' := [.ref 54, .long y1, .null]) (stk' := [.int (lg_cmp y1 6447460), .ref 54]) (σ' := σ1) (by decide +kernel) rfl).trans ?_
              refine hb_br0 (hb_fe_ok (r := (.ifCond .eq 19, 3, 109, 0, 0, 0, 0)) (by decide +kernel)) rfl ?_ ?_
              · exact rfl
              · refine (hb_blk [(.lload_n 1, 1, 1, 0, 0, 0, 0), (.ldc2_w 209, 3, 0, 0, 0, 0, 1735356260), (.lcmp, 1, 0, 0, 0, 0, 0)] (pe := 98) (gs := []) (loc' := [.ref 54, .long y1, .null]) (stk' := [.int (lg_cmp y1 1735356260), .ref 54]) (σ' := σ1) (by decide +kernel) rfl).trans ?_
                refine hb_br0 (hb_fe_ok (r := (.ifCond .eq 11, 3, 109, 0, 0, 0, 0)) (by decide +kernel)) rfl ?_ ?_
                · exact rfl
                · refine (hb_blk [(.lload_n 1, 1, 1, 0, 0, 0, 0), (.ldc2_w 214, 3, 0, 0, 0, 0, 1937007984), (.lcmp, 1, 0, 0, 0, 0, 0)] (pe := 106) (gs := []) (loc' := [.ref 54, .long y1, .null]) (stk' := [.int (lg_cmp y1 1937007984), .ref 54]) (σ' := σ1) (by decide +kernel) rfl).trans ?_
                  refine hb_br0 (hb_fe_ok (r := (.ifCond .ne 7, 3, 113, 0, 0, 0, 0)) (by decide +kernel)) rfl ?_ ?_
                  · refine (hb_blk [(.iconst 0, 1, 0, 0, 0, 0, 0)] (pe := 114) (gs := []) (loc' := [.ref 54, .long y1, .null]) (stk' := [.int 0, .ref 54]) (σ' := σ1) (by decide +kernel) rfl).trans ?_
                    exact rfl
                  · exact rfl
          · refine (hb_blk [(.aload_n 0, 1, 0, 0, 0, 0, 0), (.getfield 196, 3, 12, 15, 0, 0, 0), (.bipush 16, 2, 0, 0, 0, 16, 0)] (pe := 68) (gs := []) (loc' := [.ref 54, .long y1, .null]) (stk' := [.int 16, .int (σ1 54 15)]) (σ' := σ1) (by decide +kernel) rfl).trans ?_
            refine hb_br (hb_fe_ok (r := (.if_icmp .ne 8, 3, 76, 0, 0, 0, 0)) (by decide +kernel)) rfl ?_ ?_
            · refine (hb_blk [(.aload_n 0, 1, 0, 0, 0, 0, 0), (.lload_n 1, 1, 1, 0, 0, 0, 0), (.ldc2_w 199, 3, 0, 0, 0, 0, 1718382455), (.lcmp, 1, 0, 0, 0, 0, 0)] (pe := 82) (gs := []) (loc' := [.ref 54, .long y1, .null]) (stk' := [.int (lg_cmp y1 1718382455), .ref 54]) (σ' := σ1) (by decide +kernel) rfl).trans ?_
              refine hb_br0 (hb_fe_ok (r := (.ifCond .eq 27, 3, 109, 0, 0, 0, 0)) (by decide +kernel)) rfl ?_ ?_
              · exact rfl
              · refine (hb_blk [(.lload_n 1, 1, 1, 0, 0, 0, 0), (.ldc2_w 204, 3, 0, 0, 0, 0, 6447460), (.lcmp, 1, 0, 0, 0, 0, 0)] (pe := 90) (gs := []) (loc' := [.ref 54, .long y1, .null]) (stk' := [.int (lg_cmp y1 6447460), .ref 54]) (σ' := σ1) (by decide +kernel) rfl).trans ?_
                refine hb_br0 (hb_fe_ok (r := (.ifCond .eq 19, 3, 109, 0, 0, 0, 0)) (by decide +kernel)) rfl ?_ ?_
                · exact rfl
                · refine (hb_blk [(.lload_n 1, 1, 1, 0, 0, 0, 0), (.ldc2_w 209, 3, 0, 0, 0, 0, 1735356260), (.lcmp, 1, 0, 0, 0, 0, 0)] (pe := 98) (gs := []) (loc' := [.ref 54, .long y1, .null]) (stk' := [.int (lg_cmp y1 1735356260), .ref 54]) (σ' := σ1) (by decide +kernel) rfl).trans ?_
                  refine hb_br0 (hb_fe_ok (r := (.ifCond .eq 11, 3, 109, 0, 0, 0, 0)) (by decide +kernel)) rfl ?_ ?_
                  · exact rfl
                  · refine (hb_blk [(.lload_n 1, 1, 1, 0, 0, 0, 0), (.ldc2_w 214, 3, 0, 0, 0, 0, 1937007984), (.lcmp, 1, 0, 0, 0, 0, 0)] (pe := 106) (gs := []) (loc' := [.ref 54, .long y1, .null]) (stk' := [.int (lg_cmp y1 1937007984), .ref 54]) (σ' := σ1) (by decide +kernel) rfl).trans ?_
                    refine hb_br0 (hb_fe_ok (r := (.ifCond .ne 7, 3, 113, 0, 0, 0, 0)) (by decide +kernel)) rfl ?_ ?_
                    · refine (hb_blk [(.iconst 0, 1, 0, 0, 0, 0, 0)] (pe := 114) (gs := []) (loc' := [.ref 54, .long y1, .null]) (stk' := [.int 0, .ref 54]) (σ' := σ1) (by decide +kernel) rfl).trans ?_
                      exact rfl
                    · exact rfl
            · exact rfl
    · refine (hb_blk [(.aload_n 0, 1, 0, 0, 0, 0, 0), (.getfield 206, 3, 12, 13, 0, 0, 0), (.iconst 4, 1, 0, 0, 0, 4, 0)] (pe := 35) (gs := []) (loc' := [.ref 54, .long y1, .null]) (stk' := [.int 4, .int (σ1 54 13)]) (σ' := σ1) (by decide +kernel) rfl).trans ?_
      refine hb_br (hb_fe_ok (r := (.if_icmp .eq 36, 3, 71, 0, 0, 0, 0)) (by decide +kernel)) rfl ?_ ?_
      · exact rfl
      · refine (hb_blk [(.lload_n 1, 1, 1, 0, 0, 0, 0), (.ldc2_w 209, 3, 0, 0, 0, 0, 1735356260), (.lcmp, 1, 0, 0, 0, 0, 0)] (pe := 43) (gs := []) (loc' := [.ref 54, .long y1, .null]) (stk' := [.int (lg_cmp y1 1735356260)]) (σ' := σ1) (by decide +kernel) rfl).trans ?_
        refine hb_br0 (hb_fe_ok (r := (.ifCond .ne 11, 3, 54, 0, 0, 0, 0)) (by decide +kernel)) rfl ?_ ?_
        · refine (hb_blk [(.lload_n 1, 1, 1, 0, 0, 0, 0), (.ldc2_w 214, 3, 0, 0, 0, 0, 1937007984), (.lcmp, 1, 0, 0, 0, 0, 0)] (pe := 59) (gs := []) (loc' := [.ref 54, .long y1, .null]) (stk' := [.int (lg_cmp y1 1937007984)]) (σ' := σ1) (by decide +kernel) rfl).trans ?_
          refine hb_br0 (hb_fe_ok (r := (.ifCond .ne 17, 3, 76, 0, 0, 0, 0)) (by decide +kernel)) rfl ?_ ?_
          · refine (hb_blk [(.aload_n 0, 1, 0, 0, 0, 0, 0), (.lload_n 1, 1, 1, 0, 0, 0, 0), (.ldc2_w 199, 3, 0, 0, 0, 0, 1718382455), (.lcmp, 1, 0, 0, 0, 0, 0)] (pe := 82) (gs := []) (loc' := [.ref 54, .long y1, .null]) (stk' := [.int (lg_cmp y1 1718382455), .ref 54]) (σ' := σ1) (by decide +kernel) rfl).trans ?_
            refine hb_br0 (hb_fe_ok (r := (.ifCond .eq 27, 3, 109, 0, 0, 0, 0)) (by decide +kernel)) rfl ?_ ?_
            · exact rfl
            · refine (hb_blk [(.lload_n 1, 1, 1, 0, 0, 0, 0), (.ldc2_w 204, 3, 0, 0, 0, 0, 6447460), (.lcmp, 1, 0, 0, 0, 0, 0)] (pe := 90) (gs := []) (loc' := [.ref 54, .long y1, .null]) (stk' := [.int (lg_cmp y1 6447460), .ref 54]) (σ' := σ1) (by decide +kernel) rfl).trans ?_
              refine hb_br0 (hb_fe_ok (r := (.ifCond .eq 19, 3, 109, 0, 0, 0, 0)) (by decide +kernel)) rfl ?_ ?_
              · exact rfl
              · refine (hb_blk [(.lload_n 1, 1, 1, 0, 0, 0, 0), (.ldc2_w 209, 3, 0, 0, 0, 0, 1735356260), (.lcmp, 1, 0, 0, 0, 0, 0)] (pe := 98) (gs := []) (loc' := [.ref 54, .long y1, .null]) (stk' := [.int (lg_cmp y1 1735356260), .ref 54]) (σ' := σ1) (by decide +kernel) rfl).trans ?_
                refine hb_br0 (hb_fe_ok (r := (.ifCond .eq 11, 3, 109, 0, 0, 0, 0)) (by decide +kernel)) rfl ?_ ?_
                · exact rfl
                · refine (hb_blk [(.lload_n 1, 1, 1, 0, 0, 0, 0), (.ldc2_w 214, 3, 0, 0, 0, 0, 1937007984), (.lcmp, 1, 0, 0, 0, 0, 0)] (pe := 106) (gs := []) (loc' := [.ref 54, .long y1, .null]) (stk' := [.int (lg_cmp y1 1937007984), .ref 54]) (σ' := σ1) (by decide +kernel) rfl).trans ?_
                  refine hb_br0 (hb_fe_ok (r := (.ifCond .ne 7, 3, 113, 0, 0, 0, 0)) (by decide +kernel)) rfl ?_ ?_
                  · refine (hb_blk [(.iconst 0, 1, 0, 0, 0, 0, 0)] (pe := 114) (gs := []) (loc' := [.ref 54, .long y1, .null]) (stk' := [.int 0, .ref 54]) (σ' := σ1) (by decide +kernel) rfl).trans ?_
                    exact rfl
                  · exact rfl
          · refine (hb_blk [(.aload_n 0, 1, 0, 0, 0, 0, 0), (.getfield 196, 3, 12, 15, 0, 0, 0), (.bipush 16, 2, 0, 0, 0, 16, 0)] (pe := 68) (gs := []) (loc' := [.ref 54, .long y1, .null]) (stk' := [.int 16, .int (σ1 54 15)]) (σ' := σ1) (by decide +kernel) rfl).trans ?_
            refine hb_br (hb_fe_ok (r := (.if_icmp .ne 8, 3, 76, 0, 0, 0, 0)) (by decide +kernel)) rfl ?_ ?_
            · refine (hb_blk [(.aload_n 0, 1, 0, 0, 0, 0, 0), (.lload_n 1, 1, 1, 0, 0, 0, 0), (.ldc2_w 199, 3, 0, 0, 0, 0, 1718382455), (.lcmp, 1, 0, 0, 0, 0, 0)] (pe := 82) (gs := []) (loc' := [.ref 54, .long y1, .null]) (stk' := [.int (lg_cmp y1 1718382455), .ref 54]) (σ' := σ1) (by decide +kernel) rfl).trans ?_
              refine hb_br0 (hb_fe_ok (r := (.ifCond .eq 27, 3, 109, 0, 0, 0, 0)) (by decide +kernel)) rfl ?_ ?_
              · exact rfl
              · refine (hb_blk [(.lload_n 1, 1, 1, 0, 0, 0, 0), (.ldc2_w 204, 3, 0, 0, 0, 0, 6447460), (.lcmp, 1, 0, 0, 0, 0, 0)] (pe := 90) (gs := []) (loc' := [.ref 54, .long y1, .null]) (stk' := [.int (lg_cmp y1 6447460), .ref 54]) (σ' := σ1) (by decide +kernel) rfl).trans ?_
                refine hb_br0 (hb_fe_ok (r := (.ifCond .eq 19, 3, 109, 0, 0, 0, 0)) (by decide +kernel)) rfl ?_ ?_
                · exact rfl
                · refine (hb_blk [(.lload_n 1, 1, 1, 0, 0, 0, 0), (.ldc2_w 209, 3, 0, 0, 0, 0, 1735356260), (.lcmp, 1, 0, 0, 0, 0, 0)] (pe := 98) (gs := []) (loc' := [.ref 54, .long y1, .null]) (stk' := [.int (lg_cmp y1 1735356260), .ref 54]) (σ' := σ1) (by decide +kernel) rfl).trans ?_
                  refine hb_br0 (hb_fe_ok (r := (.ifCond .eq 11, 3, 109, 0, 0, 0, 0)) (by decide +kernel)) rfl ?_ ?_
                  · exact rfl
                  · refine (hb_blk [(.lload_n 1, 1, 1, 0, 0, 0, 0), (.ldc2_w 214, 3, 0, 0, 0, 0, 1937007984), (.lcmp, 1, 0, 0, 0, 0, 0)] (pe := 106) (gs := []) (loc' := [.ref 54, .long y1, .null]) (stk' := [.int (lg_cmp y1 1937007984), .ref 54]) (σ' := σ1) (by decide +kernel) rfl).trans ?_
                    refine hb_br0 (hb_fe_ok (r := (.ifCond .ne 7, 3, 113, 0, 0, 0, 0)) (by decide +kernel)) rfl ?_ ?_
                    · refine (hb_blk [(.iconst 0, 1, 0, 0, 0, 0, 0)] (pe := 114) (gs := []) (loc' := [.ref 54, .long y1, .null]) (stk' := [.int 0, .ref 54]) (σ' := σ1) (by decide +kernel) rfl).trans ?_
                      exact rfl
                    · exact rfl
            · exact rfl
        · refine (hb_blk [(.aload_n 0, 1, 0, 0, 0, 0, 0), (.getfield 211, 3, 12, 14, 0, 0, 0), (.iconst 4, 1, 0, 0, 0, 4, 0)] (pe := 51) (gs := []) (loc' := [.ref 54, .long y1, .null]) (stk' := [.int 4, .int (σ1 54 14)]) (σ' := σ1) (by decide +kernel) rfl).trans ?_
          refine hb_br (hb_fe_ok (r := (.if_icmp .eq 20, 3, 71, 0, 0, 0, 0)) (by decide +kernel)) rfl ?_ ?_
          · exact rfl
          · refine (hb_blk [(.lload_n 1, 1, 1, 0, 0, 0, 0), (.ldc2_w 214, 3, 0, 0, 0, 0, 1937007984), (.lcmp, 1, 0, 0, 0, 0, 0)] (pe := 59) (gs := []) (loc' := [.ref 54, .long y1, .null]) (stk' := [.int (lg_cmp y1 1937007984)]) (σ' := σ1) (by decide +kernel) rfl).trans ?_
            refine hb_br0 (hb_fe_ok (r := (.ifCond .ne 17, 3, 76, 0, 0, 0, 0)) (by decide +kernel)) rfl ?_ ?_
            · refine (hb_blk [(.aload_n 0, 1, 0, 0, 0, 0, 0), (.lload_n 1, 1, 1, 0, 0, 0, 0), (.ldc2_w 199, 3, 0, 0, 0, 0, 1718382455), (.lcmp, 1, 0, 0, 0, 0, 0)] (pe := 82) (gs := []) (loc' := [.ref 54, .long y1, .null]) (stk' := [.int (lg_cmp y1 1718382455), .ref 54]) (σ' := σ1) (by decide +kernel) rfl).trans ?_
              refine hb_br0 (hb_fe_ok (r := (.ifCond .eq 27, 3, 109, 0, 0, 0, 0)) (by decide +kernel)) rfl ?_ ?_
              · exact rfl
              · refine (hb_blk [(.lload_n 1, 1, 1, 0, 0, 0, 0), (.ldc2_w 204, 3, 0, 0, 0, 0, 6447460), (.lcmp, 1, 0, 0, 0, 0, 0)] (pe := 90) (gs := []) (loc' := [.ref 54, .long y1, .null]) (stk' := [.int (lg_cmp y1 6447460), .ref 54]) (σ' := σ1) (by decide +kernel) rfl).trans ?_
                refine hb_br0 (hb_fe_ok (r := (.ifCond .eq 19, 3, 109, 0, 0, 0, 0)) (by decide +kernel)) rfl ?_ ?_
                · exact rfl
                · refine (hb_blk [(.lload_n 1, 1, 1, 0, 0, 0, 0), (.ldc2_w 209, 3, 0, 0, 0, 0, 1735356260), (.lcmp, 1, 0, 0, 0, 0, 0)] (pe := 98) (gs := []) (loc' := [.ref 54, .long y1, .null]) (stk' := [.int (lg_cmp y1 1735356260), .ref 54]) (σ' := σ1) (by decide +kernel) rfl).trans ?_
                  refine hb_br0 (hb_fe_ok (r := (.ifCond .eq 11, 3, 109, 0, 0, 0, 0)) (by decide +kernel)) rfl ?_ ?_
                  · exact rfl
                  · refine (hb_blk [(.lload_n 1, 1, 1, 0, 0, 0, 0), (.ldc2_w 214, 3, 0, 0, 0, 0, 1937007984), (.lcmp, 1, 0, 0, 0, 0, 0)] (pe := 106) (gs := []) (loc' := [.ref 54, .long y1, .null]) (stk' := [.int (lg_cmp y1 1937007984), .ref 54]) (σ' := σ1) (by decide +kernel) rfl).trans ?_
                    refine hb_br0 (hb_fe_ok (r := (.ifCond .ne 7, 3, 113, 0, 0, 0, 0)) (by decide +kernel)) rfl ?_ ?_
                    · refine (hb_blk [(.iconst 0, 1, 0, 0, 0, 0, 0)] (pe := 114) (gs := []) (loc' := [.ref 54, .long y1, .null]) (stk' := [.int 0, .ref 54]) (σ' := σ1) (by decide +kernel) rfl).trans ?_
                      exact rfl
                    · exact rfl
            · refine (hb_blk [(.aload_n 0, 1, 0, 0, 0, 0, 0), (.getfield 196, 3, 12, 15, 0, 0, 0), (.bipush 16, 2, 0, 0, 0, 16, 0)] (pe := 68) (gs := []) (loc' := [.ref 54, .long y1, .null]) (stk' := [.int 16, .int (σ1 54 15)]) (σ' := σ1) (by decide +kernel) rfl).trans ?_
              refine hb_br (hb_fe_ok (r := (.if_icmp .ne 8, 3, 76, 0, 0, 0, 0)) (by decide +kernel)) rfl ?_ ?_
              · refine (hb_blk [(.aload_n 0, 1, 0, 0, 0, 0, 0), (.lload_n 1, 1, 1, 0, 0, 0, 0), (.ldc2_w 199, 3, 0, 0, 0, 0, 1718382455), (.lcmp, 1, 0, 0, 0, 0, 0)] (pe := 82) (gs := []) (loc' := [.ref 54, .long y1, .null]) (stk' := [.int (lg_cmp y1 1718382455), .ref 54]) (σ' := σ1) (by decide +kernel) rfl).trans ?_
                refine hb_br0 (hb_fe_ok (r := (.ifCond .eq 27, 3, 109, 0, 0, 0, 0)) (by decide +kernel)) rfl ?_ ?_
                · exact rfl
                · refine (hb_blk [(.lload_n 1, 1, 1, 0, 0, 0, 0), (.ldc2_w 204, 3, 0, 0, 0, 0, 6447460), (.lcmp, 1, 0, 0, 0, 0, 0)] (pe := 90) (gs := []) (loc' := [.ref 54, .long y1, .null]) (stk' := [.int (lg_cmp y1 6447460), .ref 54]) (σ' := σ1) (by decide +kernel) rfl).trans ?_
                  refine hb_br0 (hb_fe_ok (r := (.ifCond .eq 19, 3, 109, 0, 0, 0, 0)) (by decide +kernel)) rfl ?_ ?_
                  · exact rfl
                  · refine (hb_blk [(.lload_n 1, 1, 1, 0, 0, 0, 0), (.ldc2_w 209, 3, 0, 0, 0, 0, 1735356260), (.lcmp, 1, 0, 0, 0, 0, 0)] (pe := 98) (gs := []) (loc' := [.ref 54, .long y1, .null]) (stk' := [.int (lg_cmp y1 1735356260), .ref 54]) (σ' := σ1) (by decide +kernel) rfl).trans ?_
                    refine hb_br0 (hb_fe_ok (r := (.ifCond .eq 11, 3, 109, 0, 0, 0, 0)) (by decide +kernel)) rfl ?_ ?_
                    · exact rfl
                    · refine (hb_blk [(.lload_n 1, 1, 1, 0, 0, 0, 0), (.ldc2_w 214, 3, 0, 0, 0, 0, 1937007984), (.lcmp, 1, 0, 0, 0, 0, 0)] (pe := 106) (gs := []) (loc' := [.ref 54, .long y1, .null]) (stk' := [.int (lg_cmp y1 1937007984), .ref 54]) (σ' := σ1) (by decide +kernel) rfl).trans ?_
                      refine hb_br0 (hb_fe_ok (r := (.ifCond .ne 7, 3, 113, 0, 0, 0, 0)) (by decide +kernel)) rfl ?_ ?_
                      · refine (hb_blk [(.iconst 0, 1, 0, 0, 0, 0, 0)] (pe := 114) (gs := []) (loc' := [.ref 54, .long y1, .null]) (stk' := [.int 0, .ref 54]) (σ' := σ1) (by decide +kernel) rfl).trans ?_
                        exact rfl
                      · exact rfl
              · exact rfl
  · refine (hb_blk [(.aload_n 0, 1, 0, 0, 0, 0, 0), (.getfield 201, 3, 12, 12, 0, 0, 0), (.bipush 8, 2, 0, 0, 0, 8, 0)] (pe := 19) (gs := []) (loc' := [.ref 54, .long y1, .null]) (stk' := [.int 8, .int (σ1 54 12)]) (σ' := σ1) (by decide +kernel) rfl).trans ?_
    refine hb_br (hb_fe_ok (r := (.if_icmp .eq 52, 3, 71, 0, 0, 0, 0)) (by decide +kernel)) rfl ?_ ?_
    · exact rfl
    · refine (hb_blk [(.lload_n 1, 1, 1, 0, 0, 0, 0), (.ldc2_w 204, 3, 0, 0, 0, 0, 6447460), (.lcmp, 1, 0, 0, 0, 0, 0)] (pe := 27) (gs := []) (loc' := [.ref 54, .long y1, .null]) (stk' := [.int (lg_cmp y1 6447460)]) (σ' := σ1) (by decide +kernel) rfl).trans ?_
      refine hb_br0 (hb_fe_ok (r := (.ifCond .ne 11, 3, 38, 0, 0, 0, 0)) (by decide +kernel)) rfl ?_ ?_
      · refine (hb_blk [(.lload_n 1, 1, 1, 0, 0, 0, 0), (.ldc2_w 209, 3, 0, 0, 0, 0, 1735356260), (.lcmp, 1, 0, 0, 0, 0, 0)] (pe := 43) (gs := []) (loc' := [.ref 54, .long y1, .null]) (stk' := [.int (lg_cmp y1 1735356260)]) (σ' := σ1) (by decide +kernel) rfl).trans ?_
        refine hb_br0 (hb_fe_ok (r := (.ifCond .ne 11, 3, 54, 0, 0, 0, 0)) (by decide +kernel)) rfl ?_ ?_
        · refine (hb_blk [(.lload_n 1, 1, 1, 0, 0, 0, 0), (.ldc2_w 214, 3, 0, 0, 0, 0, 1937007984), (.lcmp, 1, 0, 0, 0, 0, 0)] (pe := 59) (gs := []) (loc' := [.ref 54, .long y1, .null]) (stk' := [.int (lg_cmp y1 1937007984)]) (σ' := σ1) (by decide +kernel) rfl).trans ?_
          refine hb_br0 (hb_fe_ok (r := (.ifCond .ne 17, 3, 76, 0, 0, 0, 0)) (by decide +kernel)) rfl ?_ ?_
          · refine (hb_blk [(.aload_n 0, 1, 0, 0, 0, 0, 0), (.lload_n 1, 1, 1, 0, 0, 0, 0), (.ldc2_w 199, 3, 0, 0, 0, 0, 1718382455), (.lcmp, 1, 0, 0, 0, 0, 0)] (pe := 82) (gs := []) (loc' := [.ref 54, .long y1, .null]) (stk' := [.int (lg_cmp y1 1718382455), .ref 54]) (σ' := σ1) (by decide +kernel) rfl).trans ?_
            refine hb_br0 (hb_fe_ok (r := (.ifCond .eq 27, 3, 109, 0, 0, 0, 0)) (by decide +kernel)) rfl ?_ ?_
            · exact rfl
            · refine (hb_blk [(.lload_n 1, 1, 1, 0, 0, 0, 0), (.ldc2_w 204, 3, 0, 0, 0, 0, 6447460), (.lcmp, 1, 0, 0, 0, 0, 0)] (pe := 90) (gs := []) (loc' := [.ref 54, .long y1, .null]) (stk' := [.int (lg_cmp y1 6447460), .ref 54]) (σ' := σ1) (by decide +kernel) rfl).trans ?_
              refine hb_br0 (hb_fe_ok (r := (.ifCond .eq 19, 3, 109, 0, 0, 0, 0)) (by decide +kernel)) rfl ?_ ?_
              · exact rfl
              · refine (hb_blk [(.lload_n 1, 1, 1, 0, 0, 0, 0), (.ldc2_w 209, 3, 0, 0, 0, 0, 1735356260), (.lcmp, 1, 0, 0, 0, 0, 0)] (pe := 98) (gs := []) (loc' := [.ref 54, .long y1, .null]) (stk' := [.int (lg_cmp y1 1735356260), .ref 54]) (σ' := σ1) (by decide +kernel) rfl).trans ?_
                refine hb_br0 (hb_fe_ok (r := (.ifCond .eq 11, 3, 109, 0, 0, 0, 0)) (by decide +kernel)) rfl ?_ ?_
                · exact rfl
                · refine (hb_blk [(.lload_n 1, 1, 1, 0, 0, 0, 0), (.ldc2_w 214, 3, 0, 0, 0, 0, 1937007984), (.lcmp, 1, 0, 0, 0, 0, 0)] (pe := 106) (gs := []) (loc' := [.ref 54, .long y1, .null]) (stk' := [.int (lg_cmp y1 1937007984), .ref 54]) (σ' := σ1) (by decide +kernel) rfl).trans ?_
                  refine hb_br0 (hb_fe_ok (r := (.ifCond .ne 7, 3, 113, 0, 0, 0, 0)) (by decide +kernel)) rfl ?_ ?_
                  · refine (hb_blk [(.iconst 0, 1, 0, 0, 0, 0, 0)] (pe := 114) (gs := []) (loc' := [.ref 54, .long y1, .null]) (stk' := [.int 0, .ref 54]) (σ' := σ1) (by decide +kernel) rfl).trans ?_
                    exact rfl
                  · exact rfl
          · refine (hb_blk [(.aload_n 0, 1, 0, 0, 0, 0, 0), (.getfield 196, 3, 12, 15, 0, 0, 0), (.bipush 16, 2, 0, 0, 0, 16, 0)] (pe := 68) (gs := []) (loc' := [.ref 54, .long y1, .null]) (stk' := [.int 16, .int (σ1 54 15)]) (σ' := σ1) (by decide +kernel) rfl).trans ?_
            refine hb_br (hb_fe_ok (r := (.if_icmp .ne 8, 3, 76, 0, 0, 0, 0)) (by decide +kernel)) rfl ?_ ?_
            · refine (hb_blk [(.aload_n 0, 1, 0, 0, 0, 0, 0), (.lload_n 1, 1, 1, 0, 0, 0, 0), (.ldc2_w 199, 3, 0, 0, 0, 0, 1718382455), (.lcmp, 1, 0, 0, 0, 0, 0)] (pe := 82) (gs := []) (loc' := [.ref 54, .long y1, .null]) (stk' := [.int (lg_cmp y1 1718382455), .ref 54]) (σ' := σ1) (by decide +kernel) rfl).trans ?_
              refine hb_br0 (hb_fe_ok (r := (.ifCond .eq 27, 3, 109, 0, 0, 0, 0)) (by decide +kernel)) rfl ?_ ?_
              · exact rfl
              · refine (hb_blk [(.lload_n 1, 1, 1, 0, 0, 0, 0), (.ldc2_w 204, 3, 0, 0, 0, 0, 6447460), (.lcmp, 1, 0, 0, 0, 0, 0)] (pe := 90) (gs := []) (loc' := [.ref 54, .long y1, .null]) (stk' := [.int (lg_cmp y1 6447460), .ref 54]) (σ' := σ1) (by decide +kernel) rfl).trans ?_
                refine hb_br0 (hb_fe_ok (r := (.ifCond .eq 19, 3, 109, 0, 0, 0, 0)) (by decide +kernel)) rfl ?_ ?_
                · exact rfl
                · refine (hb_blk [(.lload_n 1, 1, 1, 0, 0, 0, 0), (.ldc2_w 209, 3, 0, 0, 0, 0, 1735356260), (.lcmp, 1, 0, 0, 0, 0, 0)] (pe := 98) (gs := []) (loc' := [.ref 54, .long y1, .null]) (stk' := [.int (lg_cmp y1 1735356260), .ref 54]) (σ' := σ1) (by decide +kernel) rfl).trans ?_
                  refine hb_br0 (hb_fe_ok (r := (.ifCond .eq 11, 3, 109, 0, 0, 0, 0)) (by decide +kernel)) rfl ?_ ?_
                  · exact rfl
                  · refine (hb_blk [(.lload_n 1, 1, 1, 0, 0, 0, 0), (.ldc2_w 214, 3, 0, 0, 0, 0, 1937007984), (.lcmp, 1, 0, 0, 0, 0, 0)] (pe := 106) (gs := []) (loc' := [.ref 54, .long y1, .null]) (stk' := [.int (lg_cmp y1 1937007984), .ref 54]) (σ' := σ1) (by decide +kernel) rfl).trans ?_
                    refine hb_br0 (hb_fe_ok (r := (.ifCond .ne 7, 3, 113, 0, 0, 0, 0)) (by decide +kernel)) rfl ?_ ?_
                    · refine (hb_blk [(.iconst 0, 1, 0, 0, 0, 0, 0)] (pe := 114) (gs := []) (loc' := [.ref 54, .long y1, .null]) (stk' := [.int 0, .ref 54]) (σ' := σ1) (by decide +kernel) rfl).trans ?_
                      exact rfl
                    · exact rfl
            · exact rfl
        · refine (hb_blk [(.aload_n 0, 1, 0, 0, 0, 0, 0), (.getfield 211, 3, 12, 14, 0, 0, 0), (.iconst 4, 1, 0, 0, 0, 4, 0)] (pe := 51) (gs := []) (loc' := [.ref 54, .long y1, .null]) (stk' := [.int 4, .int (σ1 54 14)]) (σ' := σ1) (by decide +kernel) rfl).trans ?_
          refine hb_br (hb_fe_ok (r := (.if_icmp .eq 20, 3, 71, 0, 0, 0, 0)) (by decide +kernel)) rfl ?_ ?_
          · exact rfl
          · refine (hb_blk [(.lload_n 1, 1, 1, 0, 0, 0, 0), (.ldc2_w 214, 3, 0, 0, 0, 0, 1937007984), (.lcmp, 1, 0, 0, 0, 0, 0)] (pe := 59) (gs := []) (loc' := [.ref 54, .long y1, .null]) (stk' := [.int (lg_cmp y1 1937007984)]) (σ' := σ1) (by decide +kernel) rfl).trans ?_
            refine hb_br0 (hb_fe_ok (r := (.ifCond .ne 17, 3, 76, 0, 0, 0, 0)) (by decide +kernel)) rfl ?_ ?_
            · refine (hb_blk [(.aload_n 0, 1, 0, 0, 0, 0, 0), (.lload_n 1, 1, 1, 0, 0, 0, 0), (.ldc2_w 199, 3, 0, 0, 0, 0, 1718382455), (.lcmp, 1, 0, 0, 0, 0, 0)] (pe := 82) (gs := []) (loc' := [.ref 54, .long y1, .null]) (stk' := [.int (lg_cmp y1 1718382455), .ref 54]) (σ' := σ1) (by decide +kernel) rfl).trans ?_
              refine hb_br0 (hb_fe_ok (r := (.ifCond .eq 27, 3, 109, 0, 0, 0, 0)) (by decide +kernel)) rfl ?_ ?_
              · exact rfl
              · refine (hb_blk [(.lload_n 1, 1, 1, 0, 0, 0, 0), (.ldc2_w 204, 3, 0, 0, 0, 0, 6447460), (.lcmp, 1, 0, 0, 0, 0, 0)] (pe := 90) (gs := []) (loc' := [.ref 54, .long y1, .null]) (stk' := [.int (lg_cmp y1 6447460), .ref 54]) (σ' := σ1) (by decide +kernel) rfl).trans ?_
                refine hb_br0 (hb_fe_ok (r := (.ifCond .eq 19, 3, 109, 0, 0, 0, 0)) (by decide +kernel)) rfl ?_ ?_
                · exact rfl
                · refine (hb_blk [(.lload_n 1, 1, 1, 0, 0, 0, 0), (.ldc2_w 209, 3, 0, 0, 0, 0, 1735356260), (.lcmp, 1, 0, 0, 0, 0, 0)] (pe := 98) (gs := []) (loc' := [.ref 54, .long y1, .null]) (stk' := [.int (lg_cmp y1 1735356260), .ref 54]) (σ' := σ1) (by decide +kernel) rfl).trans ?_
                  refine hb_br0 (hb_fe_ok (r := (.ifCond .eq 11, 3, 109, 0, 0, 0, 0)) (by decide +kernel)) rfl ?_ ?_
                  · exact rfl
                  · refine (hb_blk [(.lload_n 1, 1, 1, 0, 0, 0, 0), (.ldc2_w 214, 3, 0, 0, 0, 0, 1937007984), (.lcmp, 1, 0, 0, 0, 0, 0)] (pe := 106) (gs := []) (loc' := [.ref 54, .long y1, .null]) (stk' := [.int (lg_cmp y1 1937007984), .ref 54]) (σ' := σ1) (by decide +kernel) rfl).trans ?_
                    refine hb_br0 (hb_fe_ok (r := (.ifCond .ne 7, 3, 113, 0, 0, 0, 0)) (by decide +kernel)) rfl ?_ ?_
                    · refine (hb_blk [(.iconst 0, 1, 0, 0, 0, 0, 0)] (pe := 114) (gs := []) (loc' := [.ref 54, .long y1, .null]) (stk' := [.int 0, .ref 54]) (σ' := σ1) (by decide +kernel) rfl).trans ?_
                      exact rfl
                    · exact rfl
            · refine (hb_blk [(.aload_n 0, 1, 0, 0, 0, 0, 0), (.getfield 196, 3, 12, 15, 0, 0, 0), (.bipush 16, 2, 0, 0, 0, 16, 0)] (pe := 68) (gs := []) (loc' := [.ref 54, .long y1, .null]) (stk' := [.int 16, .int (σ1 54 15)]) (σ' := σ1) (by decide +kernel) rfl).trans ?_
              refine hb_br (hb_fe_ok (r := (.if_icmp .ne 8, 3, 76, 0, 0, 0, 0)) (by decide +kernel)) rfl ?_ ?_
              · refine (hb_blk [(.aload_n 0, 1, 0, 0, 0, 0, 0), (.lload_n 1, 1, 1, 0, 0, 0, 0), (.ldc2_w 199, 3, 0, 0, 0, 0, 1718382455), (.lcmp, 1, 0, 0, 0, 0, 0)] (pe := 82) (gs := []) (loc' := [.ref 54, .long y1, .null]) (stk' := [.int (lg_cmp y1 1718382455), .ref 54]) (σ' := σ1) (by decide +kernel) rfl).trans ?_
                refine hb_br0 (hb_fe_ok (r := (.ifCond .eq 27, 3, 109, 0, 0, 0, 0)) (by decide +kernel)) rfl ?_ ?_
                · exact rfl
                · refine (hb_blk [(.lload_n 1, 1, 1, 0, 0, 0, 0), (.ldc2_w 204, 3, 0, 0, 0, 0, 6447460), (.lcmp, 1, 0, 0, 0, 0, 0)] (pe := 90) (gs := []) (loc' := [.ref 54, .long y1, .null]) (stk' := [.int (lg_cmp y1 6447460), .ref 54]) (σ' := σ1) (by decide +kernel) rfl).trans ?_
                  refine hb_br0 (hb_fe_ok (r := (.ifCond .eq 19, 3, 109, 0, 0, 0, 0)) (by decide +kernel)) rfl ?_ ?_
                  · exact rfl
                  · refine (hb_blk [(.lload_n 1, 1, 1, 0, 0, 0, 0), (.ldc2_w 209, 3, 0, 0, 0, 0, 1735356260), (.lcmp, 1, 0, 0, 0, 0, 0)] (pe := 98) (gs := []) (loc' := [.ref 54, .long y1, .null]) (stk' := [.int (lg_cmp y1 1735356260), .ref 54]) (σ' := σ1) (by decide +kernel) rfl).trans ?_
                    refine hb_br0 (hb_fe_ok (r := (.ifCond .eq 11, 3, 109, 0, 0, 0, 0)) (by decide +kernel)) rfl ?_ ?_
                    · exact rfl
                    · refine (hb_blk [(.lload_n 1, 1, 1, 0, 0, 0, 0), (.ldc2_w 214, 3, 0, 0, 0, 0, 1937007984), (.lcmp, 1, 0, 0, 0, 0, 0)] (pe := 106) (gs := []) (loc' := [.ref 54, .long y1, .null]) (stk' := [.int (lg_cmp y1 1937007984), .ref 54]) (σ' := σ1) (by decide +kernel) rfl).trans ?_
                      refine hb_br0 (hb_fe_ok (r := (.ifCond .ne 7, 3, 113, 0, 0, 0, 0)) (by decide +kernel)) rfl ?_ ?_
                      · refine (hb_blk [(.iconst 0, 1, 0, 0, 0, 0, 0)] (pe := 114) (gs := []) (loc' := [.ref 54, .long y1, .null]) (stk' := [.int 0, .ref 54]) (σ' := σ1) (by decide +kernel) rfl).trans ?_
                        exact rfl
                      · exact rfl
              · exact rfl
      · refine (hb_blk [(.aload_n 0, 1, 0, 0, 0, 0, 0), (.getfield 206, 3, 12, 13, 0, 0, 0), (.iconst 4, 1, 0, 0, 0, 4, 0)] (pe := 35) (gs := []) (loc' := [.ref 54, .long y1, .null]) (stk' := [.int 4, .int (σ1 54 13)]) (σ' := σ1) (by decide +kernel) rfl).trans ?_
        refine hb_br (hb_fe_ok (r := (.if_icmp .eq 36, 3, 71, 0, 0, 0, 0)) (by decide +kernel)) rfl ?_ ?_
        · exact rfl
        · refine (hb_blk [(.lload_n 1, 1, 1, 0, 0, 0, 0), (.ldc2_w 209, 3, 0, 0, 0, 0, 1735356260), (.lcmp, 1, 0, 0, 0, 0, 0)] (pe := 43) (gs := []) (loc' := [.ref 54, .long y1, .null]) (stk' := [.int (lg_cmp y1 1735356260)]) (σ' := σ1) (by decide +kernel) rfl).trans ?_
          refine hb_br0 (hb_fe_ok (r := (.ifCond .ne 11, 3, 54, 0, 0, 0, 0)) (by decide +kernel)) rfl ?_ ?_
          · refine (hb_blk [(.lload_n 1, 1, 1, 0, 0, 0, 0), (.ldc2_w 214, 3, 0, 0, 0, 0, 1937007984), (.lcmp, 1, 0, 0, 0, 0, 0)] (pe := 59) (gs := []) (loc' := [.ref 54, .long y1, .null]) (stk' := [.int (lg_cmp y1 1937007984)]) (σ' := σ1) (by decide +kernel) rfl).trans ?_
            refine hb_br0 (hb_fe_ok (r := (.ifCond .ne 17, 3, 76, 0, 0, 0, 0)) (by decide +kernel)) rfl ?_ ?_
            · refine (hb_blk [(.aload_n 0, 1, 0, 0, 0, 0, 0), (.lload_n 1, 1, 1, 0, 0, 0, 0), (.ldc2_w 199, 3, 0, 0, 0, 0, 1718382455), (.lcmp, 1, 0, 0, 0, 0, 0)] (pe := 82) (gs := []) (loc' := [.ref 54, .long y1, .null]) (stk' := [.int (lg_cmp y1 1718382455), .ref 54]) (σ' := σ1) (by decide +kernel) rfl).trans ?_
              refine hb_br0 (hb_fe_ok (r := (.ifCond .eq 27, 3, 109, 0, 0, 0, 0)) (by decide +kernel)) rfl ?_ ?_
              · exact rfl
              · refine (hb_blk [(.lload_n 1, 1, 1, 0, 0, 0, 0), (.ldc2_w 204, 3, 0, 0, 0, 0, 6447460), (.lcmp, 1, 0, 0, 0, 0, 0)] (pe := 90) (gs := []) (loc' := [.ref 54, .long y1, .null]) (stk' := [.int (lg_cmp y1 6447460), .ref 54]) (σ' := σ1) (by decide +kernel) rfl).trans ?_
                refine hb_br0 (hb_fe_ok (r := (.ifCond .eq 19, 3, 109, 0, 0, 0, 0)) (by decide +kernel)) rfl ?_ ?_
                · exact rfl
                · refine (hb_blk [(.lload_n 1, 1, 1, 0, 0, 0, 0), (.ldc2_w 209, 3, 0, 0, 0, 0, 1735356260), (.lcmp, 1, 0, 0, 0, 0, 0)] (pe := 98) (gs := []) (loc' := [.ref 54, .long y1, .null]) (stk' := [.int (lg_cmp y1 1735356260), .ref 54]) (σ' := σ1) (by decide +kernel) rfl).trans ?_
                  refine hb_br0 (hb_fe_ok (r := (.ifCond .eq 11, 3, 109, 0, 0, 0, 0)) (by decide +kernel)) rfl ?_ ?_
                  · exact rfl
                  · refine (hb_blk [(.lload_n 1, 1, 1, 0, 0, 0, 0), (.ldc2_w 214, 3, 0, 0, 0, 0, 1937007984), (.lcmp, 1, 0, 0, 0, 0, 0)] (pe := 106) (gs := []) (loc' := [.ref 54, .long y1, .null]) (stk' := [.int (lg_cmp y1 1937007984), .ref 54]) (σ' := σ1) (by decide +kernel) rfl).trans ?_
                    refine hb_br0 (hb_fe_ok (r := (.ifCond .ne 7, 3, 113, 0, 0, 0, 0)) (by decide +kernel)) rfl ?_ ?_
                    · refine (hb_blk [(.iconst 0, 1, 0, 0, 0, 0, 0)] (pe := 114) (gs := []) (loc' := [.ref 54, .long y1, .null]) (stk' := [.int 0, .ref 54]) (σ' := σ1) (by decide +kernel) rfl).trans ?_
                      exact rfl
                    · exact rfl
            · refine (hb_blk [(.aload_n 0, 1, 0, 0, 0, 0, 0), (.getfield 196, 3, 12, 15, 0, 0, 0), (.bipush 16, 2, 0, 0, 0, 16, 0)] (pe := 68) (gs := []) (loc' := [.ref 54, .long y1, .null]) (stk' := [.int 16, .int (σ1 54 15)]) (σ' := σ1) (by decide +kernel) rfl).trans ?_
              refine hb_br (hb_fe_ok (r := (.if_icmp .ne 8, 3, 76, 0, 0, 0, 0)) (by decide +kernel)) rfl ?_ ?_
              · refine (hb_blk [(.aload_n 0, 1, 0, 0, 0, 0, 0), (.lload_n 1, 1, 1, 0, 0, 0, 0), (.ldc2_w 199, 3, 0, 0, 0, 0, 1718382455), (.lcmp, 1, 0, 0, 0, 0, 0)] (pe := 82) (gs := []) (loc' := [.ref 54, .long y1, .null]) (stk' := [.int (lg_cmp y1 1718382455), .ref 54]) (σ' := σ1) (by decide +kernel) rfl).trans ?_
                refine hb_br0 (hb_fe_ok (r := (.ifCond .eq 27, 3, 109, 0, 0, 0, 0)) (by decide +kernel)) rfl ?_ ?_
                · exact rfl
                · refine (hb_blk [(.lload_n 1, 1, 1, 0, 0, 0, 0), (.ldc2_w 204, 3, 0, 0, 0, 0, 6447460), (.lcmp, 1, 0, 0, 0, 0, 0)] (pe := 90) (gs := []) (loc' := [.ref 54, .long y1, .null]) (stk' := [.int (lg_cmp y1 6447460), .ref 54]) (σ' := σ1) (by decide +kernel) rfl).trans ?_
                  refine hb_br0 (hb_fe_ok (r := (.ifCond .eq 19, 3, 109, 0, 0, 0, 0)) (by decide +kernel)) rfl ?_ ?_
                  · exact rfl
                  · refine (hb_blk [(.lload_n 1, 1, 1, 0, 0, 0, 0), (.ldc2_w 209, 3, 0, 0, 0, 0, 1735356260), (.lcmp, 1, 0, 0, 0, 0, 0)] (pe := 98) (gs := []) (loc' := [.ref 54, .long y1, .null]) (stk' := [.int (lg_cmp y1 1735356260), .ref 54]) (σ' := σ1) (by decide +kernel) rfl).trans ?_
                    refine hb_br0 (hb_fe_ok (r := (.ifCond .eq 11, 3, 109, 0, 0, 0, 0)) (by decide +kernel)) rfl ?_ ?_
                    · exact rfl
                    · refine (hb_blk [(.lload_n 1, 1, 1, 0, 0, 0, 0), (.ldc2_w 214, 3, 0, 0, 0, 0, 1937007984), (.lcmp, 1, 0, 0, 0, 0, 0)] (pe := 106) (gs := []) (loc' := [.ref 54, .long y1, .null]) (stk' := [.int (lg_cmp y1 1937007984), .ref 54]) (σ' := σ1) (by decide +kernel) rfl).trans ?_
                      refine hb_br0 (hb_fe_ok (r := (.ifCond .ne 7, 3, 113, 0, 0, 0, 0)) (by decide +kernel)) rfl ?_ ?_
                      · refine (hb_blk [(.iconst 0, 1, 0, 0, 0, 0, 0)] (pe := 114) (gs := []) (loc' := [.ref 54, .long y1, .null]) (stk' := [.int 0, .ref 54]) (σ' := σ1) (by decide +kernel) rfl).trans ?_
                        exact rfl
                      · exact rfl
              · exact rfl
          · refine (hb_blk [(.aload_n 0, 1, 0, 0, 0, 0, 0), (.getfield 211, 3, 12, 14, 0, 0, 0), (.iconst 4, 1, 0, 0, 0, 4, 0)] (pe := 51) (gs := []) (loc' := [.ref 54, .long y1, .null]) (stk' := [.int 4, .int (σ1 54 14)]) (σ' := σ1) (by decide +kernel) rfl).trans ?_
            refine hb_br (hb_fe_ok (r := (.if_icmp .eq 20, 3, 71, 0, 0, 0, 0)) (by decide +kernel)) rfl ?_ ?_
            · exact rfl
            · refine (hb_blk [(.lload_n 1, 1, 1, 0, 0, 0, 0), (.ldc2_w 214, 3, 0, 0, 0, 0, 1937007984), (.lcmp, 1, 0, 0, 0, 0, 0)] (pe := 59) (gs := []) (loc' := [.ref 54, .long y1, .null]) (stk' := [.int (lg_cmp y1 1937007984)]) (σ' := σ1) (by decide +kernel) rfl).trans ?_
              refine hb_br0 (hb_fe_ok (r := (.ifCond .ne 17, 3, 76, 0, 0, 0, 0)) (by decide +kernel)) rfl ?_ ?_
              · refine (hb_blk [(.aload_n 0, 1, 0, 0, 0, 0, 0), (.lload_n 1, 1, 1, 0, 0, 0, 0), (.ldc2_w 199, 3, 0, 0, 0, 0, 1718382455), (.lcmp, 1, 0, 0, 0, 0, 0)] (pe := 82) (gs := []) (loc' := [.ref 54, .long y1, .null]) (stk' := [.int (lg_cmp y1 1718382455), .ref 54]) (σ' := σ1) (by decide +kernel) rfl).trans ?_
                refine hb_br0 (hb_fe_ok (r := (.ifCond .eq 27, 3, 109, 0, 0, 0, 0)) (by decide +kernel)) rfl ?_ ?_
                · exact rfl
                · refine (hb_blk [(.lload_n 1, 1, 1, 0, 0, 0, 0), (.ldc2_w 204, 3, 0, 0, 0, 0, 6447460), (.lcmp, 1, 0, 0, 0, 0, 0)] (pe := 90) (gs := []) (loc' := [.ref 54, .long y1, .null]) (stk' := [.int (lg_cmp y1 6447460), .ref 54]) (σ' := σ1) (by decide +kernel) rfl).trans ?_
                  refine hb_br0 (hb_fe_ok (r := (.ifCond .eq 19, 3, 109, 0, 0, 0, 0)) (by decide +kernel)) rfl ?_ ?_
                  · exact rfl
                  · refine (hb_blk [(.lload_n 1, 1, 1, 0, 0, 0, 0), (.ldc2_w 209, 3, 0, 0, 0, 0, 1735356260), (.lcmp, 1, 0, 0, 0, 0, 0)] (pe := 98) (gs := []) (loc' := [.ref 54, .long y1, .null]) (stk' := [.int (lg_cmp y1 1735356260), .ref 54]) (σ' := σ1) (by decide +kernel) rfl).trans ?_
                    refine hb_br0 (hb_fe_ok (r := (.ifCond .eq 11, 3, 109, 0, 0, 0, 0)) (by decide +kernel)) rfl ?_ ?_
                    · exact rfl
                    · refine (hb_blk [(.lload_n 1, 1, 1, 0, 0, 0, 0), (.ldc2_w 214, 3, 0, 0, 0, 0, 1937007984), (.lcmp, 1, 0, 0, 0, 0, 0)] (pe := 106) (gs := []) (loc' := [.ref 54, .long y1, .null]) (stk' := [.int (lg_cmp y1 1937007984), .ref 54]) (σ' := σ1) (by decide +kernel) rfl).trans ?_
                      refine hb_br0 (hb_fe_ok (r := (.ifCond .ne 7, 3, 113, 0, 0, 0, 0)) (by decide +kernel)) rfl ?_ ?_
                      · refine (hb_blk [(.iconst 0, 1, 0, 0, 0, 0, 0)] (pe := 114) (gs := []) (loc' := [.ref 54, .long y1, .null]) (stk' := [.int 0, .ref 54]) (σ' := σ1) (by decide +kernel) rfl).trans ?_
                        exact rfl
                      · exact rfl
              · refine (hb_blk [(.aload_n 0, 1, 0, 0, 0, 0, 0), (.getfield 196, 3, 12, 15, 0, 0, 0), (.bipush 16, 2, 0, 0, 0, 16, 0)] (pe := 68) (gs := []) (loc' := [.ref 54, .long y1, .null]) (stk' := [.int 16, .int (σ1 54 15)]) (σ' := σ1) (by decide +kernel) rfl).trans ?_
                refine hb_br (hb_fe_ok (r := (.if_icmp .ne 8, 3, 76, 0, 0, 0, 0)) (by decide +kernel)) rfl ?_ ?_
                · refine (hb_blk [(.aload_n 0, 1, 0, 0, 0, 0, 0), (.lload_n 1, 1, 1, 0, 0, 0, 0), (.ldc2_w 199, 3, 0, 0, 0, 0, 1718382455), (.lcmp, 1, 0, 0, 0, 0, 0)] (pe := 82) (gs := []) (loc' := [.ref 54, .long y1, .null]) (stk' := [.int (lg_cmp y1 1718382455), .ref 54]) (σ' := σ1) (by decide +kernel) rfl).trans ?_
                  refine hb_br0 (hb_fe_ok (r := (.ifCond .eq 27, 3, 109, 0, 0, 0, 0)) (by decide +kernel)) rfl ?_ ?_
                  · exact rfl
                  · refine (hb_blk [(.lload_n 1, 1, 1, 0, 0, 0, 0), (.ldc2_w 204, 3, 0, 0, 0, 0, 6447460), (.lcmp, 1, 0, 0, 0, 0, 0)] (pe := 90) (gs := []) (loc' := [.ref 54, .long y1, .null]) (stk' := [.int (lg_cmp y1 6447460), .ref 54]) (σ' := σ1) (by decide +kernel) rfl).trans ?_
                    refine hb_br0 (hb_fe_ok (r := (.ifCond .eq 19, 3, 109, 0, 0, 0, 0)) (by decide +kernel)) rfl ?_ ?_
                    · exact rfl
                    · refine (hb_blk [(.lload_n 1, 1, 1, 0, 0, 0, 0), (.ldc2_w 209, 3, 0, 0, 0, 0, 1735356260), (.lcmp, 1, 0, 0, 0, 0, 0)] (pe := 98) (gs := []) (loc' := [.ref 54, .long y1, .null]) (stk' := [.int (lg_cmp y1 1735356260), .ref 54]) (σ' := σ1) (by decide +kernel) rfl).trans ?_
                      refine hb_br0 (hb_fe_ok (r := (.ifCond .eq 11, 3, 109, 0, 0, 0, 0)) (by decide +kernel)) rfl ?_ ?_
                      · exact rfl
                      · refine (hb_blk [(.lload_n 1, 1, 1, 0, 0, 0, 0), (.ldc2_w 214, 3, 0, 0, 0, 0, 1937007984), (.lcmp, 1, 0, 0, 0, 0, 0)] (pe := 106) (gs := []) (loc' := [.ref 54, .long y1, .null]) (stk' := [.int (lg_cmp y1 1937007984), .ref 54]) (σ' := σ1) (by decide +kernel) rfl).trans ?_
                        refine hb_br0 (hb_fe_ok (r := (.ifCond .ne 7, 3, 113, 0, 0, 0, 0)) (by decide +kernel)) rfl ?_ ?_
                        · refine (hb_blk [(.iconst 0, 1, 0, 0, 0, 0, 0)] (pe := 114) (gs := []) (loc' := [.ref 54, .long y1, .null]) (stk' := [.int 0, .ref 54]) (σ' := σ1) (by decide +kernel) rfl).trans ?_
                          exact rfl
                        · exact rfl
                · exact rfl
set_option maxRecDepth 8000 in
theorem e132_71  (σ : hbM) (x1 : Int64) : hb_run hbSH 132 (71, [.ref 54, .long x1, .null], [], σ) = hb_cv (hb_ev hbSH 124 [.ref 54, .int 3] σ) (fun σ73 => if ((lg_cmp x1 1718382455) = (0 : Int32)) then (hb_run hbSH 132 (114, [.ref 54, .long x1, .null], [.int 1, .ref 54], σ73)) else (if ((lg_cmp x1 6447460) = (0 : Int32)) then (hb_run hbSH 132 (114, [.ref 54, .long x1, .null], [.int 1, .ref 54], σ73)) else (if ((lg_cmp x1 1735356260) = (0 : Int32)) then (hb_run hbSH 132 (114, [.ref 54, .long x1, .null], [.int 1, .ref 54], σ73)) else (if (¬ (lg_cmp x1 1937007984) = (0 : Int32)) then (hb_run hbSH 132 (114, [.ref 54, .long x1, .null], [.int 0, .ref 54], σ73)) else (hb_run hbSH 132 (114, [.ref 54, .long x1, .null], [.int 1, .ref 54], σ73)))))) := by
  refine (hb_blk [(.aload_n 0, 1, 0, 0, 0, 0, 0), (.iconst 3, 1, 0, 0, 0, 3, 0)] (pe := 73) (gs := []) (loc' := [.ref 54, .long x1, .null]) (stk' := [.int 3, .ref 54]) (σ' := σ) (by decide +kernel) rfl).trans ?_
  refine hb_Vv (hb_fe_ok (r := (.invokevirtual 151, 3, 124, 1, 0, 0, 0)) (by decide +kernel)) (by decide +kernel) (as := [.int 3]) (v := .ref 54) (rest := []) rfl rfl (Nat.le_of_ble_eq_true rfl) (fun σ73 => ?_)
  refine (hb_blk [(.aload_n 0, 1, 0, 0, 0, 0, 0), (.lload_n 1, 1, 1, 0, 0, 0, 0), (.ldc2_w 199, 3, 0, 0, 0, 0, 1718382455), (.lcmp, 1, 0, 0, 0, 0, 0)] (pe := 82) (gs := []) (loc' := [.ref 54, .long x1, .null]) (stk' := [.int (lg_cmp x1 1718382455), .ref 54]) (σ' := σ73) (by decide +kernel) rfl).trans ?_
  refine hb_br0 (hb_fe_ok (r := (.ifCond .eq 27, 3, 109, 0, 0, 0, 0)) (by decide +kernel)) rfl ?_ ?_
  · refine (hb_blk [(.iconst 1, 1, 0, 0, 0, 1, 0)] (pe := 110) (gs := []) (loc' := [.ref 54, .long x1, .null]) (stk' := [.int 1, .ref 54]) (σ' := σ73) (by decide +kernel) rfl).trans ?_
    refine (hb_r_goto (hb_fe_ok (r := (.goto 4, 3, 114, 0, 0, 0, 0)) (by decide +kernel))).trans ?_
    exact rfl
  · refine (hb_blk [(.lload_n 1, 1, 1, 0, 0, 0, 0), (.ldc2_w 204, 3, 0, 0, 0, 0, 6447460), (.lcmp, 1, 0, 0, 0, 0, 0)] (pe := 90) (gs := []) (loc' := [.ref 54, .long x1, .null]) (stk' := [.int (lg_cmp x1 6447460), .ref 54]) (σ' := σ73) (by decide +kernel) rfl).trans ?_
    refine hb_br0 (hb_fe_ok (r := (.ifCond .eq 19, 3, 109, 0, 0, 0, 0)) (by decide +kernel)) rfl ?_ ?_
    · refine (hb_blk [(.iconst 1, 1, 0, 0, 0, 1, 0)] (pe := 110) (gs := []) (loc' := [.ref 54, .long x1, .null]) (stk' := [.int 1, .ref 54]) (σ' := σ73) (by decide +kernel) rfl).trans ?_
      refine (hb_r_goto (hb_fe_ok (r := (.goto 4, 3, 114, 0, 0, 0, 0)) (by decide +kernel))).trans ?_
      exact rfl
    · refine (hb_blk [(.lload_n 1, 1, 1, 0, 0, 0, 0), (.ldc2_w 209, 3, 0, 0, 0, 0, 1735356260), (.lcmp, 1, 0, 0, 0, 0, 0)] (pe := 98) (gs := []) (loc' := [.ref 54, .long x1, .null]) (stk' := [.int (lg_cmp x1 1735356260), .ref 54]) (σ' := σ73) (by decide +kernel) rfl).trans ?_
      refine hb_br0 (hb_fe_ok (r := (.ifCond .eq 11, 3, 109, 0, 0, 0, 0)) (by decide +kernel)) rfl ?_ ?_
      · refine (hb_blk [(.iconst 1, 1, 0, 0, 0, 1, 0)] (pe := 110) (gs := []) (loc' := [.ref 54, .long x1, .null]) (stk' := [.int 1, .ref 54]) (σ' := σ73) (by decide +kernel) rfl).trans ?_
        refine (hb_r_goto (hb_fe_ok (r := (.goto 4, 3, 114, 0, 0, 0, 0)) (by decide +kernel))).trans ?_
        exact rfl
      · refine (hb_blk [(.lload_n 1, 1, 1, 0, 0, 0, 0), (.ldc2_w 214, 3, 0, 0, 0, 0, 1937007984), (.lcmp, 1, 0, 0, 0, 0, 0)] (pe := 106) (gs := []) (loc' := [.ref 54, .long x1, .null]) (stk' := [.int (lg_cmp x1 1937007984), .ref 54]) (σ' := σ73) (by decide +kernel) rfl).trans ?_
        refine hb_br0 (hb_fe_ok (r := (.ifCond .ne 7, 3, 113, 0, 0, 0, 0)) (by decide +kernel)) rfl ?_ ?_
        · refine (hb_blk [(.iconst 0, 1, 0, 0, 0, 0, 0)] (pe := 114) (gs := []) (loc' := [.ref 54, .long x1, .null]) (stk' := [.int 0, .ref 54]) (σ' := σ73) (by decide +kernel) rfl).trans ?_
          exact rfl
        · refine (hb_blk [(.iconst 1, 1, 0, 0, 0, 1, 0)] (pe := 110) (gs := []) (loc' := [.ref 54, .long x1, .null]) (stk' := [.int 1, .ref 54]) (σ' := σ73) (by decide +kernel) rfl).trans ?_
          refine (hb_r_goto (hb_fe_ok (r := (.goto 4, 3, 114, 0, 0, 0, 0)) (by decide +kernel))).trans ?_
          exact rfl
set_option maxRecDepth 8000 in
theorem e132_109  (σ : hbM) (x1 : Int64) : hb_run hbSH 132 (109, [.ref 54, .long x1, .null], [.ref 54], σ) = hb_run hbSH 132 (114, [.ref 54, .long x1, .null], [.int 1, .ref 54], σ) := by
  refine (hb_blk [(.iconst 1, 1, 0, 0, 0, 1, 0)] (pe := 110) (gs := []) (loc' := [.ref 54, .long x1, .null]) (stk' := [.int 1, .ref 54]) (σ' := σ) (by decide +kernel) rfl).trans ?_
  refine (hb_r_goto (hb_fe_ok (r := (.goto 4, 3, 114, 0, 0, 0, 0)) (by decide +kernel))).trans ?_
  exact rfl
set_option maxRecDepth 8000 in
theorem e132_114  (σ : hbM) (x1 : Int64) (s0 : Int32) : hb_run hbSH 132 (114, [.ref 54, .long x1, .null], [.int s0, .ref 54], σ) = hb_cv (hb_ev hbSH 125 [.ref 54, .int s0] σ) (fun σ114 => if ((σ114 54 30) ≤ (0 : Int32)) then (if (¬ (lg_cmp x1 1718382455) = (0 : Int32)) then (if (¬ (lg_cmp x1 6447460) = (0 : Int32)) then (if (¬ (lg_cmp x1 1735356260) = (0 : Int32)) then (hb_cv (hb_ev hbSH 131 [.ref 54] σ114) (fun σ298 => if (¬ (σ298 54 30) = (0 : Int32)) then (some (none, σ298)) else (if (¬ (σ298 54 27) = (4 : Int32)) then (hb_run hbSH 132 (322, [.ref 54, .long x1, .null], [.int 0, .ref 54], σ298)) else (hb_run hbSH 132 (322, [.ref 54, .long x1, .null], [.int 1, .ref 54], σ298))))) else (hb_cv (hb_ev hbSH 130 [.ref 54, .int ((4 : Int32) + (σ114 54 14))] σ114) (fun σ281 => if (¬ (σ281 54 30) = (0 : Int32)) then (some (none, (hb_up σ281 54 14 ((σ281 54 14) + (1 : Int32))))) else (if (¬ (σ281 54 27) = (4 : Int32)) then (hb_run hbSH 132 (322, [.ref 54, .long x1, .null], [.int 0, .ref 54], (hb_up σ281 54 14 ((σ281 54 14) + (1 : Int32))))) else (hb_run hbSH 132 (322, [.ref 54, .long x1, .null], [.int 1, .ref 54], (hb_up σ281 54 14 ((σ281 54 14) + (1 : Int32))))))))) else (hb_cv (hb_ev hbSH 130 [.ref 54, .int (σ114 54 13)] σ114) (fun σ250 => if (¬ (σ250 54 30) = (0 : Int32)) then (some (none, (hb_up σ250 54 13 ((σ250 54 13) + (1 : Int32))))) else (if (¬ (σ250 54 27) = (4 : Int32)) then (hb_run hbSH 132 (322, [.ref 54, .long x1, .null], [.int 0, .ref 54], (hb_up σ250 54 13 ((σ250 54 13) + (1 : Int32))))) else (hb_run hbSH 132 (322, [.ref 54, .long x1, .null], [.int 1, .ref 54], (hb_up σ250 54 13 ((σ250 54 13) + (1 : Int32))))))))) else (hb_ci (hb_ev hbSH 127 [.ref 54, .int 3] σ114) (fun y143 σ143 => hb_g [hb_in (σ114 54 12) 8] (hb_ci (hb_ev hbSH 127 [.ref 54, .int 1] (hb_up σ143 58 (Int32.toNatClampNeg (σ114 54 12)) y143)) (fun y157 σ157 => hb_g [hb_in (σ143 54 12) 8] (if (¬ (σ157 54 30) = (0 : Int32)) then (if (¬ (σ157 54 30) = (0 : Int32)) then (some (none, (hb_up (hb_up σ157 59 (Int32.toNatClampNeg (σ143 54 12)) y157) 54 12 ((σ157 54 12) + (1 : Int32))))) else (if (¬ (σ157 54 27) = (4 : Int32)) then (hb_run hbSH 132 (322, [.ref 54, .long x1, .null], [.int 0, .ref 54], (hb_up (hb_up σ157 59 (Int32.toNatClampNeg (σ143 54 12)) y157) 54 12 ((σ157 54 12) + (1 : Int32))))) else (hb_run hbSH 132 (322, [.ref 54, .long x1, .null], [.int 1, .ref 54], (hb_up (hb_up σ157 59 (Int32.toNatClampNeg (σ143 54 12)) y157) 54 12 ((σ157 54 12) + (1 : Int32))))))) else (hb_cl (hb_ev hbSH 126 [.ref 54] (hb_up σ157 59 (Int32.toNatClampNeg (σ143 54 12)) y157)) (fun y177 σ177 => if (¬ (lg_cmp y177 30064) = (0 : Int32)) then (hb_run hbSH 132 (192, [.ref 54, .long x1, .null], [.int (-1), .int (σ157 54 12), .ref 60], σ177)) else (hb_run hbSH 132 (192, [.ref 54, .long x1, .null], [.int 1, .int (σ157 54 12), .ref 60], σ177)))))))))) else (some (none, σ114))) := by
  refine hb_Vv (hb_fe_ok (r := (.invokevirtual 158, 3, 125, 1, 0, 0, 0)) (by decide +kernel)) (by decide +kernel) (as := [.int s0]) (v := .ref 54) (rest := []) rfl rfl (Nat.le_of_ble_eq_true rfl) (fun σ114 => ?_)
  refine (hb_blk [(.aload_n 0, 1, 0, 0, 0, 0, 0), (.getfield 145, 3, 12, 30, 0, 0, 0)] (pe := 121) (gs := []) (loc' := [.ref 54, .long x1, .null]) (stk' := [.int (σ114 54 30)]) (σ' := σ114) (by decide +kernel) rfl).trans ?_
  refine hb_br0 (hb_fe_ok (r := (.ifCond .le 4, 3, 125, 0, 0, 0, 0)) (by decide +kernel)) rfl ?_ ?_
  · refine (hb_blk [(.lload_n 1, 1, 1, 0, 0, 0, 0), (.ldc2_w 199, 3, 0, 0, 0, 0, 1718382455), (.lcmp, 1, 0, 0, 0, 0, 0)] (pe := 130) (gs := []) (loc' := [.ref 54, .long x1, .null]) (stk' := [.int (lg_cmp x1 1718382455)]) (σ' := σ114) (by decide +kernel) rfl).trans ?_
    refine hb_br0 (hb_fe_ok (r := (.ifCond .ne 107, 3, 237, 0, 0, 0, 0)) (by decide +kernel)) rfl ?_ ?_
    · refine (hb_blk [(.lload_n 1, 1, 1, 0, 0, 0, 0), (.ldc2_w 204, 3, 0, 0, 0, 0, 6447460), (.lcmp, 1, 0, 0, 0, 0, 0)] (pe := 242) (gs := []) (loc' := [.ref 54, .long x1, .null]) (stk' := [.int (lg_cmp x1 6447460)]) (σ' := σ114) (by decide +kernel) rfl).trans ?_
      refine hb_br0 (hb_fe_ok (r := (.ifCond .ne 24, 3, 266, 0, 0, 0, 0)) (by decide +kernel)) rfl ?_ ?_
      · refine (hb_blk [(.lload_n 1, 1, 1, 0, 0, 0, 0), (.ldc2_w 209, 3, 0, 0, 0, 0, 1735356260), (.lcmp, 1, 0, 0, 0, 0, 0)] (pe := 271) (gs := []) (loc' := [.ref 54, .long x1, .null]) (stk' := [.int (lg_cmp x1 1735356260)]) (σ' := σ114) (by decide +kernel) rfl).trans ?_
        refine hb_br0 (hb_fe_ok (r := (.ifCond .ne 26, 3, 297, 0, 0, 0, 0)) (by decide +kernel)) rfl ?_ ?_
        · refine (hb_blk [(.aload_n 0, 1, 0, 0, 0, 0, 0)] (pe := 298) (gs := []) (loc' := [.ref 54, .long x1, .null]) (stk' := [.ref 54]) (σ' := σ114) (by decide +kernel) rfl).trans ?_
          refine hb_Vv (hb_fe_ok (r := (.invokevirtual 223, 3, 131, 0, 0, 0, 0)) (by decide +kernel)) (by decide +kernel) (as := []) (v := .ref 54) (rest := []) rfl rfl (Nat.le_of_ble_eq_true rfl) (fun σ298 => ?_)
          refine (hb_blk [(.aload_n 0, 1, 0, 0, 0, 0, 0), (.getfield 145, 3, 12, 30, 0, 0, 0)] (pe := 305) (gs := []) (loc' := [.ref 54, .long x1, .null]) (stk' := [.int (σ298 54 30)]) (σ' := σ298) (by decide +kernel) rfl).trans ?_
          refine hb_br0 (hb_fe_ok (r := (.ifCond .ne 20, 3, 325, 0, 0, 0, 0)) (by decide +kernel)) rfl ?_ ?_
          · exact hb_r_vret (hb_fe_ok (r := (.return_, 1, 0, 0, 0, 0, 0)) (by decide +kernel))
          · refine (hb_blk [(.aload_n 0, 1, 0, 0, 0, 0, 0), (.aload_n 0, 1, 0, 0, 0, 0, 0), (.getfield 133, 3, 12, 27, 0, 0, 0), (.iconst 4, 1, 0, 0, 0, 4, 0)] (pe := 314) (gs := []) (loc' := [.ref 54, .long x1, .null]) (stk' := [.int 4, .int (σ298 54 27), .ref 54]) (σ' := σ298) (by decide +kernel) rfl).trans ?_
            refine hb_br (hb_fe_ok (r := (.if_icmp .ne 7, 3, 321, 0, 0, 0, 0)) (by decide +kernel)) rfl ?_ ?_
            · refine (hb_blk [(.iconst 0, 1, 0, 0, 0, 0, 0)] (pe := 322) (gs := []) (loc' := [.ref 54, .long x1, .null]) (stk' := [.int 0, .ref 54]) (σ' := σ298) (by decide +kernel) rfl).trans ?_
              exact rfl
            · refine (hb_blk [(.iconst 1, 1, 0, 0, 0, 1, 0)] (pe := 318) (gs := []) (loc' := [.ref 54, .long x1, .null]) (stk' := [.int 1, .ref 54]) (σ' := σ298) (by decide +kernel) rfl).trans ?_
              refine (hb_r_goto (hb_fe_ok (r := (.goto 4, 3, 322, 0, 0, 0, 0)) (by decide +kernel))).trans ?_
              exact rfl
        · refine (hb_blk [(.aload_n 0, 1, 0, 0, 0, 0, 0), (.iconst 4, 1, 0, 0, 0, 4, 0), (.aload_n 0, 1, 0, 0, 0, 0, 0), (.getfield 211, 3, 12, 14, 0, 0, 0), (.iadd, 1, 0, 0, 0, 0, 0)] (pe := 281) (gs := []) (loc' := [.ref 54, .long x1, .null]) (stk' := [.int ((4 : Int32) + (σ114 54 14)), .ref 54]) (σ' := σ114) (by decide +kernel) rfl).trans ?_
          refine hb_Vv (hb_fe_ok (r := (.invokevirtual 220, 3, 130, 1, 0, 0, 0)) (by decide +kernel)) (by decide +kernel) (as := [.int ((4 : Int32) + (σ114 54 14))]) (v := .ref 54) (rest := []) rfl rfl (Nat.le_of_ble_eq_true rfl) (fun σ281 => ?_)
          refine (hb_blk [(.aload_n 0, 1, 0, 0, 0, 0, 0), (.dup, 1, 0, 0, 0, 0, 0), (.getfield 211, 3, 12, 14, 0, 0, 0), (.iconst 1, 1, 0, 0, 0, 1, 0), (.iadd, 1, 0, 0, 0, 0, 0), (.putfield 211, 3, 12, 14, 0, 0, 0)] (pe := 294) (gs := []) (loc' := [.ref 54, .long x1, .null]) (stk' := []) (σ' := (hb_up σ281 54 14 ((σ281 54 14) + (1 : Int32)))) (by decide +kernel) rfl).trans ?_
          refine (hb_r_goto (hb_fe_ok (r := (.goto 7, 3, 301, 0, 0, 0, 0)) (by decide +kernel))).trans ?_
          refine (hb_blk [(.aload_n 0, 1, 0, 0, 0, 0, 0), (.getfield 145, 3, 12, 30, 0, 0, 0)] (pe := 305) (gs := []) (loc' := [.ref 54, .long x1, .null]) (stk' := [.int (σ281 54 30)]) (σ' := (hb_up σ281 54 14 ((σ281 54 14) + (1 : Int32)))) (by decide +kernel) rfl).trans ?_
          refine hb_br0 (hb_fe_ok (r := (.ifCond .ne 20, 3, 325, 0, 0, 0, 0)) (by decide +kernel)) rfl ?_ ?_
          · exact hb_r_vret (hb_fe_ok (r := (.return_, 1, 0, 0, 0, 0, 0)) (by decide +kernel))
          · refine (hb_blk [(.aload_n 0, 1, 0, 0, 0, 0, 0), (.aload_n 0, 1, 0, 0, 0, 0, 0), (.getfield 133, 3, 12, 27, 0, 0, 0), (.iconst 4, 1, 0, 0, 0, 4, 0)] (pe := 314) (gs := []) (loc' := [.ref 54, .long x1, .null]) (stk' := [.int 4, .int (σ281 54 27), .ref 54]) (σ' := (hb_up σ281 54 14 ((σ281 54 14) + (1 : Int32)))) (by decide +kernel) rfl).trans ?_
            refine hb_br (hb_fe_ok (r := (.if_icmp .ne 7, 3, 321, 0, 0, 0, 0)) (by decide +kernel)) rfl ?_ ?_
            · refine (hb_blk [(.iconst 0, 1, 0, 0, 0, 0, 0)] (pe := 322) (gs := []) (loc' := [.ref 54, .long x1, .null]) (stk' := [.int 0, .ref 54]) (σ' := (hb_up σ281 54 14 ((σ281 54 14) + (1 : Int32)))) (by decide +kernel) rfl).trans ?_
              exact rfl
            · refine (hb_blk [(.iconst 1, 1, 0, 0, 0, 1, 0)] (pe := 318) (gs := []) (loc' := [.ref 54, .long x1, .null]) (stk' := [.int 1, .ref 54]) (σ' := (hb_up σ281 54 14 ((σ281 54 14) + (1 : Int32)))) (by decide +kernel) rfl).trans ?_
              refine (hb_r_goto (hb_fe_ok (r := (.goto 4, 3, 322, 0, 0, 0, 0)) (by decide +kernel))).trans ?_
              exact rfl
      · refine (hb_blk [(.aload_n 0, 1, 0, 0, 0, 0, 0), (.aload_n 0, 1, 0, 0, 0, 0, 0), (.getfield 206, 3, 12, 13, 0, 0, 0)] (pe := 250) (gs := []) (loc' := [.ref 54, .long x1, .null]) (stk' := [.int (σ114 54 13), .ref 54]) (σ' := σ114) (by decide +kernel) rfl).trans ?_
        refine hb_Vv (hb_fe_ok (r := (.invokevirtual 220, 3, 130, 1, 0, 0, 0)) (by decide +kernel)) (by decide +kernel) (as := [.int (σ114 54 13)]) (v := .ref 54) (rest := []) rfl rfl (Nat.le_of_ble_eq_true rfl) (fun σ250 => ?_)
        refine (hb_blk [(.aload_n 0, 1, 0, 0, 0, 0, 0), (.dup, 1, 0, 0, 0, 0, 0), (.getfield 206, 3, 12, 13, 0, 0, 0), (.iconst 1, 1, 0, 0, 0, 1, 0), (.iadd, 1, 0, 0, 0, 0, 0), (.putfield 206, 3, 12, 13, 0, 0, 0)] (pe := 263) (gs := []) (loc' := [.ref 54, .long x1, .null]) (stk' := []) (σ' := (hb_up σ250 54 13 ((σ250 54 13) + (1 : Int32)))) (by decide +kernel) rfl).trans ?_
        refine (hb_r_goto (hb_fe_ok (r := (.goto 38, 3, 301, 0, 0, 0, 0)) (by decide +kernel))).trans ?_
        refine (hb_blk [(.aload_n 0, 1, 0, 0, 0, 0, 0), (.getfield 145, 3, 12, 30, 0, 0, 0)] (pe := 305) (gs := []) (loc' := [.ref 54, .long x1, .null]) (stk' := [.int (σ250 54 30)]) (σ' := (hb_up σ250 54 13 ((σ250 54 13) + (1 : Int32)))) (by decide +kernel) rfl).trans ?_
        refine hb_br0 (hb_fe_ok (r := (.ifCond .ne 20, 3, 325, 0, 0, 0, 0)) (by decide +kernel)) rfl ?_ ?_
        · exact hb_r_vret (hb_fe_ok (r := (.return_, 1, 0, 0, 0, 0, 0)) (by decide +kernel))
        · refine (hb_blk [(.aload_n 0, 1, 0, 0, 0, 0, 0), (.aload_n 0, 1, 0, 0, 0, 0, 0), (.getfield 133, 3, 12, 27, 0, 0, 0), (.iconst 4, 1, 0, 0, 0, 4, 0)] (pe := 314) (gs := []) (loc' := [.ref 54, .long x1, .null]) (stk' := [.int 4, .int (σ250 54 27), .ref 54]) (σ' := (hb_up σ250 54 13 ((σ250 54 13) + (1 : Int32)))) (by decide +kernel) rfl).trans ?_
          refine hb_br (hb_fe_ok (r := (.if_icmp .ne 7, 3, 321, 0, 0, 0, 0)) (by decide +kernel)) rfl ?_ ?_
          · refine (hb_blk [(.iconst 0, 1, 0, 0, 0, 0, 0)] (pe := 322) (gs := []) (loc' := [.ref 54, .long x1, .null]) (stk' := [.int 0, .ref 54]) (σ' := (hb_up σ250 54 13 ((σ250 54 13) + (1 : Int32)))) (by decide +kernel) rfl).trans ?_
            exact rfl
          · refine (hb_blk [(.iconst 1, 1, 0, 0, 0, 1, 0)] (pe := 318) (gs := []) (loc' := [.ref 54, .long x1, .null]) (stk' := [.int 1, .ref 54]) (σ' := (hb_up σ250 54 13 ((σ250 54 13) + (1 : Int32)))) (by decide +kernel) rfl).trans ?_
            refine (hb_r_goto (hb_fe_ok (r := (.goto 4, 3, 322, 0, 0, 0, 0)) (by decide +kernel))).trans ?_
            exact rfl
    · refine (hb_blk [(.aload_n 0, 1, 0, 0, 0, 0, 0), (.getfield 19, 3, 12, 6, 0, 0, 0), (.aload_n 0, 1, 0, 0, 0, 0, 0), (.getfield 201, 3, 12, 12, 0, 0, 0), (.aload_n 0, 1, 0, 0, 0, 0, 0), (.iconst 3, 1, 0, 0, 0, 3, 0)] (pe := 143) (gs := []) (loc' := [.ref 54, .long x1, .null]) (stk' := [.int 3, .ref 54, .int (σ114 54 12), .ref 58]) (σ' := σ114) (by decide +kernel) rfl).trans ?_
      refine hb_Vi (hb_fe_ok (r := (.invokevirtual 188, 3, 127, 1, 0, 0, 0)) (by decide +kernel)) (by decide +kernel) (as := [.int 3]) (v := .ref 54) (rest := [.int (σ114 54 12), .ref 58]) rfl rfl (Nat.le_of_ble_eq_true rfl) (fun y143 σ143 => ?_)
      refine (hb_blk [(.iastore, 1, 0, 0, 0, 0, 0), (.aload_n 0, 1, 0, 0, 0, 0, 0), (.getfield 22, 3, 12, 7, 0, 0, 0), (.aload_n 0, 1, 0, 0, 0, 0, 0), (.getfield 201, 3, 12, 12, 0, 0, 0), (.aload_n 0, 1, 0, 0, 0, 0, 0), (.iconst 1, 1, 0, 0, 0, 1, 0)] (pe := 157) (gs := [hb_in (σ114 54 12) 8]) (loc' := [.ref 54, .long x1, .null]) (stk' := [.int 1, .ref 54, .int (σ143 54 12), .ref 59]) (σ' := (hb_up σ143 58 (Int32.toNatClampNeg (σ114 54 12)) y143)) (by decide +kernel) rfl).trans ?_
      refine congrArg (hb_g _) ?_
      refine hb_Vi (hb_fe_ok (r := (.invokevirtual 188, 3, 127, 1, 0, 0, 0)) (by decide +kernel)) (by decide +kernel) (as := [.int 1]) (v := .ref 54) (rest := [.int (σ143 54 12), .ref 59]) rfl rfl (Nat.le_of_ble_eq_true rfl) (fun y157 σ157 => ?_)
      refine (hb_blk [(.iastore, 1, 0, 0, 0, 0, 0), (.aload_n 0, 1, 0, 0, 0, 0, 0), (.getfield 145, 3, 12, 30, 0, 0, 0)] (pe := 165) (gs := [hb_in (σ143 54 12) 8]) (loc' := [.ref 54, .long x1, .null]) (stk' := [.int (σ157 54 30)]) (σ' := (hb_up σ157 59 (Int32.toNatClampNeg (σ143 54 12)) y157)) (by decide +kernel) rfl).trans ?_
      refine congrArg (hb_g _) ?_
      refine hb_br0 (hb_fe_ok (r := (.ifCond .ne 59, 3, 224, 0, 0, 0, 0)) (by decide +kernel)) rfl ?_ ?_
      · refine (hb_blk [(.aload_n 0, 1, 0, 0, 0, 0, 0), (.dup, 1, 0, 0, 0, 0, 0), (.getfield 201, 3, 12, 12, 0, 0, 0), (.iconst 1, 1, 0, 0, 0, 1, 0), (.iadd, 1, 0, 0, 0, 0, 0), (.putfield 201, 3, 12, 12, 0, 0, 0)] (pe := 234) (gs := []) (loc' := [.ref 54, .long x1, .null]) (stk' := []) (σ' := (hb_up (hb_up σ157 59 (Int32.toNatClampNeg (σ143 54 12)) y157) 54 12 ((σ157 54 12) + (1 : Int32)))) (by decide +kernel) rfl).trans ?_
        refine (hb_r_goto (hb_fe_ok (r := (.goto 67, 3, 301, 0, 0, 0, 0)) (by decide +kernel))).trans ?_
        refine (hb_blk [(.aload_n 0, 1, 0, 0, 0, 0, 0), (.getfield 145, 3, 12, 30, 0, 0, 0)] (pe := 305) (gs := []) (loc' := [.ref 54, .long x1, .null]) (stk' := [.int (σ157 54 30)]) (σ' := (hb_up (hb_up σ157 59 (Int32.toNatClampNeg (σ143 54 12)) y157) 54 12 ((σ157 54 12) + (1 : Int32)))) (by decide +kernel) rfl).trans ?_
        refine hb_br0 (hb_fe_ok (r := (.ifCond .ne 20, 3, 325, 0, 0, 0, 0)) (by decide +kernel)) rfl ?_ ?_
        · exact hb_r_vret (hb_fe_ok (r := (.return_, 1, 0, 0, 0, 0, 0)) (by decide +kernel))
        · refine (hb_blk [(.aload_n 0, 1, 0, 0, 0, 0, 0), (.aload_n 0, 1, 0, 0, 0, 0, 0), (.getfield 133, 3, 12, 27, 0, 0, 0), (.iconst 4, 1, 0, 0, 0, 4, 0)] (pe := 314) (gs := []) (loc' := [.ref 54, .long x1, .null]) (stk' := [.int 4, .int (σ157 54 27), .ref 54]) (σ' := (hb_up (hb_up σ157 59 (Int32.toNatClampNeg (σ143 54 12)) y157) 54 12 ((σ157 54 12) + (1 : Int32)))) (by decide +kernel) rfl).trans ?_
          refine hb_br (hb_fe_ok (r := (.if_icmp .ne 7, 3, 321, 0, 0, 0, 0)) (by decide +kernel)) rfl ?_ ?_
          · refine (hb_blk [(.iconst 0, 1, 0, 0, 0, 0, 0)] (pe := 322) (gs := []) (loc' := [.ref 54, .long x1, .null]) (stk' := [.int 0, .ref 54]) (σ' := (hb_up (hb_up σ157 59 (Int32.toNatClampNeg (σ143 54 12)) y157) 54 12 ((σ157 54 12) + (1 : Int32)))) (by decide +kernel) rfl).trans ?_
            exact rfl
          · refine (hb_blk [(.iconst 1, 1, 0, 0, 0, 1, 0)] (pe := 318) (gs := []) (loc' := [.ref 54, .long x1, .null]) (stk' := [.int 1, .ref 54]) (σ' := (hb_up (hb_up σ157 59 (Int32.toNatClampNeg (σ143 54 12)) y157) 54 12 ((σ157 54 12) + (1 : Int32)))) (by decide +kernel) rfl).trans ?_
            refine (hb_r_goto (hb_fe_ok (r := (.goto 4, 3, 322, 0, 0, 0, 0)) (by decide +kernel))).trans ?_
            exact rfl
      · refine (hb_blk [(.aload_n 0, 1, 0, 0, 0, 0, 0), (.getfield 25, 3, 12, 8, 0, 0, 0), (.aload_n 0, 1, 0, 0, 0, 0, 0), (.getfield 201, 3, 12, 12, 0, 0, 0), (.aload_n 0, 1, 0, 0, 0, 0, 0)] (pe := 177) (gs := []) (loc' := [.ref 54, .long x1, .null]) (stk' := [.ref 54, .int (σ157 54 12), .ref 60]) (σ' := (hb_up σ157 59 (Int32.toNatClampNeg (σ143 54 12)) y157)) (by decide +kernel) rfl).trans ?_
        refine hb_Vl (hb_fe_ok (r := (.invokevirtual 162, 3, 126, 0, 0, 0, 0)) (by decide +kernel)) (by decide +kernel) (as := []) (v := .ref 54) (rest := [.int (σ157 54 12), .ref 60]) rfl rfl (Nat.le_of_ble_eq_true rfl) (fun y177 σ177 => ?_)
        refine (hb_blk [(.ldc2_w 216, 3, 0, 0, 0, 0, 30064), (.lcmp, 1, 0, 0, 0, 0, 0)] (pe := 184) (gs := []) (loc' := [.ref 54, .long x1, .null]) (stk' := [.int (lg_cmp y177 30064), .int (σ157 54 12), .ref 60]) (σ' := σ177) (by decide +kernel) rfl).trans ?_
        refine hb_br0 (hb_fe_ok (r := (.ifCond .ne 7, 3, 191, 0, 0, 0, 0)) (by decide +kernel)) rfl ?_ ?_
        · refine (hb_blk [(.iconst (-1), 1, 0, 0, 0, (-1), 0)] (pe := 192) (gs := []) (loc' := [.ref 54, .long x1, .null]) (stk' := [.int (-1), .int (σ157 54 12), .ref 60]) (σ' := σ177) (by decide +kernel) rfl).trans ?_
          exact rfl
        · refine (hb_blk [(.iconst 1, 1, 0, 0, 0, 1, 0)] (pe := 188) (gs := []) (loc' := [.ref 54, .long x1, .null]) (stk' := [.int 1, .int (σ157 54 12), .ref 60]) (σ' := σ177) (by decide +kernel) rfl).trans ?_
          refine (hb_r_goto (hb_fe_ok (r := (.goto 4, 3, 192, 0, 0, 0, 0)) (by decide +kernel))).trans ?_
          exact rfl
  · exact hb_r_vret (hb_fe_ok (r := (.return_, 1, 0, 0, 0, 0, 0)) (by decide +kernel))
set_option maxRecDepth 8000 in
theorem e132_192  (σ : hbM) (x1 : Int64) (s0 : Int32) (s1 : Int32) : hb_run hbSH 132 (192, [.ref 54, .long x1, .null], [.int s0, .int s1, .ref 60], σ) = hb_g [hb_in s1 8] (hb_cl (hb_ev hbSH 126 [.ref 54] (hb_up σ 60 (Int32.toNatClampNeg s1) s0)) (fun y195 σ195 => if ((lg_cmp y195 30064) = (0 : Int32)) then (hb_run hbSH 132 (221, [.ref 54, .long x1, .null], [.int 1, .ref 54], σ195)) else (hb_cl (hb_ev hbSH 126 [.ref 54] σ195) (fun y206 σ206 => if (¬ (lg_cmp y206 1685026670) = (0 : Int32)) then (hb_run hbSH 132 (221, [.ref 54, .long x1, .null], [.int 0, .ref 54], σ206)) else (hb_run hbSH 132 (221, [.ref 54, .long x1, .null], [.int 1, .ref 54], σ206)))))) := by
  refine (hb_blk [(.iastore, 1, 0, 0, 0, 0, 0), (.aload_n 0, 1, 0, 0, 0, 0, 0), (.aload_n 0, 1, 0, 0, 0, 0, 0)] (pe := 195) (gs := [hb_in s1 8]) (loc' := [.ref 54, .long x1, .null]) (stk' := [.ref 54, .ref 54]) (σ' := (hb_up σ 60 (Int32.toNatClampNeg s1) s0)) (by decide +kernel) rfl).trans ?_
  refine congrArg (hb_g _) ?_
  refine hb_Vl (hb_fe_ok (r := (.invokevirtual 162, 3, 126, 0, 0, 0, 0)) (by decide +kernel)) (by decide +kernel) (as := []) (v := .ref 54) (rest := [.ref 54]) rfl rfl (Nat.le_of_ble_eq_true rfl) (fun y195 σ195 => ?_)
  refine (hb_blk [(.ldc2_w 216, 3, 0, 0, 0, 0, 30064), (.lcmp, 1, 0, 0, 0, 0, 0)] (pe := 202) (gs := []) (loc' := [.ref 54, .long x1, .null]) (stk' := [.int (lg_cmp y195 30064), .ref 54]) (σ' := σ195) (by decide +kernel) rfl).trans ?_
  refine hb_br0 (hb_fe_ok (r := (.ifCond .eq 14, 3, 216, 0, 0, 0, 0)) (by decide +kernel)) rfl ?_ ?_
  · refine (hb_blk [(.iconst 1, 1, 0, 0, 0, 1, 0)] (pe := 217) (gs := []) (loc' := [.ref 54, .long x1, .null]) (stk' := [.int 1, .ref 54]) (σ' := σ195) (by decide +kernel) rfl).trans ?_
    refine (hb_r_goto (hb_fe_ok (r := (.goto 4, 3, 221, 0, 0, 0, 0)) (by decide +kernel))).trans ?_
    exact rfl
  · refine (hb_blk [(.aload_n 0, 1, 0, 0, 0, 0, 0)] (pe := 206) (gs := []) (loc' := [.ref 54, .long x1, .null]) (stk' := [.ref 54, .ref 54]) (σ' := σ195) (by decide +kernel) rfl).trans ?_
    refine hb_Vl (hb_fe_ok (r := (.invokevirtual 162, 3, 126, 0, 0, 0, 0)) (by decide +kernel)) (by decide +kernel) (as := []) (v := .ref 54) (rest := [.ref 54]) rfl rfl (Nat.le_of_ble_eq_true rfl) (fun y206 σ206 => ?_)
    refine (hb_blk [(.ldc2_w 218, 3, 0, 0, 0, 0, 1685026670), (.lcmp, 1, 0, 0, 0, 0, 0)] (pe := 213) (gs := []) (loc' := [.ref 54, .long x1, .null]) (stk' := [.int (lg_cmp y206 1685026670), .ref 54]) (σ' := σ206) (by decide +kernel) rfl).trans ?_
    refine hb_br0 (hb_fe_ok (r := (.ifCond .ne 7, 3, 220, 0, 0, 0, 0)) (by decide +kernel)) rfl ?_ ?_
    · refine (hb_blk [(.iconst 0, 1, 0, 0, 0, 0, 0)] (pe := 221) (gs := []) (loc' := [.ref 54, .long x1, .null]) (stk' := [.int 0, .ref 54]) (σ' := σ206) (by decide +kernel) rfl).trans ?_
      exact rfl
    · refine (hb_blk [(.iconst 1, 1, 0, 0, 0, 1, 0)] (pe := 217) (gs := []) (loc' := [.ref 54, .long x1, .null]) (stk' := [.int 1, .ref 54]) (σ' := σ206) (by decide +kernel) rfl).trans ?_
      refine (hb_r_goto (hb_fe_ok (r := (.goto 4, 3, 221, 0, 0, 0, 0)) (by decide +kernel))).trans ?_
      exact rfl
set_option maxRecDepth 8000 in
theorem e132_221  (σ : hbM) (x1 : Int64) (s0 : Int32) : hb_run hbSH 132 (221, [.ref 54, .long x1, .null], [.int s0, .ref 54], σ) = hb_cv (hb_ev hbSH 125 [.ref 54, .int s0] σ) (fun σ221 => if (¬ (σ221 54 30) = (0 : Int32)) then (some (none, (hb_up σ221 54 12 ((σ221 54 12) + (1 : Int32))))) else (if (¬ (σ221 54 27) = (4 : Int32)) then (hb_run hbSH 132 (322, [.ref 54, .long x1, .null], [.int 0, .ref 54], (hb_up σ221 54 12 ((σ221 54 12) + (1 : Int32))))) else (hb_run hbSH 132 (322, [.ref 54, .long x1, .null], [.int 1, .ref 54], (hb_up σ221 54 12 ((σ221 54 12) + (1 : Int32))))))) := by
  refine hb_Vv (hb_fe_ok (r := (.invokevirtual 158, 3, 125, 1, 0, 0, 0)) (by decide +kernel)) (by decide +kernel) (as := [.int s0]) (v := .ref 54) (rest := []) rfl rfl (Nat.le_of_ble_eq_true rfl) (fun σ221 => ?_)
  refine (hb_blk [(.aload_n 0, 1, 0, 0, 0, 0, 0), (.dup, 1, 0, 0, 0, 0, 0), (.getfield 201, 3, 12, 12, 0, 0, 0), (.iconst 1, 1, 0, 0, 0, 1, 0), (.iadd, 1, 0, 0, 0, 0, 0), (.putfield 201, 3, 12, 12, 0, 0, 0)] (pe := 234) (gs := []) (loc' := [.ref 54, .long x1, .null]) (stk' := []) (σ' := (hb_up σ221 54 12 ((σ221 54 12) + (1 : Int32)))) (by decide +kernel) rfl).trans ?_
  refine (hb_r_goto (hb_fe_ok (r := (.goto 67, 3, 301, 0, 0, 0, 0)) (by decide +kernel))).trans ?_
  refine (hb_blk [(.aload_n 0, 1, 0, 0, 0, 0, 0), (.getfield 145, 3, 12, 30, 0, 0, 0)] (pe := 305) (gs := []) (loc' := [.ref 54, .long x1, .null]) (stk' := [.int (σ221 54 30)]) (σ' := (hb_up σ221 54 12 ((σ221 54 12) + (1 : Int32)))) (by decide +kernel) rfl).trans ?_
  refine hb_br0 (hb_fe_ok (r := (.ifCond .ne 20, 3, 325, 0, 0, 0, 0)) (by decide +kernel)) rfl ?_ ?_
  · exact hb_r_vret (hb_fe_ok (r := (.return_, 1, 0, 0, 0, 0, 0)) (by decide +kernel))
  · refine (hb_blk [(.aload_n 0, 1, 0, 0, 0, 0, 0), (.aload_n 0, 1, 0, 0, 0, 0, 0), (.getfield 133, 3, 12, 27, 0, 0, 0), (.iconst 4, 1, 0, 0, 0, 4, 0)] (pe := 314) (gs := []) (loc' := [.ref 54, .long x1, .null]) (stk' := [.int 4, .int (σ221 54 27), .ref 54]) (σ' := (hb_up σ221 54 12 ((σ221 54 12) + (1 : Int32)))) (by decide +kernel) rfl).trans ?_
    refine hb_br (hb_fe_ok (r := (.if_icmp .ne 7, 3, 321, 0, 0, 0, 0)) (by decide +kernel)) rfl ?_ ?_
    · refine (hb_blk [(.iconst 0, 1, 0, 0, 0, 0, 0)] (pe := 322) (gs := []) (loc' := [.ref 54, .long x1, .null]) (stk' := [.int 0, .ref 54]) (σ' := (hb_up σ221 54 12 ((σ221 54 12) + (1 : Int32)))) (by decide +kernel) rfl).trans ?_
      exact rfl
    · refine (hb_blk [(.iconst 1, 1, 0, 0, 0, 1, 0)] (pe := 318) (gs := []) (loc' := [.ref 54, .long x1, .null]) (stk' := [.int 1, .ref 54]) (σ' := (hb_up σ221 54 12 ((σ221 54 12) + (1 : Int32)))) (by decide +kernel) rfl).trans ?_
      refine (hb_r_goto (hb_fe_ok (r := (.goto 4, 3, 322, 0, 0, 0, 0)) (by decide +kernel))).trans ?_
      exact rfl
set_option maxRecDepth 8000 in
theorem e132_322  (σ : hbM) (x1 : Int64) (s0 : Int32) : hb_run hbSH 132 (322, [.ref 54, .long x1, .null], [.int s0, .ref 54], σ) = hb_cv (hb_ev hbSH 125 [.ref 54, .int s0] σ) (fun σ322 => some (none, σ322)) := by
  refine hb_Vv (hb_fe_ok (r := (.invokevirtual 158, 3, 125, 1, 0, 0, 0)) (by decide +kernel)) (by decide +kernel) (as := [.int s0]) (v := .ref 54) (rest := []) rfl rfl (Nat.le_of_ble_eq_true rfl) (fun σ322 => ?_)
  exact hb_r_vret (hb_fe_ok (r := (.return_, 1, 0, 0, 0, 0, 0)) (by decide +kernel))
set_option maxRecDepth 8000 in
theorem e133_0  (σ : hbM) : hb_run hbSH 133 (0, [.ref 54], [], σ) = hb_cv (hb_ev hbSH 123 [.ref 54] (hb_up (hb_up (hb_up (hb_up (hb_up (hb_up (hb_up (hb_up (hb_up σ 54 0 0) 54 25 (σ 54 23)) 54 23 0) 54 26 0) 54 30 0) 54 12 (σ 54 5)) 54 13 (σ 54 9)) 54 14 (σ 54 10)) 54 15 (σ 54 11))) (fun σ61 => hb_run hbSH 133 (64, [.ref 54], [], σ61)) := by
  refine (hb_blk [(.aload_n 0, 1, 0, 0, 0, 0, 0), (.iconst 0, 1, 0, 0, 0, 0, 0), (.putfield 87, 3, 12, 0, 0, 0, 0), (.aload_n 0, 1, 0, 0, 0, 0, 0), (.aload_n 0, 1, 0, 0, 0, 0, 0), (.getfield 114, 3, 12, 23, 0, 0, 0), (.putfield 120, 3, 12, 25, 0, 0, 0), (.aload_n 0, 1, 0, 0, 0, 0, 0), (.iconst 0, 1, 0, 0, 0, 0, 0), (.putfield 114, 3, 12, 23, 0, 0, 0), (.aload_n 0, 1, 0, 0, 0, 0, 0), (.iconst 0, 1, 0, 0, 0, 0, 0), (.putfield 124, 3, 12, 26, 0, 0, 0), (.aload_n 0, 1, 0, 0, 0, 0, 0), (.iconst 0, 1, 0, 0, 0, 0, 0), (.putfield 145, 3, 12, 30, 0, 0, 0), (.aload_n 0, 1, 0, 0, 0, 0, 0), (.aload_n 0, 1, 0, 0, 0, 0, 0), (.getfield 226, 3, 12, 5, 0, 0, 0), (.putfield 201, 3, 12, 12, 0, 0, 0), (.aload_n 0, 1, 0, 0, 0, 0, 0), (.aload_n 0, 1, 0, 0, 0, 0, 0), (.getfield 229, 3, 12, 9, 0, 0, 0), (.putfield 206, 3, 12, 13, 0, 0, 0), (.aload_n 0, 1, 0, 0, 0, 0, 0), (.aload_n 0, 1, 0, 0, 0, 0, 0), (.getfield 232, 3, 12, 10, 0, 0, 0), (.putfield 211, 3, 12, 14, 0, 0, 0), (.aload_n 0, 1, 0, 0, 0, 0, 0), (.aload_n 0, 1, 0, 0, 0, 0, 0), (.getfield 235, 3, 12, 11, 0, 0, 0), (.putfield 196, 3, 12, 15, 0, 0, 0), (.aload_n 0, 1, 0, 0, 0, 0, 0)] (pe := 61) (gs := []) (loc' := [.ref 54]) (stk' := [.ref 54]) (σ' := (hb_up (hb_up (hb_up (hb_up (hb_up (hb_up (hb_up (hb_up (hb_up σ 54 0 0) 54 25 (σ 54 23)) 54 23 0) 54 26 0) 54 30 0) 54 12 (σ 54 5)) 54 13 (σ 54 9)) 54 14 (σ 54 10)) 54 15 (σ 54 11))) (by decide +kernel) rfl).trans ?_
  refine hb_Vv (hb_fe_ok (r := (.invokevirtual 155, 3, 123, 0, 0, 0, 0)) (by decide +kernel)) (by decide +kernel) (as := []) (v := .ref 54) (rest := []) rfl rfl (Nat.le_of_ble_eq_true rfl) (fun σ61 => ?_)
  exact rfl
set_option maxRecDepth 8000 in
theorem e133_64  (σ : hbM) : hb_run hbSH 133 (64, [.ref 54], [], σ) = if (¬ (σ 54 30) = (0 : Int32)) then (if ((σ 54 30) ≤ (0 : Int32)) then (some (some (.int (σ 54 15)), (hb_up (hb_up (hb_up (hb_up σ 54 5 (σ 54 12)) 54 9 (σ 54 13)) 54 10 (σ 54 14)) 54 11 (σ 54 15)))) else (some (some (.int ((-1000100 : Int32) - (σ 54 31))), (hb_up σ 54 24 (σ 54 30))))) else (if ((σ 54 27) = (1 : Int32)) then (if ((σ 54 30) ≤ (0 : Int32)) then (some (some (.int (σ 54 15)), (hb_up (hb_up (hb_up (hb_up σ 54 5 (σ 54 12)) 54 9 (σ 54 13)) 54 10 (σ 54 14)) 54 11 (σ 54 15)))) else (some (some (.int ((-1000100 : Int32) - (σ 54 31))), (hb_up σ 54 24 (σ 54 30))))) else (hb_cv (hb_ev hbSH 132 [.ref 54] σ) (fun σ80 => hb_run hbSH 133 (64, [.ref 54], [], σ80)))) := by
  refine (hb_blk [(.aload_n 0, 1, 0, 0, 0, 0, 0), (.getfield 145, 3, 12, 30, 0, 0, 0)] (pe := 68) (gs := []) (loc' := [.ref 54]) (stk' := [.int (σ 54 30)]) (σ' := σ) (by decide +kernel) rfl).trans ?_
  refine hb_br0 (hb_fe_ok (r := (.ifCond .ne 18, 3, 86, 0, 0, 0, 0)) (by decide +kernel)) rfl ?_ ?_
  · refine (hb_blk [(.aload_n 0, 1, 0, 0, 0, 0, 0), (.getfield 145, 3, 12, 30, 0, 0, 0)] (pe := 90) (gs := []) (loc' := [.ref 54]) (stk' := [.int (σ 54 30)]) (σ' := σ) (by decide +kernel) rfl).trans ?_
    refine hb_br0 (hb_fe_ok (r := (.ifCond .le 19, 3, 109, 0, 0, 0, 0)) (by decide +kernel)) rfl ?_ ?_
    · refine (hb_blk [(.aload_n 0, 1, 0, 0, 0, 0, 0), (.aload_n 0, 1, 0, 0, 0, 0, 0), (.getfield 201, 3, 12, 12, 0, 0, 0), (.putfield 226, 3, 12, 5, 0, 0, 0), (.aload_n 0, 1, 0, 0, 0, 0, 0), (.aload_n 0, 1, 0, 0, 0, 0, 0), (.getfield 206, 3, 12, 13, 0, 0, 0), (.putfield 229, 3, 12, 9, 0, 0, 0), (.aload_n 0, 1, 0, 0, 0, 0, 0), (.aload_n 0, 1, 0, 0, 0, 0, 0), (.getfield 211, 3, 12, 14, 0, 0, 0), (.putfield 232, 3, 12, 10, 0, 0, 0), (.aload_n 0, 1, 0, 0, 0, 0, 0), (.aload_n 0, 1, 0, 0, 0, 0, 0), (.getfield 196, 3, 12, 15, 0, 0, 0), (.putfield 235, 3, 12, 11, 0, 0, 0), (.aload_n 0, 1, 0, 0, 0, 0, 0), (.getfield 235, 3, 12, 11, 0, 0, 0)] (pe := 145) (gs := []) (loc' := [.ref 54]) (stk' := [.int (σ 54 15)]) (σ' := (hb_up (hb_up (hb_up (hb_up σ 54 5 (σ 54 12)) 54 9 (σ 54 13)) 54 10 (σ 54 14)) 54 11 (σ 54 15))) (by decide +kernel) rfl).trans ?_
      exact hb_r_iret (hb_fe_ok (r := (.ireturn, 1, 0, 0, 0, 0, 0)) (by decide +kernel))
    · refine (hb_blk [(.aload_n 0, 1, 0, 0, 0, 0, 0), (.aload_n 0, 1, 0, 0, 0, 0, 0), (.getfield 145, 3, 12, 30, 0, 0, 0), (.putfield 241, 3, 12, 24, 0, 0, 0), (.ldc 244, 2, 0, 0, 0, (-1000100), 0), (.aload_n 0, 1, 0, 0, 0, 0, 0), (.getfield 148, 3, 12, 31, 0, 0, 0), (.isub, 1, 0, 0, 0, 0, 0)] (pe := 108) (gs := []) (loc' := [.ref 54]) (stk' := [.int ((-1000100 : Int32) - (σ 54 31))]) (σ' := (hb_up σ 54 24 (σ 54 30))) (by decide +kernel) rfl).trans ?_
      exact hb_r_iret (hb_fe_ok (r := (.ireturn, 1, 0, 0, 0, 0, 0)) (by decide +kernel))
  · refine (hb_blk [(.aload_n 0, 1, 0, 0, 0, 0, 0), (.getfield 133, 3, 12, 27, 0, 0, 0), (.iconst 1, 1, 0, 0, 0, 1, 0)] (pe := 76) (gs := []) (loc' := [.ref 54]) (stk' := [.int 1, .int (σ 54 27)]) (σ' := σ) (by decide +kernel) rfl).trans ?_
    refine hb_br (hb_fe_ok (r := (.if_icmp .eq 10, 3, 86, 0, 0, 0, 0)) (by decide +kernel)) rfl ?_ ?_
    · refine (hb_blk [(.aload_n 0, 1, 0, 0, 0, 0, 0), (.getfield 145, 3, 12, 30, 0, 0, 0)] (pe := 90) (gs := []) (loc' := [.ref 54]) (stk' := [.int (σ 54 30)]) (σ' := σ) (by decide +kernel) rfl).trans ?_
      refine hb_br0 (hb_fe_ok (r := (.ifCond .le 19, 3, 109, 0, 0, 0, 0)) (by decide +kernel)) rfl ?_ ?_
      · refine (hb_blk [(.aload_n 0, 1, 0, 0, 0, 0, 0), (.aload_n 0, 1, 0, 0, 0, 0, 0), (.getfield 201, 3, 12, 12, 0, 0, 0), (.putfield 226, 3, 12, 5, 0, 0, 0), (.aload_n 0, 1, 0, 0, 0, 0, 0), (.aload_n 0, 1, 0, 0, 0, 0, 0), (.getfield 206, 3, 12, 13, 0, 0, 0), (.putfield 229, 3, 12, 9, 0, 0, 0), (.aload_n 0, 1, 0, 0, 0, 0, 0), (.aload_n 0, 1, 0, 0, 0, 0, 0), (.getfield 211, 3, 12, 14, 0, 0, 0), (.putfield 232, 3, 12, 10, 0, 0, 0), (.aload_n 0, 1, 0, 0, 0, 0, 0), (.aload_n 0, 1, 0, 0, 0, 0, 0), (.getfield 196, 3, 12, 15, 0, 0, 0), (.putfield 235, 3, 12, 11, 0, 0, 0), (.aload_n 0, 1, 0, 0, 0, 0, 0), (.getfield 235, 3, 12, 11, 0, 0, 0)] (pe := 145) (gs := []) (loc' := [.ref 54]) (stk' := [.int (σ 54 15)]) (σ' := (hb_up (hb_up (hb_up (hb_up σ 54 5 (σ 54 12)) 54 9 (σ 54 13)) 54 10 (σ 54 14)) 54 11 (σ 54 15))) (by decide +kernel) rfl).trans ?_
        exact hb_r_iret (hb_fe_ok (r := (.ireturn, 1, 0, 0, 0, 0, 0)) (by decide +kernel))
      · refine (hb_blk [(.aload_n 0, 1, 0, 0, 0, 0, 0), (.aload_n 0, 1, 0, 0, 0, 0, 0), (.getfield 145, 3, 12, 30, 0, 0, 0), (.putfield 241, 3, 12, 24, 0, 0, 0), (.ldc 244, 2, 0, 0, 0, (-1000100), 0), (.aload_n 0, 1, 0, 0, 0, 0, 0), (.getfield 148, 3, 12, 31, 0, 0, 0), (.isub, 1, 0, 0, 0, 0, 0)] (pe := 108) (gs := []) (loc' := [.ref 54]) (stk' := [.int ((-1000100 : Int32) - (σ 54 31))]) (σ' := (hb_up σ 54 24 (σ 54 30))) (by decide +kernel) rfl).trans ?_
        exact hb_r_iret (hb_fe_ok (r := (.ireturn, 1, 0, 0, 0, 0, 0)) (by decide +kernel))
    · refine (hb_blk [(.aload_n 0, 1, 0, 0, 0, 0, 0)] (pe := 80) (gs := []) (loc' := [.ref 54]) (stk' := [.ref 54]) (σ' := σ) (by decide +kernel) rfl).trans ?_
      refine hb_Vv (hb_fe_ok (r := (.invokevirtual 238, 3, 132, 0, 0, 0, 0)) (by decide +kernel)) (by decide +kernel) (as := []) (v := .ref 54) (rest := []) rfl rfl (Nat.le_of_ble_eq_true rfl) (fun σ80 => ?_)
      refine (hb_r_goto (hb_fe_ok (r := (.goto (-19), 3, 64, 0, 0, 0, 0)) (by decide +kernel))).trans ?_
      exact rfl
set_option maxRecDepth 8000 in
theorem e134_0  (σ : hbM) : hb_run hbSH 134 (0, [.ref 54], [], σ) = some (some (.int (σ 54 24)), (hb_up σ 54 0 0)) := by
  refine (hb_blk [(.aload_n 0, 1, 0, 0, 0, 0, 0), (.iconst 0, 1, 0, 0, 0, 0, 0), (.putfield 87, 3, 12, 0, 0, 0, 0), (.aload_n 0, 1, 0, 0, 0, 0, 0), (.getfield 241, 3, 12, 24, 0, 0, 0)] (pe := 9) (gs := []) (loc' := [.ref 54]) (stk' := [.int (σ 54 24)]) (σ' := (hb_up σ 54 0 0)) (by decide +kernel) rfl).trans ?_
  exact hb_r_iret (hb_fe_ok (r := (.ireturn, 1, 0, 0, 0, 0, 0)) (by decide +kernel))
set_option maxRecDepth 8000 in
theorem e135_0  (σ : hbM) (x0 : Int32) : hb_run hbSH 135 (0, [.int x0], [], σ) = hb_ci (hb_ev hbSH 112 [.long (Int32.toInt64 x0), .long 0, .long 3] σ) (fun y6 σ6 => hb_g [hb_01 y6] (some (some (.int y6), σ6))) := by
  refine (hb_blk [(.iload_n 0, 1, 0, 0, 0, 0, 0), (.i2l, 1, 0, 0, 0, 0, 0), (.lconst 0, 1, 0, 0, 0, 0, 0), (.ldc2_w 186, 3, 0, 0, 0, 0, 3)] (pe := 6) (gs := []) (loc' := [.int x0]) (stk' := [.long 3, .long 0, .long (Int32.toInt64 x0)]) (σ' := σ) (by decide +kernel) rfl).trans ?_
  refine hb_Si (hb_fe_ok (r := (.invokestatic 97, 3, 112, 3, 0, 0, 0)) (by decide +kernel)) (by decide) (by decide +kernel) (as := [.long (Int32.toInt64 x0), .long 0, .long 3]) (rest := []) rfl (Nat.le_of_ble_eq_true rfl) (fun y6 σ6 => ?_)
  exact hb_r_zret (hb_fe_ok (r := (.ireturn, 1, 0, 0, 1, 0, 0)) (by decide +kernel))
set_option maxRecDepth 8000 in
theorem e136_0  (σ : hbM) (x0 : Int32) : hb_run hbSH 136 (0, [.int x0], [], σ) = hb_ci (hb_ev hbSH 112 [.long (Int32.toInt64 x0), .long 0, .long 1023] σ) (fun y6 σ6 => hb_g [hb_01 y6] (some (some (.int y6), σ6))) := by
  refine (hb_blk [(.iload_n 0, 1, 0, 0, 0, 0, 0), (.i2l, 1, 0, 0, 0, 0, 0), (.lconst 0, 1, 0, 0, 0, 0, 0), (.ldc2_w 245, 3, 0, 0, 0, 0, 1023)] (pe := 6) (gs := []) (loc' := [.int x0]) (stk' := [.long 1023, .long 0, .long (Int32.toInt64 x0)]) (σ' := σ) (by decide +kernel) rfl).trans ?_
  refine hb_Si (hb_fe_ok (r := (.invokestatic 97, 3, 112, 3, 0, 0, 0)) (by decide +kernel)) (by decide) (by decide +kernel) (as := [.long (Int32.toInt64 x0), .long 0, .long 1023]) (rest := []) rfl (Nat.le_of_ble_eq_true rfl) (fun y6 σ6 => ?_)
  exact hb_r_zret (hb_fe_ok (r := (.ireturn, 1, 0, 0, 1, 0, 0)) (by decide +kernel))
