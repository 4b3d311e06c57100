/-! equations of the small machine, printed by wip/whole/gen_eqs.py -/
set_option maxRecDepth 8000 in
theorem e42_0  (σ : hbM) (x1 : Int32) : hb_run hbSH 42 (0, [.ref 31, .int x1], [], σ) = if ((16 : Int32) ≤ (σ 31 6)) then (some (none, σ)) else (hb_g [hb_in (σ 31 6) 16] (some (none, (hb_up (hb_up σ 35 (Int32.toNatClampNeg (σ 31 6)) x1) 31 6 ((σ 31 6) + (1 : Int32)))))) := by
  refine (hb_blk [(.aload_n 0, 1, 0, 0, 0, 0, 0), (.getfield 35, 3, 6, 6, 0, 0, 0), (.bipush 16, 2, 0, 0, 0, 16, 0)] (pe := 6) (gs := []) (loc' := [.ref 31, .int x1]) (stk' := [.int 16, .int (σ 31 6)]) (σ' := σ) (by decide +kernel) rfl).trans ?_
  refine hb_br (hb_fe_ok (r := (.if_icmp .ge 23, 3, 29, 0, 0, 0, 0)) (by decide +kernel)) rfl ?_ ?_
  · exact hb_r_vret (hb_fe_ok (r := (.return_, 1, 0, 0, 0, 0, 0)) (by decide +kernel))
  · refine (hb_blk [(.aload_n 0, 1, 0, 0, 0, 0, 0), (.getfield 21, 3, 6, 3, 0, 0, 0), (.aload_n 0, 1, 0, 0, 0, 0, 0), (.getfield 35, 3, 6, 6, 0, 0, 0), (.iload_n 1, 1, 1, 0, 0, 0, 0), (.iastore, 1, 0, 0, 0, 0, 0), (.aload_n 0, 1, 0, 0, 0, 0, 0), (.dup, 1, 0, 0, 0, 0, 0), (.getfield 35, 3, 6, 6, 0, 0, 0), (.iconst 1, 1, 0, 0, 0, 1, 0), (.iadd, 1, 0, 0, 0, 0, 0), (.putfield 35, 3, 6, 6, 0, 0, 0)] (pe := 29) (gs := [hb_in (σ 31 6) 16]) (loc' := [.ref 31, .int x1]) (stk' := []) (σ' := (hb_up (hb_up σ 35 (Int32.toNatClampNeg (σ 31 6)) x1) 31 6 ((σ 31 6) + (1 : Int32)))) (by decide +kernel) rfl).trans ?_
    refine congrArg (hb_g _) ?_
    exact hb_r_vret (hb_fe_ok (r := (.return_, 1, 0, 0, 0, 0, 0)) (by decide +kernel))
set_option maxRecDepth 8000 in
theorem e43_0  (σ : hbM) (x1 : Int64) (x3 : Int32) : hb_run hbSH 43 (0, [.ref 39, .long x1, .null, .int x3, .null], [], σ) = if (x3 ≤ ((400 : Int32) - (σ 39 3))) then (hb_run hbSH 43 (19, [.ref 39, .long x1, .null, .int x3, .int (x3 - (1 : Int32))], [], σ)) else (some (some (.int 0), σ)) := by
  refine (hb_blk [(.iload_n 3, 1, 3, 0, 0, 0, 0), (.sipush 400, 3, 0, 0, 0, 400, 0), (.aload_n 0, 1, 0, 0, 0, 0, 0), (.getfield 21, 3, 7, 3, 0, 0, 0), (.isub, 1, 0, 0, 0, 0, 0)] (pe := 9) (gs := []) (loc' := [.ref 39, .long x1, .null, .int x3, .null]) (stk' := [.int ((400 : Int32) - (σ 39 3)), .int x3]) (σ' := σ) (by decide +kernel) rfl).trans ?_
  refine hb_br (hb_fe_ok (r := (.if_icmp .le 5, 3, 14, 0, 0, 0, 0)) (by decide +kernel)) rfl ?_ ?_
  · refine (hb_blk [(.iload_n 3, 1, 3, 0, 0, 0, 0), (.iconst 1, 1, 0, 0, 0, 1, 0), (.isub, 1, 0, 0, 0, 0, 0), (.istore 4, 2, 4, 0, 0, 0, 0)] (pe := 19) (gs := []) (loc' := [.ref 39, .long x1, .null, .int x3, .int (x3 - (1 : Int32))]) (stk' := []) (σ' := σ) (by decide +kernel) rfl).trans ?_
    exact rfl
  · refine (hb_blk [(.iconst 0, 1, 0, 0, 0, 0, 0)] (pe := 13) (gs := []) (loc' := [.ref 39, .long x1, .null, .int x3, .null]) (stk' := [.int 0]) (σ' := σ) (by decide +kernel) rfl).trans ?_
    exact hb_r_zret1 (hb_fe_ok (r := (.ireturn, 1, 0, 0, 1, 0, 0)) (by decide +kernel)) (by decide)
set_option maxRecDepth 8000 in
theorem e43_19  (σ : hbM) (x1 : Int64) (x3 : Int32) (x4 : Int32) : hb_run hbSH 43 (19, [.ref 39, .long x1, .null, .int x3, .int x4], [], σ) = if (x4 < (0 : Int32)) then (some (some (.int 1), σ)) else (hb_g [hb_in (σ 39 3) 400] (hb_run hbSH 43 (19, [.ref 39, .long x1, .null, .int x3, .int (x4 + (-1 : Int32))], [], (hb_up (hb_up σ 40 (Int32.toNatClampNeg (σ 39 3)) ((Int64.toInt32 (x1 >>> (Int32.toInt64 ((8 : Int32) * x4) &&& 63))) &&& (255 : Int32))) 39 3 ((σ 39 3) + (1 : Int32)))))) := by
  refine (hb_blk [(.iload 4, 2, 4, 0, 0, 0, 0)] (pe := 21) (gs := []) (loc' := [.ref 39, .long x1, .null, .int x3, .int x4]) (stk' := [.int x4]) (σ' := σ) (by decide +kernel) rfl).trans ?_
  refine hb_br0 (hb_fe_ok (r := (.ifCond .lt 40, 3, 61, 0, 0, 0, 0)) (by decide +kernel)) rfl ?_ ?_
  · refine (hb_blk [(.iconst 1, 1, 0, 0, 0, 1, 0)] (pe := 62) (gs := []) (loc' := [.ref 39, .long x1, .null, .int x3, .int x4]) (stk' := [.int 1]) (σ' := σ) (by decide +kernel) rfl).trans ?_
    exact hb_r_zret1 (hb_fe_ok (r := (.ireturn, 1, 0, 0, 1, 0, 0)) (by decide +kernel)) (by decide)
  · refine (hb_blk [(.aload_n 0, 1, 0, 0, 0, 0, 0), (.getfield 9, 3, 7, 0, 0, 0, 0), (.aload_n 0, 1, 0, 0, 0, 0, 0), (.getfield 21, 3, 7, 3, 0, 0, 0), (.lload_n 1, 1, 1, 0, 0, 0, 0), (.bipush 8, 2, 0, 0, 0, 8, 0), (.iload 4, 2, 4, 0, 0, 0, 0), (.imul, 1, 0, 0, 0, 0, 0), (.lshr, 1, 0, 0, 0, 0, 0), (.l2i, 1, 0, 0, 0, 0, 0), (.sipush 255, 3, 0, 0, 0, 255, 0), (.iand, 1, 0, 0, 0, 0, 0), (.iastore, 1, 0, 0, 0, 0, 0), (.aload_n 0, 1, 0, 0, 0, 0, 0), (.dup, 1, 0, 0, 0, 0, 0), (.getfield 21, 3, 7, 3, 0, 0, 0), (.iconst 1, 1, 0, 0, 0, 1, 0), (.iadd, 1, 0, 0, 0, 0, 0), (.putfield 21, 3, 7, 3, 0, 0, 0), (.iinc 4 (-1), 3, 4, 0, 0, (-1), 0)] (pe := 58) (gs := [hb_in (σ 39 3) 400]) (loc' := [.ref 39, .long x1, .null, .int x3, .int (x4 + (-1 : Int32))]) (stk' := []) (σ' := (hb_up (hb_up σ 40 (Int32.toNatClampNeg (σ 39 3)) ((Int64.toInt32 (x1 >>> (Int32.toInt64 ((8 : Int32) * x4) &&& 63))) &&& (255 : Int32))) 39 3 ((σ 39 3) + (1 : Int32)))) (by decide +kernel) rfl).trans ?_
    refine congrArg (hb_g _) ?_
    refine (hb_r_goto (hb_fe_ok (r := (.goto (-39), 3, 19, 0, 0, 0, 0)) (by decide +kernel))).trans ?_
    exact rfl
set_option maxRecDepth 8000 in
theorem e44_0  (σ : hbM) : hb_run hbSH 44 (0, [.ref 39, .null, .null, .null], [], σ) = hb_run hbSH 44 (4, [.ref 39, .int 0, .int 0, .null], [], σ) := by
  refine (hb_blk [(.iconst 0, 1, 0, 0, 0, 0, 0), (.istore_n 1, 1, 1, 0, 0, 0, 0), (.iconst 0, 1, 0, 0, 0, 0, 0), (.istore_n 2, 1, 2, 0, 0, 0, 0)] (pe := 4) (gs := []) (loc' := [.ref 39, .int 0, .int 0, .null]) (stk' := []) (σ' := σ) (by decide +kernel) rfl).trans ?_
  exact rfl
set_option maxRecDepth 8000 in
theorem e44_4  (σ : hbM) (x1 : Int32) (x2 : Int32) (v3 : Value) : hb_run hbSH 44 (4, [.ref 39, .int x1, .int x2, v3], [], σ) = if ((σ 39 3) ≤ x2) then (hb_g [hb_in x1 401, hb_in x1 401] (some (none, (hb_up (hb_up σ 41 (Int32.toNatClampNeg x1) (σ 39 3)) 42 (Int32.toNatClampNeg x1) 21)))) else (hb_g [hb_in x2 400] (if ((σ 40 (Int32.toNatClampNeg x2)) = (32 : Int32)) then (hb_run hbSH 44 (4, [.ref 39, .int x1, .int (x2 + (1 : Int32)), .int 1], [], σ)) else (hb_g [hb_in x2 400] (if (¬ (σ 40 (Int32.toNatClampNeg x2)) = (10 : Int32)) then (hb_ci (hb_ev hbSH 199 [.ref 39, .int x2] σ) (fun y46 σ46 => if (¬ y46 = (0 : Int32)) then (hb_run hbSH 44 (4, [.ref 39, .int x1, .int (x2 + (1 : Int32)), .int 0], [], σ46)) else (hb_g [hb_in x1 401] (hb_ci (hb_ev hbSH 45 [.ref 39, .int x2] (hb_up σ46 41 (Int32.toNatClampNeg x1) x2)) (fun y68 σ68 => hb_ci (hb_ev hbSH 46 [.ref 39, .int x2, .int y68] σ68) (fun y71 σ71 => hb_g [hb_in x1 401] (hb_run hbSH 44 (4, [.ref 39, .int (x1 + (1 : Int32)), .int (x2 + (1 : Int32)), .int 0], [], (hb_up σ71 42 (Int32.toNatClampNeg x1) y71))))))))) else (hb_run hbSH 44 (4, [.ref 39, .int x1, .int (x2 + (1 : Int32)), .int 1], [], σ)))))) := by
  refine (hb_blk [(.iload_n 2, 1, 2, 0, 0, 0, 0), (.aload_n 0, 1, 0, 0, 0, 0, 0), (.getfield 21, 3, 7, 3, 0, 0, 0)] (pe := 9) (gs := []) (loc' := [.ref 39, .int x1, .int x2, v3]) (stk' := [.int (σ 39 3), .int x2]) (σ' := σ) (by decide +kernel) rfl).trans ?_
  refine hb_br (hb_fe_ok (r := (.if_icmp .ge 75, 3, 84, 0, 0, 0, 0)) (by decide +kernel)) rfl ?_ ?_
  · refine (hb_blk [(.aload_n 0, 1, 0, 0, 0, 0, 0), (.getfield 15, 3, 7, 1, 0, 0, 0), (.iload_n 1, 1, 1, 0, 0, 0, 0), (.aload_n 0, 1, 0, 0, 0, 0, 0), (.getfield 21, 3, 7, 3, 0, 0, 0), (.iastore, 1, 0, 0, 0, 0, 0), (.aload_n 0, 1, 0, 0, 0, 0, 0), (.getfield 18, 3, 7, 2, 0, 0, 0), (.iload_n 1, 1, 1, 0, 0, 0, 0), (.bipush 21, 2, 0, 0, 0, 21, 0), (.iastore, 1, 0, 0, 0, 0, 0)] (pe := 102) (gs := [hb_in x1 401, hb_in x1 401]) (loc' := [.ref 39, .int x1, .int x2, v3]) (stk' := []) (σ' := (hb_up (hb_up σ 41 (Int32.toNatClampNeg x1) (σ 39 3)) 42 (Int32.toNatClampNeg x1) 21)) (by decide +kernel) rfl).trans ?_
    refine congrArg (hb_g _) ?_
    exact hb_r_vret (hb_fe_ok (r := (.return_, 1, 0, 0, 0, 0, 0)) (by decide +kernel))
  · refine (hb_blk [(.aload_n 0, 1, 0, 0, 0, 0, 0), (.getfield 9, 3, 7, 0, 0, 0, 0), (.iload_n 2, 1, 2, 0, 0, 0, 0), (.iaload, 1, 0, 0, 0, 0, 0), (.bipush 32, 2, 0, 0, 0, 32, 0)] (pe := 20) (gs := [hb_in x2 400]) (loc' := [.ref 39, .int x1, .int x2, v3]) (stk' := [.int 32, .int (σ 40 (Int32.toNatClampNeg x2))]) (σ' := σ) (by decide +kernel) rfl).trans ?_
    refine congrArg (hb_g _) ?_
    refine hb_br (hb_fe_ok (r := (.if_icmp .eq 14, 3, 34, 0, 0, 0, 0)) (by decide +kernel)) rfl ?_ ?_
    · refine (hb_blk [(.iconst 1, 1, 0, 0, 0, 1, 0)] (pe := 35) (gs := []) (loc' := [.ref 39, .int x1, .int x2, v3]) (stk' := [.int 1]) (σ' := σ) (by decide +kernel) rfl).trans ?_
      refine (hb_r_goto (hb_fe_ok (r := (.goto 4, 3, 39, 0, 0, 0, 0)) (by decide +kernel))).trans ?_
      refine (hb_blk [(.istore_n 3, 1, 3, 0, 0, 0, 0), (.iload_n 3, 1, 3, 0, 0, 0, 0)] (pe := 41) (gs := []) (loc' := [.ref 39, .int x1, .int x2, .int 1]) (stk' := [.int 1]) (σ' := σ) (by decide +kernel) rfl).trans ?_
      refine hb_br0T (hb_fe_ok (r := (.ifCond .ne 37, 3, 78, 0, 0, 0, 0)) (by decide +kernel)) (by decide) ?_
      refine (hb_blk [(.iinc 2 1, 3, 2, 0, 0, 1, 0)] (pe := 81) (gs := []) (loc' := [.ref 39, .int x1, .int (x2 + (1 : Int32)), .int 1]) (stk' := []) (σ' := σ) (by decide +kernel) rfl).trans ?_
      refine (hb_r_goto (hb_fe_ok (r := (.goto (-77), 3, 4, 0, 0, 0, 0)) (by decide +kernel))).trans ?_
      exact rfl
    · refine (hb_blk [(.aload_n 0, 1, 0, 0, 0, 0, 0), (.getfield 9, 3, 7, 0, 0, 0, 0), (.iload_n 2, 1, 2, 0, 0, 0, 0), (.iaload, 1, 0, 0, 0, 0, 0), (.bipush 10, 2, 0, 0, 0, 10, 0)] (pe := 31) (gs := [hb_in x2 400]) (loc' := [.ref 39, .int x1, .int x2, v3]) (stk' := [.int 10, .int (σ 40 (Int32.toNatClampNeg x2))]) (σ' := σ) (by decide +kernel) rfl).trans ?_
      refine congrArg (hb_g _) ?_
      refine hb_br (hb_fe_ok (r := (.if_icmp .ne 7, 3, 38, 0, 0, 0, 0)) (by decide +kernel)) rfl ?_ ?_
      · refine (hb_blk [(.iconst 0, 1, 0, 0, 0, 0, 0)] (pe := 39) (gs := []) (loc' := [.ref 39, .int x1, .int x2, v3]) (stk' := [.int 0]) (σ' := σ) (by decide +kernel) rfl).trans ?_
        refine (hb_blk [(.istore_n 3, 1, 3, 0, 0, 0, 0), (.iload_n 3, 1, 3, 0, 0, 0, 0)] (pe := 41) (gs := []) (loc' := [.ref 39, .int x1, .int x2, .int 0]) (stk' := [.int 0]) (σ' := σ) (by decide +kernel) rfl).trans ?_
        refine hb_br0F (hb_fe_ok (r := (.ifCond .ne 37, 3, 78, 0, 0, 0, 0)) (by decide +kernel)) (by decide) ?_
        refine (hb_blk [(.aload_n 0, 1, 0, 0, 0, 0, 0), (.iload_n 2, 1, 2, 0, 0, 0, 0)] (pe := 46) (gs := []) (loc' := [.ref 39, .int x1, .int x2, .int 0]) (stk' := [.int x2, .ref 39]) (σ' := σ) (by decide +kernel) rfl).trans ?_
        refine hb_Vi (hb_fe_ok (r := (.invokevirtual 25, 3, 199, 1, 0, 0, 0)) (by decide +kernel)) (by decide +kernel) (as := [.int x2]) (v := .ref 39) (rest := []) rfl rfl (Nat.le_of_ble_eq_true rfl) (fun y46 σ46 => ?_)
        refine hb_br0 (hb_fe_ok (r := (.ifCond .ne 29, 3, 78, 0, 0, 0, 0)) (by decide +kernel)) rfl ?_ ?_
        · refine (hb_blk [(.iinc 2 1, 3, 2, 0, 0, 1, 0)] (pe := 81) (gs := []) (loc' := [.ref 39, .int x1, .int (x2 + (1 : Int32)), .int 0]) (stk' := []) (σ' := σ46) (by decide +kernel) rfl).trans ?_
          refine (hb_r_goto (hb_fe_ok (r := (.goto (-77), 3, 4, 0, 0, 0, 0)) (by decide +kernel))).trans ?_
          exact rfl
        · refine (hb_blk [(.aload_n 0, 1, 0, 0, 0, 0, 0), (.getfield 15, 3, 7, 1, 0, 0, 0), (.iload_n 1, 1, 1, 0, 0, 0, 0), (.iload_n 2, 1, 2, 0, 0, 0, 0), (.iastore, 1, 0, 0, 0, 0, 0), (.aload_n 0, 1, 0, 0, 0, 0, 0), (.getfield 18, 3, 7, 2, 0, 0, 0), (.iload_n 1, 1, 1, 0, 0, 0, 0), (.aload_n 0, 1, 0, 0, 0, 0, 0), (.iload_n 2, 1, 2, 0, 0, 0, 0), (.aload_n 0, 1, 0, 0, 0, 0, 0), (.iload_n 2, 1, 2, 0, 0, 0, 0)] (pe := 68) (gs := [hb_in x1 401]) (loc' := [.ref 39, .int x1, .int x2, .int 0]) (stk' := [.int x2, .ref 39, .int x2, .ref 39, .int x1, .ref 42]) (σ' := (hb_up σ46 41 (Int32.toNatClampNeg x1) x2)) (by decide +kernel) rfl).trans ?_
          refine congrArg (hb_g _) ?_
          refine hb_Vi (hb_fe_ok (r := (.invokevirtual 29, 3, 45, 1, 0, 0, 0)) (by decide +kernel)) (by decide +kernel) (as := [.int x2]) (v := .ref 39) (rest := [.int x2, .ref 39, .int x1, .ref 42]) rfl rfl (Nat.le_of_ble_eq_true rfl) (fun y68 σ68 => ?_)
          refine hb_Vi (hb_fe_ok (r := (.invokevirtual 33, 3, 46, 2, 0, 0, 0)) (by decide +kernel)) (by decide +kernel) (as := [.int x2, .int y68]) (v := .ref 39) (rest := [.int x1, .ref 42]) rfl rfl (Nat.le_of_ble_eq_true rfl) (fun y71 σ71 => ?_)
          refine (hb_blk [(.iastore, 1, 0, 0, 0, 0, 0), (.iinc 1 1, 3, 1, 0, 0, 1, 0)] (pe := 78) (gs := [hb_in x1 401]) (loc' := [.ref 39, .int (x1 + (1 : Int32)), .int x2, .int 0]) (stk' := []) (σ' := (hb_up σ71 42 (Int32.toNatClampNeg x1) y71)) (by decide +kernel) rfl).trans ?_
          refine congrArg (hb_g _) ?_
          refine (hb_blk [(.iinc 2 1, 3, 2, 0, 0, 1, 0)] (pe := 81) (gs := []) (loc' := [.ref 39, .int (x1 + (1 : Int32)), .int (x2 + (1 : Int32)), .int 0]) (stk' := []) (σ' := (hb_up σ71 42 (Int32.toNatClampNeg x1) y71)) (by decide +kernel) rfl).trans ?_
          refine (hb_r_goto (hb_fe_ok (r := (.goto (-77), 3, 4, 0, 0, 0, 0)) (by decide +kernel))).trans ?_
          exact rfl
      · refine (hb_blk [(.iconst 1, 1, 0, 0, 0, 1, 0)] (pe := 35) (gs := []) (loc' := [.ref 39, .int x1, .int x2, v3]) (stk' := [.int 1]) (σ' := σ) (by decide +kernel) rfl).trans ?_
        refine (hb_r_goto (hb_fe_ok (r := (.goto 4, 3, 39, 0, 0, 0, 0)) (by decide +kernel))).trans ?_
        refine (hb_blk [(.istore_n 3, 1, 3, 0, 0, 0, 0), (.iload_n 3, 1, 3, 0, 0, 0, 0)] (pe := 41) (gs := []) (loc' := [.ref 39, .int x1, .int x2, .int 1]) (stk' := [.int 1]) (σ' := σ) (by decide +kernel) rfl).trans ?_
        refine hb_br0T (hb_fe_ok (r := (.ifCond .ne 37, 3, 78, 0, 0, 0, 0)) (by decide +kernel)) (by decide) ?_
        refine (hb_blk [(.iinc 2 1, 3, 2, 0, 0, 1, 0)] (pe := 81) (gs := []) (loc' := [.ref 39, .int x1, .int (x2 + (1 : Int32)), .int 1]) (stk' := []) (σ' := σ) (by decide +kernel) rfl).trans ?_
        refine (hb_r_goto (hb_fe_ok (r := (.goto (-77), 3, 4, 0, 0, 0, 0)) (by decide +kernel))).trans ?_
        exact rfl
set_option maxRecDepth 8000 in
theorem e45_0  (σ : hbM) (x1 : Int32) : hb_run hbSH 45 (0, [.ref 39, .int x1, .null], [], σ) = hb_run hbSH 45 (4, [.ref 39, .int x1, .int (x1 + (1 : Int32))], [], σ) := by
  refine (hb_blk [(.iload_n 1, 1, 1, 0, 0, 0, 0), (.iconst 1, 1, 0, 0, 0, 1, 0), (.iadd, 1, 0, 0, 0, 0, 0), (.istore_n 2, 1, 2, 0, 0, 0, 0)] (pe := 4) (gs := []) (loc' := [.ref 39, .int x1, .int (x1 + (1 : Int32))]) (stk' := []) (σ' := σ) (by decide +kernel) rfl).trans ?_
  exact rfl
set_option maxRecDepth 8000 in
theorem e45_4  (σ : hbM) (x1 : Int32) (x2 : Int32) : hb_run hbSH 45 (4, [.ref 39, .int x1, .int x2], [], σ) = if ((σ 39 3) ≤ x2) then (some (some (.int x2), σ)) else (hb_ci (hb_ev hbSH 199 [.ref 39, .int x2] σ) (fun y14 σ14 => if (y14 = (0 : Int32)) then (some (some (.int x2), σ14)) else (hb_run hbSH 45 (4, [.ref 39, .int x1, .int (x2 + (1 : Int32))], [], σ14)))) := by
  refine (hb_blk [(.iload_n 2, 1, 2, 0, 0, 0, 0), (.aload_n 0, 1, 0, 0, 0, 0, 0), (.getfield 21, 3, 7, 3, 0, 0, 0)] (pe := 9) (gs := []) (loc' := [.ref 39, .int x1, .int x2]) (stk' := [.int (σ 39 3), .int x2]) (σ' := σ) (by decide +kernel) rfl).trans ?_
  refine hb_br (hb_fe_ok (r := (.if_icmp .ge 17, 3, 26, 0, 0, 0, 0)) (by decide +kernel)) rfl ?_ ?_
  · refine (hb_blk [(.iload_n 2, 1, 2, 0, 0, 0, 0)] (pe := 27) (gs := []) (loc' := [.ref 39, .int x1, .int x2]) (stk' := [.int x2]) (σ' := σ) (by decide +kernel) rfl).trans ?_
    exact hb_r_iret (hb_fe_ok (r := (.ireturn, 1, 0, 0, 0, 0, 0)) (by decide +kernel))
  · refine (hb_blk [(.aload_n 0, 1, 0, 0, 0, 0, 0), (.iload_n 2, 1, 2, 0, 0, 0, 0)] (pe := 14) (gs := []) (loc' := [.ref 39, .int x1, .int x2]) (stk' := [.int x2, .ref 39]) (σ' := σ) (by decide +kernel) rfl).trans ?_
    refine hb_Vi (hb_fe_ok (r := (.invokevirtual 25, 3, 199, 1, 0, 0, 0)) (by decide +kernel)) (by decide +kernel) (as := [.int x2]) (v := .ref 39) (rest := []) rfl rfl (Nat.le_of_ble_eq_true rfl) (fun y14 σ14 => ?_)
    refine hb_br0 (hb_fe_ok (r := (.ifCond .eq 9, 3, 26, 0, 0, 0, 0)) (by decide +kernel)) rfl ?_ ?_
    · refine (hb_blk [(.iload_n 2, 1, 2, 0, 0, 0, 0)] (pe := 27) (gs := []) (loc' := [.ref 39, .int x1, .int x2]) (stk' := [.int x2]) (σ' := σ14) (by decide +kernel) rfl).trans ?_
      exact hb_r_iret (hb_fe_ok (r := (.ireturn, 1, 0, 0, 0, 0, 0)) (by decide +kernel))
    · refine (hb_blk [(.iinc 2 1, 3, 2, 0, 0, 1, 0)] (pe := 23) (gs := []) (loc' := [.ref 39, .int x1, .int (x2 + (1 : Int32))]) (stk' := []) (σ' := σ14) (by decide +kernel) rfl).trans ?_
      refine (hb_r_goto (hb_fe_ok (r := (.goto (-19), 3, 4, 0, 0, 0, 0)) (by decide +kernel))).trans ?_
      exact rfl
set_option maxRecDepth 8000 in
theorem e46_0  (σ : hbM) (x1 : Int32) (x2 : Int32) : hb_run hbSH 46 (0, [.ref 39, .int x1, .int x2, .null, .null], [], σ) = hb_g [hb_in x1 400] (hb_ci (hb_ev hbSH 48 [.int (σ 40 (Int32.toNatClampNeg x1))] σ) (fun y6 σ6 => if (y6 = (0 : Int32)) then (hb_g [hb_in x1 400] (hb_ci (hb_ev hbSH 49 [.int (σ6 40 (Int32.toNatClampNeg x1))] σ6) (fun y25 σ25 => if (¬ y25 = (0 : Int32)) then (if ((x2 - x1) ≤ (2 : Int32)) then (hb_run hbSH 46 (65, [.ref 39, .int x1, .int x2, .int 0, .int x1], [], σ25)) else (some (some (.int 22), σ25))) else (hb_g [hb_in x1 400] (if (¬ (σ25 40 (Int32.toNatClampNeg x1)) = (59 : Int32)) then (some (some (.int 22), σ25)) else (some (some (.int 20), σ25))))))) else (hb_ci (hb_ev hbSH 47 [.ref 39, .int x1, .int x2] σ6) (fun y15 σ15 => some (some (.int y15), σ15))))) := by
  refine (hb_blk [(.aload_n 0, 1, 0, 0, 0, 0, 0), (.getfield 9, 3, 7, 0, 0, 0, 0), (.iload_n 1, 1, 1, 0, 0, 0, 0), (.iaload, 1, 0, 0, 0, 0, 0)] (pe := 6) (gs := [hb_in x1 400]) (loc' := [.ref 39, .int x1, .int x2, .null, .null]) (stk' := [.int (σ 40 (Int32.toNatClampNeg x1))]) (σ' := σ) (by decide +kernel) rfl).trans ?_
  refine congrArg (hb_g _) ?_
  refine hb_Si (hb_fe_ok (r := (.invokestatic 37, 3, 48, 1, 0, 0, 0)) (by decide +kernel)) (by decide) (by decide +kernel) (as := [.int (σ 40 (Int32.toNatClampNeg x1))]) (rest := []) rfl (Nat.le_of_ble_eq_true rfl) (fun y6 σ6 => ?_)
  refine hb_br0 (hb_fe_ok (r := (.ifCond .eq 10, 3, 19, 0, 0, 0, 0)) (by decide +kernel)) rfl ?_ ?_
  · refine (hb_blk [(.aload_n 0, 1, 0, 0, 0, 0, 0), (.getfield 9, 3, 7, 0, 0, 0, 0), (.iload_n 1, 1, 1, 0, 0, 0, 0), (.iaload, 1, 0, 0, 0, 0, 0)] (pe := 25) (gs := [hb_in x1 400]) (loc' := [.ref 39, .int x1, .int x2, .null, .null]) (stk' := [.int (σ6 40 (Int32.toNatClampNeg x1))]) (σ' := σ6) (by decide +kernel) rfl).trans ?_
    refine congrArg (hb_g _) ?_
    refine hb_Si (hb_fe_ok (r := (.invokestatic 40, 3, 49, 1, 0, 0, 0)) (by decide +kernel)) (by decide) (by decide +kernel) (as := [.int (σ6 40 (Int32.toNatClampNeg x1))]) (rest := []) rfl (Nat.le_of_ble_eq_true rfl) (fun y25 σ25 => ?_)
    refine hb_br0 (hb_fe_ok (r := (.ifCond .ne 22, 3, 50, 0, 0, 0, 0)) (by decide +kernel)) rfl ?_ ?_
    · refine (hb_blk [(.iload_n 2, 1, 2, 0, 0, 0, 0), (.iload_n 1, 1, 1, 0, 0, 0, 0), (.isub, 1, 0, 0, 0, 0, 0), (.iconst 2, 1, 0, 0, 0, 2, 0)] (pe := 54) (gs := []) (loc' := [.ref 39, .int x1, .int x2, .null, .null]) (stk' := [.int 2, .int (x2 - x1)]) (σ' := σ25) (by decide +kernel) rfl).trans ?_
      refine hb_br (hb_fe_ok (r := (.if_icmp .le 6, 3, 60, 0, 0, 0, 0)) (by decide +kernel)) rfl ?_ ?_
      · refine (hb_blk [(.iconst 0, 1, 0, 0, 0, 0, 0), (.istore_n 3, 1, 3, 0, 0, 0, 0), (.iload_n 1, 1, 1, 0, 0, 0, 0), (.istore 4, 2, 4, 0, 0, 0, 0)] (pe := 65) (gs := []) (loc' := [.ref 39, .int x1, .int x2, .int 0, .int x1]) (stk' := []) (σ' := σ25) (by decide +kernel) rfl).trans ?_
        exact rfl
      · refine (hb_blk [(.bipush 22, 2, 0, 0, 0, 22, 0)] (pe := 59) (gs := []) (loc' := [.ref 39, .int x1, .int x2, .null, .null]) (stk' := [.int 22]) (σ' := σ25) (by decide +kernel) rfl).trans ?_
        exact hb_r_iret (hb_fe_ok (r := (.ireturn, 1, 0, 0, 0, 0, 0)) (by decide +kernel))
    · refine (hb_blk [(.aload_n 0, 1, 0, 0, 0, 0, 0), (.getfield 9, 3, 7, 0, 0, 0, 0), (.iload_n 1, 1, 1, 0, 0, 0, 0), (.iaload, 1, 0, 0, 0, 0, 0), (.bipush 59, 2, 0, 0, 0, 59, 0)] (pe := 39) (gs := [hb_in x1 400]) (loc' := [.ref 39, .int x1, .int x2, .null, .null]) (stk' := [.int 59, .int (σ25 40 (Int32.toNatClampNeg x1))]) (σ' := σ25) (by decide +kernel) rfl).trans ?_
      refine congrArg (hb_g _) ?_
      refine hb_br (hb_fe_ok (r := (.if_icmp .ne 8, 3, 47, 0, 0, 0, 0)) (by decide +kernel)) rfl ?_ ?_
      · refine (hb_blk [(.bipush 22, 2, 0, 0, 0, 22, 0)] (pe := 49) (gs := []) (loc' := [.ref 39, .int x1, .int x2, .null, .null]) (stk' := [.int 22]) (σ' := σ25) (by decide +kernel) rfl).trans ?_
        exact hb_r_iret (hb_fe_ok (r := (.ireturn, 1, 0, 0, 0, 0, 0)) (by decide +kernel))
      · refine (hb_blk [(.bipush 20, 2, 0, 0, 0, 20, 0)] (pe := 44) (gs := []) (loc' := [.ref 39, .int x1, .int x2, .null, .null]) (stk' := [.int 20]) (σ' := σ25) (by decide +kernel) rfl).trans ?_
        refine (hb_r_goto (hb_fe_ok (r := (.goto 5, 3, 49, 0, 0, 0, 0)) (by decide +kernel))).trans ?_
        exact hb_r_iret (hb_fe_ok (r := (.ireturn, 1, 0, 0, 0, 0, 0)) (by decide +kernel))
  · refine (hb_blk [(.aload_n 0, 1, 0, 0, 0, 0, 0), (.iload_n 1, 1, 1, 0, 0, 0, 0), (.iload_n 2, 1, 2, 0, 0, 0, 0)] (pe := 15) (gs := []) (loc' := [.ref 39, .int x1, .int x2, .null, .null]) (stk' := [.int x2, .int x1, .ref 39]) (σ' := σ6) (by decide +kernel) rfl).trans ?_
    refine hb_Vi (hb_fe_ok (r := (.invokevirtual 43, 3, 47, 2, 0, 0, 0)) (by decide +kernel)) (by decide +kernel) (as := [.int x1, .int x2]) (v := .ref 39) (rest := []) rfl rfl (Nat.le_of_ble_eq_true rfl) (fun y15 σ15 => ?_)
    exact hb_r_iret (hb_fe_ok (r := (.ireturn, 1, 0, 0, 0, 0, 0)) (by decide +kernel))
set_option maxRecDepth 8000 in
theorem e46_65  (σ : hbM) (x1 : Int32) (x2 : Int32) (x3 : Int32) (x4 : Int32) : hb_run hbSH 46 (65, [.ref 39, .int x1, .int x2, .int x3, .int x4], [], σ) = if (x2 ≤ x4) then (some (some (.int ((100 : Int32) + x3)), σ)) else (hb_g [hb_in x4 400] (hb_run hbSH 46 (65, [.ref 39, .int x1, .int x2, .int ((((10 : Int32) * x3) + (σ 40 (Int32.toNatClampNeg x4))) - (48 : Int32)), .int (x4 + (1 : Int32))], [], σ))) := by
  refine (hb_blk [(.iload 4, 2, 4, 0, 0, 0, 0), (.iload_n 2, 1, 2, 0, 0, 0, 0)] (pe := 68) (gs := []) (loc' := [.ref 39, .int x1, .int x2, .int x3, .int x4]) (stk' := [.int x2, .int x4]) (σ' := σ) (by decide +kernel) rfl).trans ?_
  refine hb_br (hb_fe_ok (r := (.if_icmp .ge 25, 3, 93, 0, 0, 0, 0)) (by decide +kernel)) rfl ?_ ?_
  · refine (hb_blk [(.bipush 100, 2, 0, 0, 0, 100, 0), (.iload_n 3, 1, 3, 0, 0, 0, 0), (.iadd, 1, 0, 0, 0, 0, 0)] (pe := 97) (gs := []) (loc' := [.ref 39, .int x1, .int x2, .int x3, .int x4]) (stk' := [.int ((100 : Int32) + x3)]) (σ' := σ) (by decide +kernel) rfl).trans ?_
    exact hb_r_iret (hb_fe_ok (r := (.ireturn, 1, 0, 0, 0, 0, 0)) (by decide +kernel))
  · refine (hb_blk [(.bipush 10, 2, 0, 0, 0, 10, 0), (.iload_n 3, 1, 3, 0, 0, 0, 0), (.imul, 1, 0, 0, 0, 0, 0), (.aload_n 0, 1, 0, 0, 0, 0, 0), (.getfield 9, 3, 7, 0, 0, 0, 0), (.iload 4, 2, 4, 0, 0, 0, 0), (.iaload, 1, 0, 0, 0, 0, 0), (.iadd, 1, 0, 0, 0, 0, 0), (.bipush 48, 2, 0, 0, 0, 48, 0), (.isub, 1, 0, 0, 0, 0, 0), (.istore_n 3, 1, 3, 0, 0, 0, 0), (.iinc 4 1, 3, 4, 0, 0, 1, 0)] (pe := 90) (gs := [hb_in x4 400]) (loc' := [.ref 39, .int x1, .int x2, .int ((((10 : Int32) * x3) + (σ 40 (Int32.toNatClampNeg x4))) - (48 : Int32)), .int (x4 + (1 : Int32))]) (stk' := []) (σ' := σ) (by decide +kernel) rfl).trans ?_
    refine congrArg (hb_g _) ?_
    refine (hb_r_goto (hb_fe_ok (r := (.goto (-25), 3, 65, 0, 0, 0, 0)) (by decide +kernel))).trans ?_
    exact rfl
set_option maxRecDepth 8000 in
theorem e47_0  (σ : hbM) (x1 : Int32) (x2 : Int32) : hb_run hbSH 47 (0, [.ref 39, .int x1, .int x2, .null, .null, .null, .null], [], σ) = hb_run hbSH 47 (11, [.ref 39, .int x1, .int x2, .int 0, .int x1, .int 1, .int 0], [], σ) := by
  refine (hb_blk [(.iconst 0, 1, 0, 0, 0, 0, 0), (.istore_n 3, 1, 3, 0, 0, 0, 0), (.iload_n 1, 1, 1, 0, 0, 0, 0), (.istore 4, 2, 4, 0, 0, 0, 0), (.iconst 1, 1, 0, 0, 0, 1, 0), (.istore 5, 2, 5, 0, 0, 0, 0), (.iconst 0, 1, 0, 0, 0, 0, 0), (.istore 6, 2, 6, 0, 0, 0, 0)] (pe := 11) (gs := []) (loc' := [.ref 39, .int x1, .int x2, .int 0, .int x1, .int 1, .int 0]) (stk' := []) (σ' := σ) (by decide +kernel) rfl).trans ?_
  exact rfl
set_option maxRecDepth 8000 in
theorem e47_11  (σ : hbM) (x1 : Int32) (x2 : Int32) (x3 : Int32) (x4 : Int32) (x5 : Int32) (x6 : Int32) : hb_run hbSH 47 (11, [.ref 39, .int x1, .int x2, .int x3, .int x4, .int x5, .int x6], [], σ) = hb_ci (hb_ev hbSH 191 [.ref 1000] σ) (fun y15 σ15 => if (y15 ≤ x6) then (some (some (.int 22), σ15)) else (hb_ci (hb_ev hbSH 192 [.ref 1000, .int x6] σ15) (fun y25 σ25 => if (y25 = (32 : Int32)) then (if (x5 = (0 : Int32)) then (hb_run hbSH 47 (11, [.ref 39, .int x1, .int x2, .int (x3 + (1 : Int32)), .int x1, .int 1, .int (x6 + (1 : Int32))], [], σ25)) else (if (¬ x4 = x2) then (hb_run hbSH 47 (11, [.ref 39, .int x1, .int x2, .int (x3 + (1 : Int32)), .int x1, .int 1, .int (x6 + (1 : Int32))], [], σ25)) else (some (some (.int x3), σ25)))) else (if (x5 = (0 : Int32)) then (hb_run hbSH 47 (11, [.ref 39, .int x1, .int x2, .int x3, .int (x4 + (1 : Int32)), .int 0, .int (x6 + (1 : Int32))], [], σ25)) else (if (x2 ≤ x4) then (hb_run hbSH 47 (11, [.ref 39, .int x1, .int x2, .int x3, .int (x4 + (1 : Int32)), .int 0, .int (x6 + (1 : Int32))], [], σ25)) else (hb_g [hb_in x4 400] (hb_ci (hb_ev hbSH 192 [.ref 1000, .int x6] σ25) (fun y55 σ55 => if (¬ (σ25 40 (Int32.toNatClampNeg x4)) = y55) then (hb_run hbSH 47 (11, [.ref 39, .int x1, .int x2, .int x3, .int (x4 + (1 : Int32)), .int 0, .int (x6 + (1 : Int32))], [], σ55)) else (hb_run hbSH 47 (11, [.ref 39, .int x1, .int x2, .int x3, .int (x4 + (1 : Int32)), .int 1, .int (x6 + (1 : Int32))], [], σ55)))))))))) := by
  refine (hb_blk [(.iload 6, 2, 6, 0, 0, 0, 0), (.ldc 46, 2, 0, 0, 1, 0, 0)] (pe := 15) (gs := []) (loc' := [.ref 39, .int x1, .int x2, .int x3, .int x4, .int x5, .int x6]) (stk' := [.ref 1000, .int x6]) (σ' := σ) (by decide +kernel) rfl).trans ?_
  refine hb_Vi (hb_fe_ok (r := (.invokevirtual 48, 3, 191, 0, 2, 0, 0)) (by decide +kernel)) (by decide +kernel) (as := []) (v := .ref 1000) (rest := [.int x6]) rfl rfl (Nat.le_of_ble_eq_true rfl) (fun y15 σ15 => ?_)
  refine hb_br (hb_fe_ok (r := (.if_icmp .ge 84, 3, 102, 0, 0, 0, 0)) (by decide +kernel)) rfl ?_ ?_
  · refine (hb_blk [(.bipush 22, 2, 0, 0, 0, 22, 0)] (pe := 104) (gs := []) (loc' := [.ref 39, .int x1, .int x2, .int x3, .int x4, .int x5, .int x6]) (stk' := [.int 22]) (σ' := σ15) (by decide +kernel) rfl).trans ?_
    exact hb_r_iret (hb_fe_ok (r := (.ireturn, 1, 0, 0, 0, 0, 0)) (by decide +kernel))
  · refine (hb_blk [(.ldc 46, 2, 0, 0, 1, 0, 0), (.iload 6, 2, 6, 0, 0, 0, 0)] (pe := 25) (gs := []) (loc' := [.ref 39, .int x1, .int x2, .int x3, .int x4, .int x5, .int x6]) (stk' := [.int x6, .ref 1000]) (σ' := σ15) (by decide +kernel) rfl).trans ?_
    refine hb_Vi (hb_fe_ok (r := (.invokevirtual 54, 3, 192, 1, 2, 0, 0)) (by decide +kernel)) (by decide +kernel) (as := [.int x6]) (v := .ref 1000) (rest := []) rfl rfl (Nat.le_of_ble_eq_true rfl) (fun y25 σ25 => ?_)
    refine (hb_blk [(.bipush 32, 2, 0, 0, 0, 32, 0)] (pe := 30) (gs := []) (loc' := [.ref 39, .int x1, .int x2, .int x3, .int x4, .int x5, .int x6]) (stk' := [.int 32, .int y25]) (σ' := σ25) (by decide +kernel) rfl).trans ?_
    refine hb_br (hb_fe_ok (r := (.if_icmp .eq 44, 3, 74, 0, 0, 0, 0)) (by decide +kernel)) rfl ?_ ?_
    · refine (hb_blk [(.iload 5, 2, 5, 0, 0, 0, 0)] (pe := 76) (gs := []) (loc' := [.ref 39, .int x1, .int x2, .int x3, .int x4, .int x5, .int x6]) (stk' := [.int x5]) (σ' := σ25) (by decide +kernel) rfl).trans ?_
      refine hb_br0 (hb_fe_ok (r := (.ifCond .eq 11, 3, 87, 0, 0, 0, 0)) (by decide +kernel)) rfl ?_ ?_
      · refine (hb_blk [(.iinc 3 1, 3, 3, 0, 0, 1, 0), (.iload_n 1, 1, 1, 0, 0, 0, 0), (.istore 4, 2, 4, 0, 0, 0, 0), (.iconst 1, 1, 0, 0, 0, 1, 0), (.istore 5, 2, 5, 0, 0, 0, 0)] (pe := 96) (gs := []) (loc' := [.ref 39, .int x1, .int x2, .int (x3 + (1 : Int32)), .int x1, .int 1, .int x6]) (stk' := []) (σ' := σ25) (by decide +kernel) rfl).trans ?_
        refine (hb_blk [(.iinc 6 1, 3, 6, 0, 0, 1, 0)] (pe := 99) (gs := []) (loc' := [.ref 39, .int x1, .int x2, .int (x3 + (1 : Int32)), .int x1, .int 1, .int (x6 + (1 : Int32))]) (stk' := []) (σ' := σ25) (by decide +kernel) rfl).trans ?_
        refine (hb_r_goto (hb_fe_ok (r := (.goto (-88), 3, 11, 0, 0, 0, 0)) (by decide +kernel))).trans ?_
        exact rfl
      · refine (hb_blk [(.iload 4, 2, 4, 0, 0, 0, 0), (.iload_n 2, 1, 2, 0, 0, 0, 0)] (pe := 82) (gs := []) (loc' := [.ref 39, .int x1, .int x2, .int x3, .int x4, .int x5, .int x6]) (stk' := [.int x2, .int x4]) (σ' := σ25) (by decide +kernel) rfl).trans ?_
        refine hb_br (hb_fe_ok (r := (.if_icmp .ne 5, 3, 87, 0, 0, 0, 0)) (by decide +kernel)) rfl ?_ ?_
        · refine (hb_blk [(.iinc 3 1, 3, 3, 0, 0, 1, 0), (.iload_n 1, 1, 1, 0, 0, 0, 0), (.istore 4, 2, 4, 0, 0, 0, 0), (.iconst 1, 1, 0, 0, 0, 1, 0), (.istore 5, 2, 5, 0, 0, 0, 0)] (pe := 96) (gs := []) (loc' := [.ref 39, .int x1, .int x2, .int (x3 + (1 : Int32)), .int x1, .int 1, .int x6]) (stk' := []) (σ' := σ25) (by decide +kernel) rfl).trans ?_
          refine (hb_blk [(.iinc 6 1, 3, 6, 0, 0, 1, 0)] (pe := 99) (gs := []) (loc' := [.ref 39, .int x1, .int x2, .int (x3 + (1 : Int32)), .int x1, .int 1, .int (x6 + (1 : Int32))]) (stk' := []) (σ' := σ25) (by decide +kernel) rfl).trans ?_
          refine (hb_r_goto (hb_fe_ok (r := (.goto (-88), 3, 11, 0, 0, 0, 0)) (by decide +kernel))).trans ?_
          exact rfl
        · refine (hb_blk [(.iload_n 3, 1, 3, 0, 0, 0, 0)] (pe := 86) (gs := []) (loc' := [.ref 39, .int x1, .int x2, .int x3, .int x4, .int x5, .int x6]) (stk' := [.int x3]) (σ' := σ25) (by decide +kernel) rfl).trans ?_
          exact hb_r_iret (hb_fe_ok (r := (.ireturn, 1, 0, 0, 0, 0, 0)) (by decide +kernel))
    · refine (hb_blk [(.iload 5, 2, 5, 0, 0, 0, 0)] (pe := 35) (gs := []) (loc' := [.ref 39, .int x1, .int x2, .int x3, .int x4, .int x5, .int x6]) (stk' := [.int x5]) (σ' := σ25) (by decide +kernel) rfl).trans ?_
      refine hb_br0 (hb_fe_ok (r := (.ifCond .eq 30, 3, 65, 0, 0, 0, 0)) (by decide +kernel)) rfl ?_ ?_
      · refine (hb_blk [(.iconst 0, 1, 0, 0, 0, 0, 0)] (pe := 66) (gs := []) (loc' := [.ref 39, .int x1, .int x2, .int x3, .int x4, .int x5, .int x6]) (stk' := [.int 0]) (σ' := σ25) (by decide +kernel) rfl).trans ?_
        refine (hb_blk [(.istore 5, 2, 5, 0, 0, 0, 0), (.iinc 4 1, 3, 4, 0, 0, 1, 0)] (pe := 71) (gs := []) (loc' := [.ref 39, .int x1, .int x2, .int x3, .int (x4 + (1 : Int32)), .int 0, .int x6]) (stk' := []) (σ' := σ25) (by decide +kernel) rfl).trans ?_
        refine (hb_r_goto (hb_fe_ok (r := (.goto 25, 3, 96, 0, 0, 0, 0)) (by decide +kernel))).trans ?_
        refine (hb_blk [(.iinc 6 1, 3, 6, 0, 0, 1, 0)] (pe := 99) (gs := []) (loc' := [.ref 39, .int x1, .int x2, .int x3, .int (x4 + (1 : Int32)), .int 0, .int (x6 + (1 : Int32))]) (stk' := []) (σ' := σ25) (by decide +kernel) rfl).trans ?_
        refine (hb_r_goto (hb_fe_ok (r := (.goto (-88), 3, 11, 0, 0, 0, 0)) (by decide +kernel))).trans ?_
        exact rfl
      · refine (hb_blk [(.iload 4, 2, 4, 0, 0, 0, 0), (.iload_n 2, 1, 2, 0, 0, 0, 0)] (pe := 41) (gs := []) (loc' := [.ref 39, .int x1, .int x2, .int x3, .int x4, .int x5, .int x6]) (stk' := [.int x2, .int x4]) (σ' := σ25) (by decide +kernel) rfl).trans ?_
        refine hb_br (hb_fe_ok (r := (.if_icmp .ge 24, 3, 65, 0, 0, 0, 0)) (by decide +kernel)) rfl ?_ ?_
        · refine (hb_blk [(.iconst 0, 1, 0, 0, 0, 0, 0)] (pe := 66) (gs := []) (loc' := [.ref 39, .int x1, .int x2, .int x3, .int x4, .int x5, .int x6]) (stk' := [.int 0]) (σ' := σ25) (by decide +kernel) rfl).trans ?_
          refine (hb_blk [(.istore 5, 2, 5, 0, 0, 0, 0), (.iinc 4 1, 3, 4, 0, 0, 1, 0)] (pe := 71) (gs := []) (loc' := [.ref 39, .int x1, .int x2, .int x3, .int (x4 + (1 : Int32)), .int 0, .int x6]) (stk' := []) (σ' := σ25) (by decide +kernel) rfl).trans ?_
          refine (hb_r_goto (hb_fe_ok (r := (.goto 25, 3, 96, 0, 0, 0, 0)) (by decide +kernel))).trans ?_
          refine (hb_blk [(.iinc 6 1, 3, 6, 0, 0, 1, 0)] (pe := 99) (gs := []) (loc' := [.ref 39, .int x1, .int x2, .int x3, .int (x4 + (1 : Int32)), .int 0, .int (x6 + (1 : Int32))]) (stk' := []) (σ' := σ25) (by decide +kernel) rfl).trans ?_
          refine (hb_r_goto (hb_fe_ok (r := (.goto (-88), 3, 11, 0, 0, 0, 0)) (by decide +kernel))).trans ?_
          exact rfl
        · refine (hb_blk [(.aload_n 0, 1, 0, 0, 0, 0, 0), (.getfield 9, 3, 7, 0, 0, 0, 0), (.iload 4, 2, 4, 0, 0, 0, 0), (.iaload, 1, 0, 0, 0, 0, 0), (.ldc 46, 2, 0, 0, 1, 0, 0), (.iload 6, 2, 6, 0, 0, 0, 0)] (pe := 55) (gs := [hb_in x4 400]) (loc' := [.ref 39, .int x1, .int x2, .int x3, .int x4, .int x5, .int x6]) (stk' := [.int x6, .ref 1000, .int (σ25 40 (Int32.toNatClampNeg x4))]) (σ' := σ25) (by decide +kernel) rfl).trans ?_
          refine congrArg (hb_g _) ?_
          refine hb_Vi (hb_fe_ok (r := (.invokevirtual 54, 3, 192, 1, 2, 0, 0)) (by decide +kernel)) (by decide +kernel) (as := [.int x6]) (v := .ref 1000) (rest := [.int (σ25 40 (Int32.toNatClampNeg x4))]) rfl rfl (Nat.le_of_ble_eq_true rfl) (fun y55 σ55 => ?_)
          refine hb_br (hb_fe_ok (r := (.if_icmp .ne 7, 3, 65, 0, 0, 0, 0)) (by decide +kernel)) rfl ?_ ?_
          · refine (hb_blk [(.iconst 0, 1, 0, 0, 0, 0, 0)] (pe := 66) (gs := []) (loc' := [.ref 39, .int x1, .int x2, .int x3, .int x4, .int x5, .int x6]) (stk' := [.int 0]) (σ' := σ55) (by decide +kernel) rfl).trans ?_
            refine (hb_blk [(.istore 5, 2, 5, 0, 0, 0, 0), (.iinc 4 1, 3, 4, 0, 0, 1, 0)] (pe := 71) (gs := []) (loc' := [.ref 39, .int x1, .int x2, .int x3, .int (x4 + (1 : Int32)), .int 0, .int x6]) (stk' := []) (σ' := σ55) (by decide +kernel) rfl).trans ?_
            refine (hb_r_goto (hb_fe_ok (r := (.goto 25, 3, 96, 0, 0, 0, 0)) (by decide +kernel))).trans ?_
            refine (hb_blk [(.iinc 6 1, 3, 6, 0, 0, 1, 0)] (pe := 99) (gs := []) (loc' := [.ref 39, .int x1, .int x2, .int x3, .int (x4 + (1 : Int32)), .int 0, .int (x6 + (1 : Int32))]) (stk' := []) (σ' := σ55) (by decide +kernel) rfl).trans ?_
            refine (hb_r_goto (hb_fe_ok (r := (.goto (-88), 3, 11, 0, 0, 0, 0)) (by decide +kernel))).trans ?_
            exact rfl
          · refine (hb_blk [(.iconst 1, 1, 0, 0, 0, 1, 0)] (pe := 62) (gs := []) (loc' := [.ref 39, .int x1, .int x2, .int x3, .int x4, .int x5, .int x6]) (stk' := [.int 1]) (σ' := σ55) (by decide +kernel) rfl).trans ?_
            refine (hb_r_goto (hb_fe_ok (r := (.goto 4, 3, 66, 0, 0, 0, 0)) (by decide +kernel))).trans ?_
            refine (hb_blk [(.istore 5, 2, 5, 0, 0, 0, 0), (.iinc 4 1, 3, 4, 0, 0, 1, 0)] (pe := 71) (gs := []) (loc' := [.ref 39, .int x1, .int x2, .int x3, .int (x4 + (1 : Int32)), .int 1, .int x6]) (stk' := []) (σ' := σ55) (by decide +kernel) rfl).trans ?_
            refine (hb_r_goto (hb_fe_ok (r := (.goto 25, 3, 96, 0, 0, 0, 0)) (by decide +kernel))).trans ?_
            refine (hb_blk [(.iinc 6 1, 3, 6, 0, 0, 1, 0)] (pe := 99) (gs := []) (loc' := [.ref 39, .int x1, .int x2, .int x3, .int (x4 + (1 : Int32)), .int 1, .int (x6 + (1 : Int32))]) (stk' := []) (σ' := σ55) (by decide +kernel) rfl).trans ?_
            refine (hb_r_goto (hb_fe_ok (r := (.goto (-88), 3, 11, 0, 0, 0, 0)) (by decide +kernel))).trans ?_
            exact rfl
set_option maxRecDepth 8000 in
theorem e48_0  (σ : hbM) (x0 : Int32) : hb_run hbSH 48 (0, [.int x0], [], σ) = if (x0 < (97 : Int32)) then (some (some (.int 0), σ)) else (if ((122 : Int32) < x0) then (some (some (.int 0), σ)) else (some (some (.int 1), σ))) := by
  refine (hb_blk [(.iload_n 0, 1, 0, 0, 0, 0, 0), (.bipush 97, 2, 0, 0, 0, 97, 0)] (pe := 3) (gs := []) (loc' := [.int x0]) (stk' := [.int 97, .int x0]) (σ' := σ) (by decide +kernel) rfl).trans ?_
  refine hb_br (hb_fe_ok (r := (.if_icmp .lt 13, 3, 16, 0, 0, 0, 0)) (by decide +kernel)) rfl ?_ ?_
  · refine (hb_blk [(.iconst 0, 1, 0, 0, 0, 0, 0)] (pe := 17) (gs := []) (loc' := [.int x0]) (stk' := [.int 0]) (σ' := σ) (by decide +kernel) rfl).trans ?_
    exact hb_r_zret1 (hb_fe_ok (r := (.ireturn, 1, 0, 0, 1, 0, 0)) (by decide +kernel)) (by decide)
  · refine (hb_blk [(.iload_n 0, 1, 0, 0, 0, 0, 0), (.bipush 122, 2, 0, 0, 0, 122, 0)] (pe := 9) (gs := []) (loc' := [.int x0]) (stk' := [.int 122, .int x0]) (σ' := σ) (by decide +kernel) rfl).trans ?_
    refine hb_br (hb_fe_ok (r := (.if_icmp .gt 7, 3, 16, 0, 0, 0, 0)) (by decide +kernel)) rfl ?_ ?_
    · refine (hb_blk [(.iconst 0, 1, 0, 0, 0, 0, 0)] (pe := 17) (gs := []) (loc' := [.int x0]) (stk' := [.int 0]) (σ' := σ) (by decide +kernel) rfl).trans ?_
      exact hb_r_zret1 (hb_fe_ok (r := (.ireturn, 1, 0, 0, 1, 0, 0)) (by decide +kernel)) (by decide)
    · refine (hb_blk [(.iconst 1, 1, 0, 0, 0, 1, 0)] (pe := 13) (gs := []) (loc' := [.int x0]) (stk' := [.int 1]) (σ' := σ) (by decide +kernel) rfl).trans ?_
      refine (hb_r_goto (hb_fe_ok (r := (.goto 4, 3, 17, 0, 0, 0, 0)) (by decide +kernel))).trans ?_
      exact hb_r_zret1 (hb_fe_ok (r := (.ireturn, 1, 0, 0, 1, 0, 0)) (by decide +kernel)) (by decide)
set_option maxRecDepth 8000 in
theorem e49_0  (σ : hbM) (x0 : Int32) : hb_run hbSH 49 (0, [.int x0], [], σ) = if (x0 < (48 : Int32)) then (some (some (.int 0), σ)) else (if ((57 : Int32) < x0) then (some (some (.int 0), σ)) else (some (some (.int 1), σ))) := by
  refine (hb_blk [(.iload_n 0, 1, 0, 0, 0, 0, 0), (.bipush 48, 2, 0, 0, 0, 48, 0)] (pe := 3) (gs := []) (loc' := [.int x0]) (stk' := [.int 48, .int x0]) (σ' := σ) (by decide +kernel) rfl).trans ?_
  refine hb_br (hb_fe_ok (r := (.if_icmp .lt 13, 3, 16, 0, 0, 0, 0)) (by decide +kernel)) rfl ?_ ?_
  · refine (hb_blk [(.iconst 0, 1, 0, 0, 0, 0, 0)] (pe := 17) (gs := []) (loc' := [.int x0]) (stk' := [.int 0]) (σ' := σ) (by decide +kernel) rfl).trans ?_
    exact hb_r_zret1 (hb_fe_ok (r := (.ireturn, 1, 0, 0, 1, 0, 0)) (by decide +kernel)) (by decide)
  · refine (hb_blk [(.iload_n 0, 1, 0, 0, 0, 0, 0), (.bipush 57, 2, 0, 0, 0, 57, 0)] (pe := 9) (gs := []) (loc' := [.int x0]) (stk' := [.int 57, .int x0]) (σ' := σ) (by decide +kernel) rfl).trans ?_
    refine hb_br (hb_fe_ok (r := (.if_icmp .gt 7, 3, 16, 0, 0, 0, 0)) (by decide +kernel)) rfl ?_ ?_
    · refine (hb_blk [(.iconst 0, 1, 0, 0, 0, 0, 0)] (pe := 17) (gs := []) (loc' := [.int x0]) (stk' := [.int 0]) (σ' := σ) (by decide +kernel) rfl).trans ?_
      exact hb_r_zret1 (hb_fe_ok (r := (.ireturn, 1, 0, 0, 1, 0, 0)) (by decide +kernel)) (by decide)
    · refine (hb_blk [(.iconst 1, 1, 0, 0, 0, 1, 0)] (pe := 13) (gs := []) (loc' := [.int x0]) (stk' := [.int 1]) (σ' := σ) (by decide +kernel) rfl).trans ?_
      refine (hb_r_goto (hb_fe_ok (r := (.goto 4, 3, 17, 0, 0, 0, 0)) (by decide +kernel))).trans ?_
      exact hb_r_zret1 (hb_fe_ok (r := (.ireturn, 1, 0, 0, 1, 0, 0)) (by decide +kernel)) (by decide)
set_option maxRecDepth 8000 in
theorem e50_0  (σ : hbM) (x1 : Int32) (x2 : Int32) (x3 : Int32) : hb_run hbSH 50 (0, [.ref 50, .int x1, .int x2, .int x3, .null, .null, .null, .null, .null, .null, .null], [], σ) = hb_cv (hb_ev hbSH 51 [.ref 50, .int x3] σ) (fun σ2 => hb_ci (hb_ev hbSH 52 [.ref 50, .ref 45, .int 0, .int x1, .int 0] σ2) (fun y35 σ35 => hb_run hbSH 50 (43, [.ref 50, .int x1, .int x2, .int x3, .int 0, .int 0, .ref 45, .ref 46, .int y35, .int 0, .null], [], σ35))) := by
  refine (hb_blk [(.aload_n 0, 1, 0, 0, 0, 0, 0), (.iload_n 3, 1, 3, 0, 0, 0, 0)] (pe := 2) (gs := []) (loc' := [.ref 50, .int x1, .int x2, .int x3, .null, .null, .null, .null, .null, .null, .null]) (stk' := [.int x3, .ref 50]) (σ' := σ) (by decide +kernel) rfl).trans ?_
  refine hb_Vv (hb_fe_ok (r := (.invokevirtual 33, 3, 51, 1, 0, 0, 0)) (by decide +kernel)) (by decide +kernel) (as := [.int x3]) (v := .ref 50) (rest := []) rfl rfl (Nat.le_of_ble_eq_true rfl) (fun σ2 => ?_)
  refine (hb_blk [(.iconst 0, 1, 0, 0, 0, 0, 0), (.istore 4, 2, 4, 0, 0, 0, 0), (.iconst 0, 1, 0, 0, 0, 0, 0), (.istore 5, 2, 5, 0, 0, 0, 0), (.aload_n 0, 1, 0, 0, 0, 0, 0), (.getfield 29, 3, 8, 2, 0, 0, 0), (.getfield 37, 3, 4, 0, 0, 0, 0), (.astore 6, 2, 6, 0, 0, 0, 0), (.aload_n 0, 1, 0, 0, 0, 0, 0), (.getfield 29, 3, 8, 2, 0, 0, 0), (.getfield 42, 3, 4, 1, 0, 0, 0), (.astore 7, 2, 7, 0, 0, 0, 0), (.aload_n 0, 1, 0, 0, 0, 0, 0), (.aload 6, 2, 6, 0, 0, 0, 0), (.iconst 0, 1, 0, 0, 0, 0, 0), (.iload_n 1, 1, 1, 0, 0, 0, 0), (.iconst 0, 1, 0, 0, 0, 0, 0)] (pe := 35) (gs := []) (loc' := [.ref 50, .int x1, .int x2, .int x3, .int 0, .int 0, .ref 45, .ref 46, .null, .null, .null]) (stk' := [.int 0, .int x1, .int 0, .ref 45, .ref 50]) (σ' := σ2) (by decide +kernel) rfl).trans ?_
  refine hb_Vi (hb_fe_ok (r := (.invokevirtual 45, 3, 52, 4, 0, 0, 0)) (by decide +kernel)) (by decide +kernel) (as := [.ref 45, .int 0, .int x1, .int 0]) (v := .ref 50) (rest := []) rfl rfl (Nat.le_of_ble_eq_true rfl) (fun y35 σ35 => ?_)
  refine (hb_blk [(.istore 8, 2, 8, 0, 0, 0, 0), (.iconst 0, 1, 0, 0, 0, 0, 0), (.istore 9, 2, 9, 0, 0, 0, 0)] (pe := 43) (gs := []) (loc' := [.ref 50, .int x1, .int x2, .int x3, .int 0, .int 0, .ref 45, .ref 46, .int y35, .int 0, .null]) (stk' := []) (σ' := σ35) (by decide +kernel) rfl).trans ?_
  exact rfl
set_option maxRecDepth 8000 in
theorem e50_43_0  (σ : hbM) (x1 : Int32) (x2 : Int32) (x3 : Int32) (x4 : Int32) (x5 : Int32) (x8 : Int32) (x9 : Int32) : hb_run hbSH 50 (43, [.ref 50, .int x1, .int x2, .int x3, .int x4, .int x5, .ref 45, .ref 46, .int x8, .int x9, .ref 46], [], σ) = if (x2 < x9) then (if (x3 = 0) then (some (some (.int x4), σ)) else (if (x3 = 1) then (hb_ci (hb_ev hbSH 111 [.int (σ 50 6)] σ) (fun y199 σ199 => some (some (.int y199), σ199))) else (if (x3 = 2) then (some (some (.int (σ 50 7)), σ)) else (if (x3 = 3) then (some (some (.int (σ 50 8)), σ)) else (some (some (.int x5), σ)))))) else (hb_ci (hb_ev hbSH 53 [.ref 50, .ref 45, .int x8, .int x9] σ) (fun y56 σ56 => hb_run hbSH 50 (71, [.ref 50, .int x1, .int x2, .int x3, .int (x4 + y56), .int x5, .ref 45, .ref 46, .int y56, .int x9, .int 0], [], σ56))) := by
  refine (hb_blk [(.iload 9, 2, 9, 0, 0, 0, 0), (.iload_n 2, 1, 2, 0, 0, 0, 0)] (pe := 46) (gs := []) (loc' := [.ref 50, .int x1, .int x2, .int x3, .int x4, .int x5, .ref 45, .ref 46, .int x8, .int x9, .ref 46]) (stk' := [.int x2, .int x9]) (σ' := σ) (by decide +kernel) rfl).trans ?_
  refine hb_br (hb_fe_ok (r := (.if_icmp .gt 113, 3, 159, 0, 0, 0, 0)) (by decide +kernel)) rfl ?_ ?_
  · refine (hb_blk [(.iload_n 3, 1, 3, 0, 0, 0, 0)] (pe := 160) (gs := []) (loc' := [.ref 50, .int x1, .int x2, .int x3, .int x4, .int x5, .ref 45, .ref 46, .int x8, .int x9, .ref 46]) (stk' := [.int x3]) (σ' := σ) (by decide +kernel) rfl).trans ?_
    refine hb_r_sw (hb_fe_ok (r := (.tableswitch 53 0 3 #[32, 35, 43, 48], 32, 0, 0, 0, 0, 0)) (by decide +kernel)) ?_
    refine hb_swc (z := 0) (q := 192) ?_ ?_
    · refine (hb_blk [(.iload 4, 2, 4, 0, 0, 0, 0)] (pe := 194) (gs := []) (loc' := [.ref 50, .int x1, .int x2, .int x3, .int x4, .int x5, .ref 45, .ref 46, .int x8, .int x9, .ref 46]) (stk' := [.int x4]) (σ' := σ) (by decide +kernel) rfl).trans ?_
      exact hb_r_iret (hb_fe_ok (r := (.ireturn, 1, 0, 0, 0, 0, 0)) (by decide +kernel))
    refine hb_swc (z := 1) (q := 195) ?_ ?_
    · refine (hb_blk [(.aload_n 0, 1, 0, 0, 0, 0, 0), (.getfield 65, 3, 8, 6, 0, 0, 0)] (pe := 199) (gs := []) (loc' := [.ref 50, .int x1, .int x2, .int x3, .int x4, .int x5, .ref 45, .ref 46, .int x8, .int x9, .ref 46]) (stk' := [.int (σ 50 6)]) (σ' := σ) (by decide +kernel) rfl).trans ?_
      refine hb_Si (hb_fe_ok (r := (.invokestatic 57, 3, 111, 1, 1, 0, 0)) (by decide +kernel)) (by decide) (by decide +kernel) (as := [.int (σ 50 6)]) (rest := []) rfl (Nat.le_of_ble_eq_true rfl) (fun y199 σ199 => ?_)
      exact hb_r_iret (hb_fe_ok (r := (.ireturn, 1, 0, 0, 0, 0, 0)) (by decide +kernel))
    refine hb_swc (z := 2) (q := 203) ?_ ?_
    · refine (hb_blk [(.aload_n 0, 1, 0, 0, 0, 0, 0), (.getfield 69, 3, 8, 7, 0, 0, 0)] (pe := 207) (gs := []) (loc' := [.ref 50, .int x1, .int x2, .int x3, .int x4, .int x5, .ref 45, .ref 46, .int x8, .int x9, .ref 46]) (stk' := [.int (σ 50 7)]) (σ' := σ) (by decide +kernel) rfl).trans ?_
      exact hb_r_iret (hb_fe_ok (r := (.ireturn, 1, 0, 0, 0, 0, 0)) (by decide +kernel))
    refine hb_swc (z := 3) (q := 208) ?_ ?_
    · refine (hb_blk [(.aload_n 0, 1, 0, 0, 0, 0, 0), (.getfield 73, 3, 8, 8, 0, 0, 0)] (pe := 212) (gs := []) (loc' := [.ref 50, .int x1, .int x2, .int x3, .int x4, .int x5, .ref 45, .ref 46, .int x8, .int x9, .ref 46]) (stk' := [.int (σ 50 8)]) (σ' := σ) (by decide +kernel) rfl).trans ?_
      exact hb_r_iret (hb_fe_ok (r := (.ireturn, 1, 0, 0, 0, 0, 0)) (by decide +kernel))
    refine hb_swd 213 rfl ?_
    refine (hb_blk [(.iload 5, 2, 5, 0, 0, 0, 0)] (pe := 215) (gs := []) (loc' := [.ref 50, .int x1, .int x2, .int x3, .int x4, .int x5, .ref 45, .ref 46, .int x8, .int x9, .ref 46]) (stk' := [.int x5]) (σ' := σ) (by decide +kernel) rfl).trans ?_
    exact hb_r_iret (hb_fe_ok (r := (.ireturn, 1, 0, 0, 0, 0, 0)) (by decide +kernel))
  · refine (hb_blk [(.aload_n 0, 1, 0, 0, 0, 0, 0), (.aload 6, 2, 6, 0, 0, 0, 0), (.iload 8, 2, 8, 0, 0, 0, 0), (.iload 9, 2, 9, 0, 0, 0, 0)] (pe := 56) (gs := []) (loc' := [.ref 50, .int x1, .int x2, .int x3, .int x4, .int x5, .ref 45, .ref 46, .int x8, .int x9, .ref 46]) (stk' := [.int x9, .int x8, .ref 45, .ref 50]) (σ' := σ) (by decide +kernel) rfl).trans ?_
    refine hb_Vi (hb_fe_ok (r := (.invokevirtual 49, 3, 53, 3, 0, 0, 0)) (by decide +kernel)) (by decide +kernel) (as := [.ref 45, .int x8, .int x9]) (v := .ref 50) (rest := []) rfl rfl (Nat.le_of_ble_eq_true rfl) (fun y56 σ56 => ?_)
    refine (hb_blk [(.istore 8, 2, 8, 0, 0, 0, 0), (.iload 4, 2, 4, 0, 0, 0, 0), (.iload 8, 2, 8, 0, 0, 0, 0), (.iadd, 1, 0, 0, 0, 0, 0), (.istore 4, 2, 4, 0, 0, 0, 0), (.iconst 0, 1, 0, 0, 0, 0, 0), (.istore 10, 2, 10, 0, 0, 0, 0)] (pe := 71) (gs := []) (loc' := [.ref 50, .int x1, .int x2, .int x3, .int (x4 + y56), .int x5, .ref 45, .ref 46, .int y56, .int x9, .int 0]) (stk' := []) (σ' := σ56) (by decide +kernel) rfl).trans ?_
    exact rfl
set_option maxRecDepth 8000 in
theorem e50_43_1  (σ : hbM) (x1 : Int32) (x2 : Int32) (x3 : Int32) (x4 : Int32) (x5 : Int32) (x8 : Int32) (x9 : Int32) : hb_run hbSH 50 (43, [.ref 50, .int x1, .int x2, .int x3, .int x4, .int x5, .ref 45, .ref 46, .int x8, .int x9, .null], [], σ) = if (x2 < x9) then (if (x3 = 0) then (some (some (.int x4), σ)) else (if (x3 = 1) then (hb_ci (hb_ev hbSH 111 [.int (σ 50 6)] σ) (fun y199 σ199 => some (some (.int y199), σ199))) else (if (x3 = 2) then (some (some (.int (σ 50 7)), σ)) else (if (x3 = 3) then (some (some (.int (σ 50 8)), σ)) else (some (some (.int x5), σ)))))) else (hb_ci (hb_ev hbSH 53 [.ref 50, .ref 45, .int x8, .int x9] σ) (fun y56 σ56 => hb_run hbSH 50 (71, [.ref 50, .int x1, .int x2, .int x3, .int (x4 + y56), .int x5, .ref 45, .ref 46, .int y56, .int x9, .int 0], [], σ56))) := by
  refine (hb_blk [(.iload 9, 2, 9, 0, 0, 0, 0), (.iload_n 2, 1, 2, 0, 0, 0, 0)] (pe := 46) (gs := []) (loc' := [.ref 50, .int x1, .int x2, .int x3, .int x4, .int x5, .ref 45, .ref 46, .int x8, .int x9, .null]) (stk' := [.int x2, .int x9]) (σ' := σ) (by decide +kernel) rfl).trans ?_
  refine hb_br (hb_fe_ok (r := (.if_icmp .gt 113, 3, 159, 0, 0, 0, 0)) (by decide +kernel)) rfl ?_ ?_
  · refine (hb_blk [(.iload_n 3, 1, 3, 0, 0, 0, 0)] (pe := 160) (gs := []) (loc' := [.ref 50, .int x1, .int x2, .int x3, .int x4, .int x5, .ref 45, .ref 46, .int x8, .int x9, .null]) (stk' := [.int x3]) (σ' := σ) (by decide +kernel) rfl).trans ?_
    refine hb_r_sw (hb_fe_ok (r := (.tableswitch 53 0 3 #[32, 35, 43, 48], 32, 0, 0, 0, 0, 0)) (by decide +kernel)) ?_
    refine hb_swc (z := 0) (q := 192) ?_ ?_
    · refine (hb_blk [(.iload 4, 2, 4, 0, 0, 0, 0)] (pe := 194) (gs := []) (loc' := [.ref 50, .int x1, .int x2, .int x3, .int x4, .int x5, .ref 45, .ref 46, .int x8, .int x9, .null]) (stk' := [.int x4]) (σ' := σ) (by decide +kernel) rfl).trans ?_
      exact hb_r_iret (hb_fe_ok (r := (.ireturn, 1, 0, 0, 0, 0, 0)) (by decide +kernel))
    refine hb_swc (z := 1) (q := 195) ?_ ?_
    · refine (hb_blk [(.aload_n 0, 1, 0, 0, 0, 0, 0), (.getfield 65, 3, 8, 6, 0, 0, 0)] (pe := 199) (gs := []) (loc' := [.ref 50, .int x1, .int x2, .int x3, .int x4, .int x5, .ref 45, .ref 46, .int x8, .int x9, .null]) (stk' := [.int (σ 50 6)]) (σ' := σ) (by decide +kernel) rfl).trans ?_
      refine hb_Si (hb_fe_ok (r := (.invokestatic 57, 3, 111, 1, 1, 0, 0)) (by decide +kernel)) (by decide) (by decide +kernel) (as := [.int (σ 50 6)]) (rest := []) rfl (Nat.le_of_ble_eq_true rfl) (fun y199 σ199 => ?_)
      exact hb_r_iret (hb_fe_ok (r := (.ireturn, 1, 0, 0, 0, 0, 0)) (by decide +kernel))
    refine hb_swc (z := 2) (q := 203) ?_ ?_
    · refine (hb_blk [(.aload_n 0, 1, 0, 0, 0, 0, 0), (.getfield 69, 3, 8, 7, 0, 0, 0)] (pe := 207) (gs := []) (loc' := [.ref 50, .int x1, .int x2, .int x3, .int x4, .int x5, .ref 45, .ref 46, .int x8, .int x9, .null]) (stk' := [.int (σ 50 7)]) (σ' := σ) (by decide +kernel) rfl).trans ?_
      exact hb_r_iret (hb_fe_ok (r := (.ireturn, 1, 0, 0, 0, 0, 0)) (by decide +kernel))
    refine hb_swc (z := 3) (q := 208) ?_ ?_
    · refine (hb_blk [(.aload_n 0, 1, 0, 0, 0, 0, 0), (.getfield 73, 3, 8, 8, 0, 0, 0)] (pe := 212) (gs := []) (loc' := [.ref 50, .int x1, .int x2, .int x3, .int x4, .int x5, .ref 45, .ref 46, .int x8, .int x9, .null]) (stk' := [.int (σ 50 8)]) (σ' := σ) (by decide +kernel) rfl).trans ?_
      exact hb_r_iret (hb_fe_ok (r := (.ireturn, 1, 0, 0, 0, 0, 0)) (by decide +kernel))
    refine hb_swd 213 rfl ?_
    refine (hb_blk [(.iload 5, 2, 5, 0, 0, 0, 0)] (pe := 215) (gs := []) (loc' := [.ref 50, .int x1, .int x2, .int x3, .int x4, .int x5, .ref 45, .ref 46, .int x8, .int x9, .null]) (stk' := [.int x5]) (σ' := σ) (by decide +kernel) rfl).trans ?_
    exact hb_r_iret (hb_fe_ok (r := (.ireturn, 1, 0, 0, 0, 0, 0)) (by decide +kernel))
  · refine (hb_blk [(.aload_n 0, 1, 0, 0, 0, 0, 0), (.aload 6, 2, 6, 0, 0, 0, 0), (.iload 8, 2, 8, 0, 0, 0, 0), (.iload 9, 2, 9, 0, 0, 0, 0)] (pe := 56) (gs := []) (loc' := [.ref 50, .int x1, .int x2, .int x3, .int x4, .int x5, .ref 45, .ref 46, .int x8, .int x9, .null]) (stk' := [.int x9, .int x8, .ref 45, .ref 50]) (σ' := σ) (by decide +kernel) rfl).trans ?_
    refine hb_Vi (hb_fe_ok (r := (.invokevirtual 49, 3, 53, 3, 0, 0, 0)) (by decide +kernel)) (by decide +kernel) (as := [.ref 45, .int x8, .int x9]) (v := .ref 50) (rest := []) rfl rfl (Nat.le_of_ble_eq_true rfl) (fun y56 σ56 => ?_)
    refine (hb_blk [(.istore 8, 2, 8, 0, 0, 0, 0), (.iload 4, 2, 4, 0, 0, 0, 0), (.iload 8, 2, 8, 0, 0, 0, 0), (.iadd, 1, 0, 0, 0, 0, 0), (.istore 4, 2, 4, 0, 0, 0, 0), (.iconst 0, 1, 0, 0, 0, 0, 0), (.istore 10, 2, 10, 0, 0, 0, 0)] (pe := 71) (gs := []) (loc' := [.ref 50, .int x1, .int x2, .int x3, .int (x4 + y56), .int x5, .ref 45, .ref 46, .int y56, .int x9, .int 0]) (stk' := []) (σ' := σ56) (by decide +kernel) rfl).trans ?_
    exact rfl
set_option maxRecDepth 8000 in
theorem e50_43_2  (σ : hbM) (x1 : Int32) (x2 : Int32) (x3 : Int32) (x4 : Int32) (x5 : Int32) (x8 : Int32) (x9 : Int32) : hb_run hbSH 50 (43, [.ref 50, .int x1, .int x2, .int x3, .int x4, .int x5, .ref 46, .ref 45, .int x8, .int x9, .ref 45], [], σ) = if (x2 < x9) then (if (x3 = 0) then (some (some (.int x4), σ)) else (if (x3 = 1) then (hb_ci (hb_ev hbSH 111 [.int (σ 50 6)] σ) (fun y199 σ199 => some (some (.int y199), σ199))) else (if (x3 = 2) then (some (some (.int (σ 50 7)), σ)) else (if (x3 = 3) then (some (some (.int (σ 50 8)), σ)) else (some (some (.int x5), σ)))))) else (hb_ci (hb_ev hbSH 53 [.ref 50, .ref 46, .int x8, .int x9] σ) (fun y56 σ56 => hb_run hbSH 50 (71, [.ref 50, .int x1, .int x2, .int x3, .int (x4 + y56), .int x5, .ref 46, .ref 45, .int y56, .int x9, .int 0], [], σ56))) := by
  refine (hb_blk [(.iload 9, 2, 9, 0, 0, 0, 0), (.iload_n 2, 1, 2, 0, 0, 0, 0)] (pe := 46) (gs := []) (loc' := [.ref 50, .int x1, .int x2, .int x3, .int x4, .int x5, .ref 46, .ref 45, .int x8, .int x9, .ref 45]) (stk' := [.int x2, .int x9]) (σ' := σ) (by decide +kernel) rfl).trans ?_
  refine hb_br (hb_fe_ok (r := (.if_icmp .gt 113, 3, 159, 0, 0, 0, 0)) (by decide +kernel)) rfl ?_ ?_
  · refine (hb_blk [(.iload_n 3, 1, 3, 0, 0, 0, 0)] (pe := 160) (gs := []) (loc' := [.ref 50, .int x1, .int x2, .int x3, .int x4, .int x5, .ref 46, .ref 45, .int x8, .int x9, .ref 45]) (stk' := [.int x3]) (σ' := σ) (by decide +kernel) rfl).trans ?_
    refine hb_r_sw (hb_fe_ok (r := (.tableswitch 53 0 3 #[32, 35, 43, 48], 32, 0, 0, 0, 0, 0)) (by decide +kernel)) ?_
    refine hb_swc (z := 0) (q := 192) ?_ ?_
    · refine (hb_blk [(.iload 4, 2, 4, 0, 0, 0, 0)] (pe := 194) (gs := []) (loc' := [.ref 50, .int x1, .int x2, .int x3, .int x4, .int x5, .ref 46, .ref 45, .int x8, .int x9, .ref 45]) (stk' := [.int x4]) (σ' := σ) (by decide +kernel) rfl).trans ?_
      exact hb_r_iret (hb_fe_ok (r := (.ireturn, 1, 0, 0, 0, 0, 0)) (by decide +kernel))
    refine hb_swc (z := 1) (q := 195) ?_ ?_
    · refine (hb_blk [(.aload_n 0, 1, 0, 0, 0, 0, 0), (.getfield 65, 3, 8, 6, 0, 0, 0)] (pe := 199) (gs := []) (loc' := [.ref 50, .int x1, .int x2, .int x3, .int x4, .int x5, .ref 46, .ref 45, .int x8, .int x9, .ref 45]) (stk' := [.int (σ 50 6)]) (σ' := σ) (by decide +kernel) rfl).trans ?_
      refine hb_Si (hb_fe_ok (r := (.invokestatic 57, 3, 111, 1, 1, 0, 0)) (by decide +kernel)) (by decide) (by decide +kernel) (as := [.int (σ 50 6)]) (rest := []) rfl (Nat.le_of_ble_eq_true rfl) (fun y199 σ199 => ?_)
      exact hb_r_iret (hb_fe_ok (r := (.ireturn, 1, 0, 0, 0, 0, 0)) (by decide +kernel))
    refine hb_swc (z := 2) (q := 203) ?_ ?_
    · refine (hb_blk [(.aload_n 0, 1, 0, 0, 0, 0, 0), (.getfield 69, 3, 8, 7, 0, 0, 0)] (pe := 207) (gs := []) (loc' := [.ref 50, .int x1, .int x2, .int x3, .int x4, .int x5, .ref 46, .ref 45, .int x8, .int x9, .ref 45]) (stk' := [.int (σ 50 7)]) (σ' := σ) (by decide +kernel) rfl).trans ?_
      exact hb_r_iret (hb_fe_ok (r := (.ireturn, 1, 0, 0, 0, 0, 0)) (by decide +kernel))
    refine hb_swc (z := 3) (q := 208) ?_ ?_
    · refine (hb_blk [(.aload_n 0, 1, 0, 0, 0, 0, 0), (.getfield 73, 3, 8, 8, 0, 0, 0)] (pe := 212) (gs := []) (loc' := [.ref 50, .int x1, .int x2, .int x3, .int x4, .int x5, .ref 46, .ref 45, .int x8, .int x9, .ref 45]) (stk' := [.int (σ 50 8)]) (σ' := σ) (by decide +kernel) rfl).trans ?_
      exact hb_r_iret (hb_fe_ok (r := (.ireturn, 1, 0, 0, 0, 0, 0)) (by decide +kernel))
    refine hb_swd 213 rfl ?_
    refine (hb_blk [(.iload 5, 2, 5, 0, 0, 0, 0)] (pe := 215) (gs := []) (loc' := [.ref 50, .int x1, .int x2, .int x3, .int x4, .int x5, .ref 46, .ref 45, .int x8, .int x9, .ref 45]) (stk' := [.int x5]) (σ' := σ) (by decide +kernel) rfl).trans ?_
    exact hb_r_iret (hb_fe_ok (r := (.ireturn, 1, 0, 0, 0, 0, 0)) (by decide +kernel))
  · refine (hb_blk [(.aload_n 0, 1, 0, 0, 0, 0, 0), (.aload 6, 2, 6, 0, 0, 0, 0), (.iload 8, 2, 8, 0, 0, 0, 0), (.iload 9, 2, 9, 0, 0, 0, 0)] (pe := 56) (gs := []) (loc' := [.ref 50, .int x1, .int x2, .int x3, .int x4, .int x5, .ref 46, .ref 45, .int x8, .int x9, .ref 45]) (stk' := [.int x9, .int x8, .ref 46, .ref 50]) (σ' := σ) (by decide +kernel) rfl).trans ?_
    refine hb_Vi (hb_fe_ok (r := (.invokevirtual 49, 3, 53, 3, 0, 0, 0)) (by decide +kernel)) (by decide +kernel) (as := [.ref 46, .int x8, .int x9]) (v := .ref 50) (rest := []) rfl rfl (Nat.le_of_ble_eq_true rfl) (fun y56 σ56 => ?_)
    refine (hb_blk [(.istore 8, 2, 8, 0, 0, 0, 0), (.iload 4, 2, 4, 0, 0, 0, 0), (.iload 8, 2, 8, 0, 0, 0, 0), (.iadd, 1, 0, 0, 0, 0, 0), (.istore 4, 2, 4, 0, 0, 0, 0), (.iconst 0, 1, 0, 0, 0, 0, 0), (.istore 10, 2, 10, 0, 0, 0, 0)] (pe := 71) (gs := []) (loc' := [.ref 50, .int x1, .int x2, .int x3, .int (x4 + y56), .int x5, .ref 46, .ref 45, .int y56, .int x9, .int 0]) (stk' := []) (σ' := σ56) (by decide +kernel) rfl).trans ?_
    exact rfl
set_option maxRecDepth 8000 in
theorem e50_71_0  (σ : hbM) (x1 : Int32) (x2 : Int32) (x3 : Int32) (x4 : Int32) (x5 : Int32) (x8 : Int32) (x9 : Int32) (x10 : Int32) : hb_run hbSH 50 (71, [.ref 50, .int x1, .int x2, .int x3, .int x4, .int x5, .ref 45, .ref 46, .int x8, .int x9, .int x10], [], σ) = if (x8 ≤ x10) then (if (x2 ≤ x9) then (hb_run hbSH 50 (139, [.ref 50, .int x1, .int x2, .int x3, .int x4, .int x5, .ref 45, .ref 46, .int x8, .int x9, .int x10], [.int 0], σ)) else (hb_ci (hb_ev hbSH 54 [.ref 50, .ref 45, .int x8, .ref 46, .int (x9 + (1 : Int32))] σ) (fun y132 σ132 => hb_run hbSH 50 (139, [.ref 50, .int x1, .int x2, .int x3, .int x4, .int x5, .ref 45, .ref 46, .int x8, .int x9, .int x10], [.int y132], σ132)))) else (if (¬ x3 = (4 : Int32)) then (if (x2 ≤ x9) then (hb_run hbSH 50 (139, [.ref 50, .int x1, .int x2, .int x3, .int x4, .int x5, .ref 45, .ref 46, .int x8, .int x9, .int x10], [.int 0], σ)) else (hb_ci (hb_ev hbSH 54 [.ref 50, .ref 45, .int x8, .ref 46, .int (x9 + (1 : Int32))] σ) (fun y132 σ132 => hb_run hbSH 50 (139, [.ref 50, .int x1, .int x2, .int x3, .int x4, .int x5, .ref 45, .ref 46, .int x8, .int x9, .int x10], [.int y132], σ132)))) else (hb_g [hb_in x10 17408] (hb_ci (hb_ev hbSH 57 [.ref 50, .int (σ 45 (Int32.toNatClampNeg x10))] σ) (fun y91 σ91 => if (¬ y91 = (3 : Int32)) then (hb_run hbSH 50 (103, [.ref 50, .int x1, .int x2, .int x3, .int x4, .int x5, .ref 45, .ref 46, .int x8, .int x9, .int x10], [.int 0, .int x5], σ91)) else (hb_run hbSH 50 (103, [.ref 50, .int x1, .int x2, .int x3, .int x4, .int x5, .ref 45, .ref 46, .int x8, .int x9, .int x10], [.int 1, .int x5], σ91)))))) := by
  refine (hb_blk [(.iload 10, 2, 10, 0, 0, 0, 0), (.iload 8, 2, 8, 0, 0, 0, 0)] (pe := 75) (gs := []) (loc' := [.ref 50, .int x1, .int x2, .int x3, .int x4, .int x5, .ref 45, .ref 46, .int x8, .int x9, .int x10]) (stk' := [.int x8, .int x10]) (σ' := σ) (by decide +kernel) rfl).trans ?_
  refine hb_br (hb_fe_ok (r := (.if_icmp .ge 40, 3, 115, 0, 0, 0, 0)) (by decide +kernel)) rfl ?_ ?_
  · refine (hb_blk [(.iload 9, 2, 9, 0, 0, 0, 0), (.iload_n 2, 1, 2, 0, 0, 0, 0)] (pe := 118) (gs := []) (loc' := [.ref 50, .int x1, .int x2, .int x3, .int x4, .int x5, .ref 45, .ref 46, .int x8, .int x9, .int x10]) (stk' := [.int x2, .int x9]) (σ' := σ) (by decide +kernel) rfl).trans ?_
    refine hb_br (hb_fe_ok (r := (.if_icmp .ge 20, 3, 138, 0, 0, 0, 0)) (by decide +kernel)) rfl ?_ ?_
    · refine (hb_blk [(.iconst 0, 1, 0, 0, 0, 0, 0)] (pe := 139) (gs := []) (loc' := [.ref 50, .int x1, .int x2, .int x3, .int x4, .int x5, .ref 45, .ref 46, .int x8, .int x9, .int x10]) (stk' := [.int 0]) (σ' := σ) (by decide +kernel) rfl).trans ?_
      exact rfl
    · refine (hb_blk [(.aload_n 0, 1, 0, 0, 0, 0, 0), (.aload 6, 2, 6, 0, 0, 0, 0), (.iload 8, 2, 8, 0, 0, 0, 0), (.aload 7, 2, 7, 0, 0, 0, 0), (.iload 9, 2, 9, 0, 0, 0, 0), (.iconst 1, 1, 0, 0, 0, 1, 0), (.iadd, 1, 0, 0, 0, 0, 0)] (pe := 132) (gs := []) (loc' := [.ref 50, .int x1, .int x2, .int x3, .int x4, .int x5, .ref 45, .ref 46, .int x8, .int x9, .int x10]) (stk' := [.int (x9 + (1 : Int32)), .ref 46, .int x8, .ref 45, .ref 50]) (σ' := σ) (by decide +kernel) rfl).trans ?_
      refine hb_Vi (hb_fe_ok (r := (.invokevirtual 61, 3, 54, 4, 0, 0, 0)) (by decide +kernel)) (by decide +kernel) (as := [.ref 45, .int x8, .ref 46, .int (x9 + (1 : Int32))]) (v := .ref 50) (rest := []) rfl rfl (Nat.le_of_ble_eq_true rfl) (fun y132 σ132 => ?_)
      refine (hb_r_goto (hb_fe_ok (r := (.goto 4, 3, 139, 0, 0, 0, 0)) (by decide +kernel))).trans ?_
      exact rfl
  · refine (hb_blk [(.iload_n 3, 1, 3, 0, 0, 0, 0), (.iconst 4, 1, 0, 0, 0, 4, 0)] (pe := 80) (gs := []) (loc' := [.ref 50, .int x1, .int x2, .int x3, .int x4, .int x5, .ref 45, .ref 46, .int x8, .int x9, .int x10]) (stk' := [.int 4, .int x3]) (σ' := σ) (by decide +kernel) rfl).trans ?_
    refine hb_br (hb_fe_ok (r := (.if_icmp .ne 35, 3, 115, 0, 0, 0, 0)) (by decide +kernel)) rfl ?_ ?_
    · refine (hb_blk [(.iload 9, 2, 9, 0, 0, 0, 0), (.iload_n 2, 1, 2, 0, 0, 0, 0)] (pe := 118) (gs := []) (loc' := [.ref 50, .int x1, .int x2, .int x3, .int x4, .int x5, .ref 45, .ref 46, .int x8, .int x9, .int x10]) (stk' := [.int x2, .int x9]) (σ' := σ) (by decide +kernel) rfl).trans ?_
      refine hb_br (hb_fe_ok (r := (.if_icmp .ge 20, 3, 138, 0, 0, 0, 0)) (by decide +kernel)) rfl ?_ ?_
      · refine (hb_blk [(.iconst 0, 1, 0, 0, 0, 0, 0)] (pe := 139) (gs := []) (loc' := [.ref 50, .int x1, .int x2, .int x3, .int x4, .int x5, .ref 45, .ref 46, .int x8, .int x9, .int x10]) (stk' := [.int 0]) (σ' := σ) (by decide +kernel) rfl).trans ?_
        exact rfl
      · refine (hb_blk [(.aload_n 0, 1, 0, 0, 0, 0, 0), (.aload 6, 2, 6, 0, 0, 0, 0), (.iload 8, 2, 8, 0, 0, 0, 0), (.aload 7, 2, 7, 0, 0, 0, 0), (.iload 9, 2, 9, 0, 0, 0, 0), (.iconst 1, 1, 0, 0, 0, 1, 0), (.iadd, 1, 0, 0, 0, 0, 0)] (pe := 132) (gs := []) (loc' := [.ref 50, .int x1, .int x2, .int x3, .int x4, .int x5, .ref 45, .ref 46, .int x8, .int x9, .int x10]) (stk' := [.int (x9 + (1 : Int32)), .ref 46, .int x8, .ref 45, .ref 50]) (σ' := σ) (by decide +kernel) rfl).trans ?_
        refine hb_Vi (hb_fe_ok (r := (.invokevirtual 61, 3, 54, 4, 0, 0, 0)) (by decide +kernel)) (by decide +kernel) (as := [.ref 45, .int x8, .ref 46, .int (x9 + (1 : Int32))]) (v := .ref 50) (rest := []) rfl rfl (Nat.le_of_ble_eq_true rfl) (fun y132 σ132 => ?_)
        refine (hb_r_goto (hb_fe_ok (r := (.goto 4, 3, 139, 0, 0, 0, 0)) (by decide +kernel))).trans ?_
        exact rfl
    · refine (hb_blk [(.iload 5, 2, 5, 0, 0, 0, 0), (.aload_n 0, 1, 0, 0, 0, 0, 0), (.aload 6, 2, 6, 0, 0, 0, 0), (.iload 10, 2, 10, 0, 0, 0, 0), (.iaload, 1, 0, 0, 0, 0, 0)] (pe := 91) (gs := [hb_in x10 17408]) (loc' := [.ref 50, .int x1, .int x2, .int x3, .int x4, .int x5, .ref 45, .ref 46, .int x8, .int x9, .int x10]) (stk' := [.int (σ 45 (Int32.toNatClampNeg x10)), .ref 50, .int x5]) (σ' := σ) (by decide +kernel) rfl).trans ?_
      refine congrArg (hb_g _) ?_
      refine hb_Vi (hb_fe_ok (r := (.invokevirtual 53, 3, 57, 1, 0, 0, 0)) (by decide +kernel)) (by decide +kernel) (as := [.int (σ 45 (Int32.toNatClampNeg x10))]) (v := .ref 50) (rest := [.int x5]) rfl rfl (Nat.le_of_ble_eq_true rfl) (fun y91 σ91 => ?_)
      refine (hb_blk [(.iconst 3, 1, 0, 0, 0, 3, 0)] (pe := 95) (gs := []) (loc' := [.ref 50, .int x1, .int x2, .int x3, .int x4, .int x5, .ref 45, .ref 46, .int x8, .int x9, .int x10]) (stk' := [.int 3, .int y91, .int x5]) (σ' := σ91) (by decide +kernel) rfl).trans ?_
      refine hb_br (hb_fe_ok (r := (.if_icmp .ne 7, 3, 102, 0, 0, 0, 0)) (by decide +kernel)) rfl ?_ ?_
      · refine (hb_blk [(.iconst 0, 1, 0, 0, 0, 0, 0)] (pe := 103) (gs := []) (loc' := [.ref 50, .int x1, .int x2, .int x3, .int x4, .int x5, .ref 45, .ref 46, .int x8, .int x9, .int x10]) (stk' := [.int 0, .int x5]) (σ' := σ91) (by decide +kernel) rfl).trans ?_
        exact rfl
      · refine (hb_blk [(.iconst 1, 1, 0, 0, 0, 1, 0)] (pe := 99) (gs := []) (loc' := [.ref 50, .int x1, .int x2, .int x3, .int x4, .int x5, .ref 45, .ref 46, .int x8, .int x9, .int x10]) (stk' := [.int 1, .int x5]) (σ' := σ91) (by decide +kernel) rfl).trans ?_
        refine (hb_r_goto (hb_fe_ok (r := (.goto 4, 3, 103, 0, 0, 0, 0)) (by decide +kernel))).trans ?_
        exact rfl
set_option maxRecDepth 8000 in
theorem e50_71_1  (σ : hbM) (x1 : Int32) (x2 : Int32) (x3 : Int32) (x4 : Int32) (x5 : Int32) (x8 : Int32) (x9 : Int32) (x10 : Int32) : hb_run hbSH 50 (71, [.ref 50, .int x1, .int x2, .int x3, .int x4, .int x5, .ref 46, .ref 45, .int x8, .int x9, .int x10], [], σ) = if (x8 ≤ x10) then (if (x2 ≤ x9) then (hb_run hbSH 50 (139, [.ref 50, .int x1, .int x2, .int x3, .int x4, .int x5, .ref 46, .ref 45, .int x8, .int x9, .int x10], [.int 0], σ)) else (hb_ci (hb_ev hbSH 54 [.ref 50, .ref 46, .int x8, .ref 45, .int (x9 + (1 : Int32))] σ) (fun y132 σ132 => hb_run hbSH 50 (139, [.ref 50, .int x1, .int x2, .int x3, .int x4, .int x5, .ref 46, .ref 45, .int x8, .int x9, .int x10], [.int y132], σ132)))) else (if (¬ x3 = (4 : Int32)) then (if (x2 ≤ x9) then (hb_run hbSH 50 (139, [.ref 50, .int x1, .int x2, .int x3, .int x4, .int x5, .ref 46, .ref 45, .int x8, .int x9, .int x10], [.int 0], σ)) else (hb_ci (hb_ev hbSH 54 [.ref 50, .ref 46, .int x8, .ref 45, .int (x9 + (1 : Int32))] σ) (fun y132 σ132 => hb_run hbSH 50 (139, [.ref 50, .int x1, .int x2, .int x3, .int x4, .int x5, .ref 46, .ref 45, .int x8, .int x9, .int x10], [.int y132], σ132)))) else (hb_g [hb_in x10 17408] (hb_ci (hb_ev hbSH 57 [.ref 50, .int (σ 46 (Int32.toNatClampNeg x10))] σ) (fun y91 σ91 => if (¬ y91 = (3 : Int32)) then (hb_run hbSH 50 (103, [.ref 50, .int x1, .int x2, .int x3, .int x4, .int x5, .ref 46, .ref 45, .int x8, .int x9, .int x10], [.int 0, .int x5], σ91)) else (hb_run hbSH 50 (103, [.ref 50, .int x1, .int x2, .int x3, .int x4, .int x5, .ref 46, .ref 45, .int x8, .int x9, .int x10], [.int 1, .int x5], σ91)))))) := by
  refine (hb_blk [(.iload 10, 2, 10, 0, 0, 0, 0), (.iload 8, 2, 8, 0, 0, 0, 0)] (pe := 75) (gs := []) (loc' := [.ref 50, .int x1, .int x2, .int x3, .int x4, .int x5, .ref 46, .ref 45, .int x8, .int x9, .int x10]) (stk' := [.int x8, .int x10]) (σ' := σ) (by decide +kernel) rfl).trans ?_
  refine hb_br (hb_fe_ok (r := (.if_icmp .ge 40, 3, 115, 0, 0, 0, 0)) (by decide +kernel)) rfl ?_ ?_
  · refine (hb_blk [(.iload 9, 2, 9, 0, 0, 0, 0), (.iload_n 2, 1, 2, 0, 0, 0, 0)] (pe := 118) (gs := []) (loc' := [.ref 50, .int x1, .int x2, .int x3, .int x4, .int x5, .ref 46, .ref 45, .int x8, .int x9, .int x10]) (stk' := [.int x2, .int x9]) (σ' := σ) (by decide +kernel) rfl).trans ?_
    refine hb_br (hb_fe_ok (r := (.if_icmp .ge 20, 3, 138, 0, 0, 0, 0)) (by decide +kernel)) rfl ?_ ?_
    · refine (hb_blk [(.iconst 0, 1, 0, 0, 0, 0, 0)] (pe := 139) (gs := []) (loc' := [.ref 50, .int x1, .int x2, .int x3, .int x4, .int x5, .ref 46, .ref 45, .int x8, .int x9, .int x10]) (stk' := [.int 0]) (σ' := σ) (by decide +kernel) rfl).trans ?_
      exact rfl
    · refine (hb_blk [(.aload_n 0, 1, 0, 0, 0, 0, 0), (.aload 6, 2, 6, 0, 0, 0, 0), (.iload 8, 2, 8, 0, 0, 0, 0), (.aload 7, 2, 7, 0, 0, 0, 0), (.iload 9, 2, 9, 0, 0, 0, 0), (.iconst 1, 1, 0, 0, 0, 1, 0), (.iadd, 1, 0, 0, 0, 0, 0)] (pe := 132) (gs := []) (loc' := [.ref 50, .int x1, .int x2, .int x3, .int x4, .int x5, .ref 46, .ref 45, .int x8, .int x9, .int x10]) (stk' := [.int (x9 + (1 : Int32)), .ref 45, .int x8, .ref 46, .ref 50]) (σ' := σ) (by decide +kernel) rfl).trans ?_
      refine hb_Vi (hb_fe_ok (r := (.invokevirtual 61, 3, 54, 4, 0, 0, 0)) (by decide +kernel)) (by decide +kernel) (as := [.ref 46, .int x8, .ref 45, .int (x9 + (1 : Int32))]) (v := .ref 50) (rest := []) rfl rfl (Nat.le_of_ble_eq_true rfl) (fun y132 σ132 => ?_)
      refine (hb_r_goto (hb_fe_ok (r := (.goto 4, 3, 139, 0, 0, 0, 0)) (by decide +kernel))).trans ?_
      exact rfl
  · refine (hb_blk [(.iload_n 3, 1, 3, 0, 0, 0, 0), (.iconst 4, 1, 0, 0, 0, 4, 0)] (pe := 80) (gs := []) (loc' := [.ref 50, .int x1, .int x2, .int x3, .int x4, .int x5, .ref 46, .ref 45, .int x8, .int x9, .int x10]) (stk' := [.int 4, .int x3]) (σ' := σ) (by decide +kernel) rfl).trans ?_
    refine hb_br (hb_fe_ok (r := (.if_icmp .ne 35, 3, 115, 0, 0, 0, 0)) (by decide +kernel)) rfl ?_ ?_
    · refine (hb_blk [(.iload 9, 2, 9, 0, 0, 0, 0), (.iload_n 2, 1, 2, 0, 0, 0, 0)] (pe := 118) (gs := []) (loc' := [.ref 50, .int x1, .int x2, .int x3, .int x4, .int x5, .ref 46, .ref 45, .int x8, .int x9, .int x10]) (stk' := [.int x2, .int x9]) (σ' := σ) (by decide +kernel) rfl).trans ?_
      refine hb_br (hb_fe_ok (r := (.if_icmp .ge 20, 3, 138, 0, 0, 0, 0)) (by decide +kernel)) rfl ?_ ?_
      · refine (hb_blk [(.iconst 0, 1, 0, 0, 0, 0, 0)] (pe := 139) (gs := []) (loc' := [.ref 50, .int x1, .int x2, .int x3, .int x4, .int x5, .ref 46, .ref 45, .int x8, .int x9, .int x10]) (stk' := [.int 0]) (σ' := σ) (by decide +kernel) rfl).trans ?_
        exact rfl
      · refine (hb_blk [(.aload_n 0, 1, 0, 0, 0, 0, 0), (.aload 6, 2, 6, 0, 0, 0, 0), (.iload 8, 2, 8, 0, 0, 0, 0), (.aload 7, 2, 7, 0, 0, 0, 0), (.iload 9, 2, 9, 0, 0, 0, 0), (.iconst 1, 1, 0, 0, 0, 1, 0), (.iadd, 1, 0, 0, 0, 0, 0)] (pe := 132) (gs := []) (loc' := [.ref 50, .int x1, .int x2, .int x3, .int x4, .int x5, .ref 46, .ref 45, .int x8, .int x9, .int x10]) (stk' := [.int (x9 + (1 : Int32)), .ref 45, .int x8, .ref 46, .ref 50]) (σ' := σ) (by decide +kernel) rfl).trans ?_
        refine hb_Vi (hb_fe_ok (r := (.invokevirtual 61, 3, 54, 4, 0, 0, 0)) (by decide +kernel)) (by decide +kernel) (as := [.ref 46, .int x8, .ref 45, .int (x9 + (1 : Int32))]) (v := .ref 50) (rest := []) rfl rfl (Nat.le_of_ble_eq_true rfl) (fun y132 σ132 => ?_)
        refine (hb_r_goto (hb_fe_ok (r := (.goto 4, 3, 139, 0, 0, 0, 0)) (by decide +kernel))).trans ?_
        exact rfl
    · refine (hb_blk [(.iload 5, 2, 5, 0, 0, 0, 0), (.aload_n 0, 1, 0, 0, 0, 0, 0), (.aload 6, 2, 6, 0, 0, 0, 0), (.iload 10, 2, 10, 0, 0, 0, 0), (.iaload, 1, 0, 0, 0, 0, 0)] (pe := 91) (gs := [hb_in x10 17408]) (loc' := [.ref 50, .int x1, .int x2, .int x3, .int x4, .int x5, .ref 46, .ref 45, .int x8, .int x9, .int x10]) (stk' := [.int (σ 46 (Int32.toNatClampNeg x10)), .ref 50, .int x5]) (σ' := σ) (by decide +kernel) rfl).trans ?_
      refine congrArg (hb_g _) ?_
      refine hb_Vi (hb_fe_ok (r := (.invokevirtual 53, 3, 57, 1, 0, 0, 0)) (by decide +kernel)) (by decide +kernel) (as := [.int (σ 46 (Int32.toNatClampNeg x10))]) (v := .ref 50) (rest := [.int x5]) rfl rfl (Nat.le_of_ble_eq_true rfl) (fun y91 σ91 => ?_)
      refine (hb_blk [(.iconst 3, 1, 0, 0, 0, 3, 0)] (pe := 95) (gs := []) (loc' := [.ref 50, .int x1, .int x2, .int x3, .int x4, .int x5, .ref 46, .ref 45, .int x8, .int x9, .int x10]) (stk' := [.int 3, .int y91, .int x5]) (σ' := σ91) (by decide +kernel) rfl).trans ?_
      refine hb_br (hb_fe_ok (r := (.if_icmp .ne 7, 3, 102, 0, 0, 0, 0)) (by decide +kernel)) rfl ?_ ?_
      · refine (hb_blk [(.iconst 0, 1, 0, 0, 0, 0, 0)] (pe := 103) (gs := []) (loc' := [.ref 50, .int x1, .int x2, .int x3, .int x4, .int x5, .ref 46, .ref 45, .int x8, .int x9, .int x10]) (stk' := [.int 0, .int x5]) (σ' := σ91) (by decide +kernel) rfl).trans ?_
        exact rfl
      · refine (hb_blk [(.iconst 1, 1, 0, 0, 0, 1, 0)] (pe := 99) (gs := []) (loc' := [.ref 50, .int x1, .int x2, .int x3, .int x4, .int x5, .ref 46, .ref 45, .int x8, .int x9, .int x10]) (stk' := [.int 1, .int x5]) (σ' := σ91) (by decide +kernel) rfl).trans ?_
        refine (hb_r_goto (hb_fe_ok (r := (.goto 4, 3, 103, 0, 0, 0, 0)) (by decide +kernel))).trans ?_
        exact rfl
set_option maxRecDepth 8000 in
theorem e50_103_0  (σ : hbM) (x1 : Int32) (x2 : Int32) (x3 : Int32) (x4 : Int32) (x5 : Int32) (x8 : Int32) (x9 : Int32) (x10 : Int32) (s0 : Int32) (s1 : Int32) : hb_run hbSH 50 (103, [.ref 50, .int x1, .int x2, .int x3, .int x4, .int x5, .ref 45, .ref 46, .int x8, .int x9, .int x10], [.int s0, .int s1], σ) = hb_ci (hb_ev hbSH 111 [.int s0] σ) (fun y103 σ103 => hb_run hbSH 50 (71, [.ref 50, .int x1, .int x2, .int x3, .int x4, .int (s1 + y103), .ref 45, .ref 46, .int x8, .int x9, .int (x10 + (1 : Int32))], [], σ103)) := by
  refine hb_Si (hb_fe_ok (r := (.invokestatic 57, 3, 111, 1, 1, 0, 0)) (by decide +kernel)) (by decide) (by decide +kernel) (as := [.int s0]) (rest := [.int s1]) rfl (Nat.le_of_ble_eq_true rfl) (fun y103 σ103 => ?_)
  refine (hb_blk [(.iadd, 1, 0, 0, 0, 0, 0), (.istore 5, 2, 5, 0, 0, 0, 0), (.iinc 10 1, 3, 10, 0, 0, 1, 0)] (pe := 112) (gs := []) (loc' := [.ref 50, .int x1, .int x2, .int x3, .int x4, .int (s1 + y103), .ref 45, .ref 46, .int x8, .int x9, .int (x10 + (1 : Int32))]) (stk' := []) (σ' := σ103) (by decide +kernel) rfl).trans ?_
  refine (hb_r_goto (hb_fe_ok (r := (.goto (-41), 3, 71, 0, 0, 0, 0)) (by decide +kernel))).trans ?_
  exact rfl
set_option maxRecDepth 8000 in
theorem e50_103_1  (σ : hbM) (x1 : Int32) (x2 : Int32) (x3 : Int32) (x4 : Int32) (x5 : Int32) (x8 : Int32) (x9 : Int32) (x10 : Int32) (s0 : Int32) (s1 : Int32) : hb_run hbSH 50 (103, [.ref 50, .int x1, .int x2, .int x3, .int x4, .int x5, .ref 46, .ref 45, .int x8, .int x9, .int x10], [.int s0, .int s1], σ) = hb_ci (hb_ev hbSH 111 [.int s0] σ) (fun y103 σ103 => hb_run hbSH 50 (71, [.ref 50, .int x1, .int x2, .int x3, .int x4, .int (s1 + y103), .ref 46, .ref 45, .int x8, .int x9, .int (x10 + (1 : Int32))], [], σ103)) := by
  refine hb_Si (hb_fe_ok (r := (.invokestatic 57, 3, 111, 1, 1, 0, 0)) (by decide +kernel)) (by decide) (by decide +kernel) (as := [.int s0]) (rest := [.int s1]) rfl (Nat.le_of_ble_eq_true rfl) (fun y103 σ103 => ?_)
  refine (hb_blk [(.iadd, 1, 0, 0, 0, 0, 0), (.istore 5, 2, 5, 0, 0, 0, 0), (.iinc 10 1, 3, 10, 0, 0, 1, 0)] (pe := 112) (gs := []) (loc' := [.ref 50, .int x1, .int x2, .int x3, .int x4, .int (s1 + y103), .ref 46, .ref 45, .int x8, .int x9, .int (x10 + (1 : Int32))]) (stk' := []) (σ' := σ103) (by decide +kernel) rfl).trans ?_
  refine (hb_r_goto (hb_fe_ok (r := (.goto (-41), 3, 71, 0, 0, 0, 0)) (by decide +kernel))).trans ?_
  exact rfl
set_option maxRecDepth 8000 in
theorem e50_139_0  (σ : hbM) (x1 : Int32) (x2 : Int32) (x3 : Int32) (x4 : Int32) (x5 : Int32) (x8 : Int32) (x9 : Int32) (x10 : Int32) (s0 : Int32) : hb_run hbSH 50 (139, [.ref 50, .int x1, .int x2, .int x3, .int x4, .int x5, .ref 45, .ref 46, .int x8, .int x9, .int x10], [.int s0], σ) = hb_run hbSH 50 (43, [.ref 50, .int x1, .int x2, .int x3, .int x4, .int x5, .ref 46, .ref 45, .int s0, .int (x9 + (1 : Int32)), .ref 45], [], σ) := by
  refine (hb_blk [(.istore 8, 2, 8, 0, 0, 0, 0), (.aload 6, 2, 6, 0, 0, 0, 0), (.astore 10, 2, 10, 0, 0, 0, 0), (.aload 7, 2, 7, 0, 0, 0, 0), (.astore 6, 2, 6, 0, 0, 0, 0), (.aload 10, 2, 10, 0, 0, 0, 0), (.astore 7, 2, 7, 0, 0, 0, 0), (.iinc 9 1, 3, 9, 0, 0, 1, 0)] (pe := 156) (gs := []) (loc' := [.ref 50, .int x1, .int x2, .int x3, .int x4, .int x5, .ref 46, .ref 45, .int s0, .int (x9 + (1 : Int32)), .ref 45]) (stk' := []) (σ' := σ) (by decide +kernel) rfl).trans ?_
  refine (hb_r_goto (hb_fe_ok (r := (.goto (-113), 3, 43, 0, 0, 0, 0)) (by decide +kernel))).trans ?_
  exact rfl
set_option maxRecDepth 8000 in
theorem e50_139_1  (σ : hbM) (x1 : Int32) (x2 : Int32) (x3 : Int32) (x4 : Int32) (x5 : Int32) (x8 : Int32) (x9 : Int32) (x10 : Int32) (s0 : Int32) : hb_run hbSH 50 (139, [.ref 50, .int x1, .int x2, .int x3, .int x4, .int x5, .ref 46, .ref 45, .int x8, .int x9, .int x10], [.int s0], σ) = hb_run hbSH 50 (43, [.ref 50, .int x1, .int x2, .int x3, .int x4, .int x5, .ref 45, .ref 46, .int s0, .int (x9 + (1 : Int32)), .ref 46], [], σ) := by
  refine (hb_blk [(.istore 8, 2, 8, 0, 0, 0, 0), (.aload 6, 2, 6, 0, 0, 0, 0), (.astore 10, 2, 10, 0, 0, 0, 0), (.aload 7, 2, 7, 0, 0, 0, 0), (.astore 6, 2, 6, 0, 0, 0, 0), (.aload 10, 2, 10, 0, 0, 0, 0), (.astore 7, 2, 7, 0, 0, 0, 0), (.iinc 9 1, 3, 9, 0, 0, 1, 0)] (pe := 156) (gs := []) (loc' := [.ref 50, .int x1, .int x2, .int x3, .int x4, .int x5, .ref 45, .ref 46, .int s0, .int (x9 + (1 : Int32)), .ref 46]) (stk' := []) (σ' := σ) (by decide +kernel) rfl).trans ?_
  refine (hb_r_goto (hb_fe_ok (r := (.goto (-113), 3, 43, 0, 0, 0, 0)) (by decide +kernel))).trans ?_
  exact rfl
set_option maxRecDepth 8000 in
theorem e51_0  (σ : hbM) (x1 : Int32) : hb_run hbSH 51 (0, [.ref 50, .int x1], [], σ) = hb_cv (hb_ev hbSH 27 [.ref 44] σ) (fun σ4 => if (¬ x1 = (1 : Int32)) then (hb_run hbSH 51 (18, [.ref 50, .int x1], [.int 0, .ref 50], σ4)) else (hb_run hbSH 51 (18, [.ref 50, .int x1], [.int 1, .ref 50], σ4))) := by
  refine (hb_blk [(.aload_n 0, 1, 0, 0, 0, 0, 0), (.getfield 29, 3, 8, 2, 0, 0, 0)] (pe := 4) (gs := []) (loc' := [.ref 50, .int x1]) (stk' := [.ref 44]) (σ' := σ) (by decide +kernel) rfl).trans ?_
  refine hb_Vv (hb_fe_ok (r := (.invokevirtual 76, 3, 27, 0, 0, 0, 0)) (by decide +kernel)) (by decide +kernel) (as := []) (v := .ref 44) (rest := []) rfl rfl (Nat.le_of_ble_eq_true rfl) (fun σ4 => ?_)
  refine (hb_blk [(.aload_n 0, 1, 0, 0, 0, 0, 0), (.iload_n 1, 1, 1, 0, 0, 0, 0), (.iconst 1, 1, 0, 0, 0, 1, 0)] (pe := 10) (gs := []) (loc' := [.ref 50, .int x1]) (stk' := [.int 1, .int x1, .ref 50]) (σ' := σ4) (by decide +kernel) rfl).trans ?_
  refine hb_br (hb_fe_ok (r := (.if_icmp .ne 7, 3, 17, 0, 0, 0, 0)) (by decide +kernel)) rfl ?_ ?_
  · refine (hb_blk [(.iconst 0, 1, 0, 0, 0, 0, 0)] (pe := 18) (gs := []) (loc' := [.ref 50, .int x1]) (stk' := [.int 0, .ref 50]) (σ' := σ4) (by decide +kernel) rfl).trans ?_
    exact rfl
  · refine (hb_blk [(.iconst 1, 1, 0, 0, 0, 1, 0)] (pe := 14) (gs := []) (loc' := [.ref 50, .int x1]) (stk' := [.int 1, .ref 50]) (σ' := σ4) (by decide +kernel) rfl).trans ?_
    refine (hb_r_goto (hb_fe_ok (r := (.goto 4, 3, 18, 0, 0, 0, 0)) (by decide +kernel))).trans ?_
    exact rfl
set_option maxRecDepth 8000 in
theorem e51_18  (σ : hbM) (x1 : Int32) (s0 : Int32) : hb_run hbSH 51 (18, [.ref 50, .int x1], [.int s0, .ref 50], σ) = hb_g [hb_01 s0, hb_01 0] (some (none, (hb_up (hb_up (hb_up (hb_up σ 50 5 s0) 50 6 0) 50 7 0) 50 8 0))) := by
  refine (hb_blk [(.putfield 78, 3, 8, 5, 1, 0, 0), (.aload_n 0, 1, 0, 0, 0, 0, 0), (.iconst 0, 1, 0, 0, 0, 0, 0), (.putfield 65, 3, 8, 6, 1, 0, 0), (.aload_n 0, 1, 0, 0, 0, 0, 0), (.iconst 0, 1, 0, 0, 0, 0, 0), (.putfield 69, 3, 8, 7, 0, 0, 0), (.aload_n 0, 1, 0, 0, 0, 0, 0), (.iconst 0, 1, 0, 0, 0, 0, 0), (.putfield 73, 3, 8, 8, 0, 0, 0)] (pe := 36) (gs := [hb_01 s0, hb_01 0]) (loc' := [.ref 50, .int x1]) (stk' := []) (σ' := (hb_up (hb_up (hb_up (hb_up σ 50 5 s0) 50 6 0) 50 7 0) 50 8 0)) (by decide +kernel) rfl).trans ?_
  refine congrArg (hb_g _) ?_
  exact hb_r_vret (hb_fe_ok (r := (.return_, 1, 0, 0, 0, 0, 0)) (by decide +kernel))
set_option maxRecDepth 8000 in
theorem e52_0a  (σ : hbM) (x2 : Int32) (x3 : Int32) (x4 : Int32) : hb_run hbSH 52 (0, [.ref 50, .ref 45, .int x2, .int x3, .int x4], [], σ) = if (x3 = (-1000000 : Int32)) then (some (some (.int x2), σ)) else (if ((17408 : Int32) ≤ x2) then (some (some (.int x2), σ)) else (hb_ci (hb_ev hbSH 28 [.ref 44, .int x3, .int x4] σ) (fun y20 σ20 => if (¬ y20 = (0 : Int32)) then (if (¬ (σ20 50 6) = (0 : Int32)) then (hb_run hbSH 52 (57, [.ref 50, .ref 45, .int x2, .int x3, .int x4], [.int 1, .ref 50], σ20)) else (hb_g [decide (¬ (1024 : Int32) = 0), hb_in (x3 - x3 / (1024 : Int32) * (1024 : Int32)) 1024] (if ((σ20 11 (Int32.toNatClampNeg (x3 - x3 / (1024 : Int32) * (1024 : Int32)))) = (0 : Int32)) then (hb_run hbSH 52 (57, [.ref 50, .ref 45, .int x2, .int x3, .int x4], [.int 0, .ref 50], σ20)) else (hb_run hbSH 52 (57, [.ref 50, .ref 45, .int x2, .int x3, .int x4], [.int 1, .ref 50], σ20))))) else (some (some (.int x2), σ20))))) := by
  refine (hb_blk [(.iload_n 3, 1, 3, 0, 0, 0, 0), (.ldc 81, 2, 0, 0, 0, (-1000000), 0)] (pe := 3) (gs := []) (loc' := [.ref 50, .ref 45, .int x2, .int x3, .int x4]) (stk' := [.int (-1000000), .int x3]) (σ' := σ) (by decide +kernel) rfl).trans ?_
  refine hb_br (hb_fe_ok (r := (.if_icmp .eq 23, 3, 26, 0, 0, 0, 0)) (by decide +kernel)) rfl ?_ ?_
  · refine (hb_blk [(.iload_n 2, 1, 2, 0, 0, 0, 0)] (pe := 27) (gs := []) (loc' := [.ref 50, .ref 45, .int x2, .int x3, .int x4]) (stk' := [.int x2]) (σ' := σ) (by decide +kernel) rfl).trans ?_
    exact hb_r_iret (hb_fe_ok (r := (.ireturn, 1, 0, 0, 0, 0, 0)) (by decide +kernel))
  · refine (hb_blk [(.iload_n 2, 1, 2, 0, 0, 0, 0), (.sipush 17408, 3, 0, 0, 0, 17408, 0)] (pe := 10) (gs := []) (loc' := [.ref 50, .ref 45, .int x2, .int x3, .int x4]) (stk' := [.int 17408, .int x2]) (σ' := σ) (by decide +kernel) rfl).trans ?_
    refine hb_br (hb_fe_ok (r := (.if_icmp .ge 16, 3, 26, 0, 0, 0, 0)) (by decide +kernel)) rfl ?_ ?_
    · refine (hb_blk [(.iload_n 2, 1, 2, 0, 0, 0, 0)] (pe := 27) (gs := []) (loc' := [.ref 50, .ref 45, .int x2, .int x3, .int x4]) (stk' := [.int x2]) (σ' := σ) (by decide +kernel) rfl).trans ?_
      exact hb_r_iret (hb_fe_ok (r := (.ireturn, 1, 0, 0, 0, 0, 0)) (by decide +kernel))
    · refine (hb_blk [(.aload_n 0, 1, 0, 0, 0, 0, 0), (.getfield 29, 3, 8, 2, 0, 0, 0), (.iload_n 3, 1, 3, 0, 0, 0, 0), (.iload 4, 2, 4, 0, 0, 0, 0)] (pe := 20) (gs := []) (loc' := [.ref 50, .ref 45, .int x2, .int x3, .int x4]) (stk' := [.int x4, .int x3, .ref 44]) (σ' := σ) (by decide +kernel) rfl).trans ?_
      refine hb_Vi (hb_fe_ok (r := (.invokevirtual 82, 3, 28, 2, 0, 0, 0)) (by decide +kernel)) (by decide +kernel) (as := [.int x3, .int x4]) (v := .ref 44) (rest := []) rfl rfl (Nat.le_of_ble_eq_true rfl) (fun y20 σ20 => ?_)
      refine hb_br0 (hb_fe_ok (r := (.ifCond .ne 5, 3, 28, 0, 0, 0, 0)) (by decide +kernel)) rfl ?_ ?_
      · refine (hb_blk [(.aload_n 0, 1, 0, 0, 0, 0, 0), (.aload_n 0, 1, 0, 0, 0, 0, 0), (.getfield 65, 3, 8, 6, 0, 0, 0)] (pe := 33) (gs := []) (loc' := [.ref 50, .ref 45, .int x2, .int x3, .int x4]) (stk' := [.int (σ20 50 6), .ref 50]) (σ' := σ20) (by decide +kernel) rfl).trans ?_
        refine hb_br0 (hb_fe_ok (r := (.ifCond .ne 19, 3, 52, 0, 0, 0, 0)) (by decide +kernel)) rfl ?_ ?_
        · refine (hb_blk [(.iconst 1, 1, 0, 0, 0, 1, 0)] (pe := 53) (gs := []) (loc' := [.ref 50, .ref 45, .int x2, .int x3, .int x4]) (stk' := [.int 1, .ref 50]) (σ' := σ20) (by decide +kernel) rfl).trans ?_
          refine (hb_r_goto (hb_fe_ok (r := (.goto 4, 3, 57, 0, 0, 0, 0)) (by decide +kernel))).trans ?_
          exact rfl
        · refine (hb_blk [(.aload_n 0, 1, 0, 0, 0, 0, 0), (.getfield 28, 3, 8, 1, 0, 0, 0), (.getfield 86, 3, 10, 6, 0, 0, 0), (.iload_n 3, 1, 3, 0, 0, 0, 0), (.sipush 1024, 3, 0, 0, 0, 1024, 0), (.irem, 1, 0, 0, 0, 0, 0), (.baload, 1, 0, 0, 0, 0, 0)] (pe := 49) (gs := [decide (¬ (1024 : Int32) = 0), hb_in (x3 - x3 / (1024 : Int32) * (1024 : Int32)) 1024]) (loc' := [.ref 50, .ref 45, .int x2, .int x3, .int x4]) (stk' := [.int (σ20 11 (Int32.toNatClampNeg (x3 - x3 / (1024 : Int32) * (1024 : Int32)))), .ref 50]) (σ' := σ20) (by decide +kernel) rfl).trans ?_
          refine congrArg (hb_g _) ?_
          refine hb_br0 (hb_fe_ok (r := (.ifCond .eq 7, 3, 56, 0, 0, 0, 0)) (by decide +kernel)) rfl ?_ ?_
          · refine (hb_blk [(.iconst 0, 1, 0, 0, 0, 0, 0)] (pe := 57) (gs := []) (loc' := [.ref 50, .ref 45, .int x2, .int x3, .int x4]) (stk' := [.int 0, .ref 50]) (σ' := σ20) (by decide +kernel) rfl).trans ?_
            exact rfl
          · refine (hb_blk [(.iconst 1, 1, 0, 0, 0, 1, 0)] (pe := 53) (gs := []) (loc' := [.ref 50, .ref 45, .int x2, .int x3, .int x4]) (stk' := [.int 1, .ref 50]) (σ' := σ20) (by decide +kernel) rfl).trans ?_
            refine (hb_r_goto (hb_fe_ok (r := (.goto 4, 3, 57, 0, 0, 0, 0)) (by decide +kernel))).trans ?_
            exact rfl
      · refine (hb_blk [(.iload_n 2, 1, 2, 0, 0, 0, 0)] (pe := 27) (gs := []) (loc' := [.ref 50, .ref 45, .int x2, .int x3, .int x4]) (stk' := [.int x2]) (σ' := σ20) (by decide +kernel) rfl).trans ?_
        exact hb_r_iret (hb_fe_ok (r := (.ireturn, 1, 0, 0, 0, 0, 0)) (by decide +kernel))
set_option maxRecDepth 8000 in
theorem e52_57a  (σ : hbM) (x2 : Int32) (x3 : Int32) (x4 : Int32) (s0 : Int32) : hb_run hbSH 52 (57, [.ref 50, .ref 45, .int x2, .int x3, .int x4], [.int s0, .ref 50], σ) = hb_g [hb_01 s0, hb_in x2 17408] (some (some (.int (x2 + (1 : Int32))), (hb_up (hb_up σ 50 6 s0) 45 (Int32.toNatClampNeg x2) x3))) := by
  refine (hb_blk [(.putfield 65, 3, 8, 6, 1, 0, 0), (.aload_n 1, 1, 1, 0, 0, 0, 0), (.iload_n 2, 1, 2, 0, 0, 0, 0), (.iload_n 3, 1, 3, 0, 0, 0, 0), (.iastore, 1, 0, 0, 0, 0, 0), (.iload_n 2, 1, 2, 0, 0, 0, 0), (.iconst 1, 1, 0, 0, 0, 1, 0), (.iadd, 1, 0, 0, 0, 0, 0)] (pe := 67) (gs := [hb_01 s0, hb_in x2 17408]) (loc' := [.ref 50, .ref 45, .int x2, .int x3, .int x4]) (stk' := [.int (x2 + (1 : Int32))]) (σ' := (hb_up (hb_up σ 50 6 s0) 45 (Int32.toNatClampNeg x2) x3)) (by decide +kernel) rfl).trans ?_
  refine congrArg (hb_g _) ?_
  exact hb_r_iret (hb_fe_ok (r := (.ireturn, 1, 0, 0, 0, 0, 0)) (by decide +kernel))
set_option maxRecDepth 8000 in
theorem e52_0b  (σ : hbM) (x2 : Int32) (x3 : Int32) (x4 : Int32) : hb_run hbSH 52 (0, [.ref 50, .ref 46, .int x2, .int x3, .int x4], [], σ) = if (x3 = (-1000000 : Int32)) then (some (some (.int x2), σ)) else (if ((17408 : Int32) ≤ x2) then (some (some (.int x2), σ)) else (hb_ci (hb_ev hbSH 28 [.ref 44, .int x3, .int x4] σ) (fun y20 σ20 => if (¬ y20 = (0 : Int32)) then (if (¬ (σ20 50 6) = (0 : Int32)) then (hb_run hbSH 52 (57, [.ref 50, .ref 46, .int x2, .int x3, .int x4], [.int 1, .ref 50], σ20)) else (hb_g [decide (¬ (1024 : Int32) = 0), hb_in (x3 - x3 / (1024 : Int32) * (1024 : Int32)) 1024] (if ((σ20 11 (Int32.toNatClampNeg (x3 - x3 / (1024 : Int32) * (1024 : Int32)))) = (0 : Int32)) then (hb_run hbSH 52 (57, [.ref 50, .ref 46, .int x2, .int x3, .int x4], [.int 0, .ref 50], σ20)) else (hb_run hbSH 52 (57, [.ref 50, .ref 46, .int x2, .int x3, .int x4], [.int 1, .ref 50], σ20))))) else (some (some (.int x2), σ20))))) := by
  refine (hb_blk [(.iload_n 3, 1, 3, 0, 0, 0, 0), (.ldc 81, 2, 0, 0, 0, (-1000000), 0)] (pe := 3) (gs := []) (loc' := [.ref 50, .ref 46, .int x2, .int x3, .int x4]) (stk' := [.int (-1000000), .int x3]) (σ' := σ) (by decide +kernel) rfl).trans ?_
  refine hb_br (hb_fe_ok (r := (.if_icmp .eq 23, 3, 26, 0, 0, 0, 0)) (by decide +kernel)) rfl ?_ ?_
  · refine (hb_blk [(.iload_n 2, 1, 2, 0, 0, 0, 0)] (pe := 27) (gs := []) (loc' := [.ref 50, .ref 46, .int x2, .int x3, .int x4]) (stk' := [.int x2]) (σ' := σ) (by decide +kernel) rfl).trans ?_
    exact hb_r_iret (hb_fe_ok (r := (.ireturn, 1, 0, 0, 0, 0, 0)) (by decide +kernel))
  · refine (hb_blk [(.iload_n 2, 1, 2, 0, 0, 0, 0), (.sipush 17408, 3, 0, 0, 0, 17408, 0)] (pe := 10) (gs := []) (loc' := [.ref 50, .ref 46, .int x2, .int x3, .int x4]) (stk' := [.int 17408, .int x2]) (σ' := σ) (by decide +kernel) rfl).trans ?_
    refine hb_br (hb_fe_ok (r := (.if_icmp .ge 16, 3, 26, 0, 0, 0, 0)) (by decide +kernel)) rfl ?_ ?_
    · refine (hb_blk [(.iload_n 2, 1, 2, 0, 0, 0, 0)] (pe := 27) (gs := []) (loc' := [.ref 50, .ref 46, .int x2, .int x3, .int x4]) (stk' := [.int x2]) (σ' := σ) (by decide +kernel) rfl).trans ?_
      exact hb_r_iret (hb_fe_ok (r := (.ireturn, 1, 0, 0, 0, 0, 0)) (by decide +kernel))
    · refine (hb_blk [(.aload_n 0, 1, 0, 0, 0, 0, 0), (.getfield 29, 3, 8, 2, 0, 0, 0), (.iload_n 3, 1, 3, 0, 0, 0, 0), (.iload 4, 2, 4, 0, 0, 0, 0)] (pe := 20) (gs := []) (loc' := [.ref 50, .ref 46, .int x2, .int x3, .int x4]) (stk' := [.int x4, .int x3, .ref 44]) (σ' := σ) (by decide +kernel) rfl).trans ?_
      refine hb_Vi (hb_fe_ok (r := (.invokevirtual 82, 3, 28, 2, 0, 0, 0)) (by decide +kernel)) (by decide +kernel) (as := [.int x3, .int x4]) (v := .ref 44) (rest := []) rfl rfl (Nat.le_of_ble_eq_true rfl) (fun y20 σ20 => ?_)
      refine hb_br0 (hb_fe_ok (r := (.ifCond .ne 5, 3, 28, 0, 0, 0, 0)) (by decide +kernel)) rfl ?_ ?_
      · refine (hb_blk [(.aload_n 0, 1, 0, 0, 0, 0, 0), (.aload_n 0, 1, 0, 0, 0, 0, 0), (.getfield 65, 3, 8, 6, 0, 0, 0)] (pe := 33) (gs := []) (loc' := [.ref 50, .ref 46, .int x2, .int x3, .int x4]) (stk' := [.int (σ20 50 6), .ref 50]) (σ' := σ20) (by decide +kernel) rfl).trans ?_
        refine hb_br0 (hb_fe_ok (r := (.ifCond .ne 19, 3, 52, 0, 0, 0, 0)) (by decide +kernel)) rfl ?_ ?_
        · refine (hb_blk [(.iconst 1, 1, 0, 0, 0, 1, 0)] (pe := 53) (gs := []) (loc' := [.ref 50, .ref 46, .int x2, .int x3, .int x4]) (stk' := [.int 1, .ref 50]) (σ' := σ20) (by decide +kernel) rfl).trans ?_
          refine (hb_r_goto (hb_fe_ok (r := (.goto 4, 3, 57, 0, 0, 0, 0)) (by decide +kernel))).trans ?_
          exact rfl
        · refine (hb_blk [(.aload_n 0, 1, 0, 0, 0, 0, 0), (.getfield 28, 3, 8, 1, 0, 0, 0), (.getfield 86, 3, 10, 6, 0, 0, 0), (.iload_n 3, 1, 3, 0, 0, 0, 0), (.sipush 1024, 3, 0, 0, 0, 1024, 0), (.irem, 1, 0, 0, 0, 0, 0), (.baload, 1, 0, 0, 0, 0, 0)] (pe := 49) (gs := [decide (¬ (1024 : Int32) = 0), hb_in (x3 - x3 / (1024 : Int32) * (1024 : Int32)) 1024]) (loc' := [.ref 50, .ref 46, .int x2, .int x3, .int x4]) (stk' := [.int (σ20 11 (Int32.toNatClampNeg (x3 - x3 / (1024 : Int32) * (1024 : Int32)))), .ref 50]) (σ' := σ20) (by decide +kernel) rfl).trans ?_
          refine congrArg (hb_g _) ?_
          refine hb_br0 (hb_fe_ok (r := (.ifCond .eq 7, 3, 56, 0, 0, 0, 0)) (by decide +kernel)) rfl ?_ ?_
          · refine (hb_blk [(.iconst 0, 1, 0, 0, 0, 0, 0)] (pe := 57) (gs := []) (loc' := [.ref 50, .ref 46, .int x2, .int x3, .int x4]) (stk' := [.int 0, .ref 50]) (σ' := σ20) (by decide +kernel) rfl).trans ?_
            exact rfl
          · refine (hb_blk [(.iconst 1, 1, 0, 0, 0, 1, 0)] (pe := 53) (gs := []) (loc' := [.ref 50, .ref 46, .int x2, .int x3, .int x4]) (stk' := [.int 1, .ref 50]) (σ' := σ20) (by decide +kernel) rfl).trans ?_
            refine (hb_r_goto (hb_fe_ok (r := (.goto 4, 3, 57, 0, 0, 0, 0)) (by decide +kernel))).trans ?_
            exact rfl
      · refine (hb_blk [(.iload_n 2, 1, 2, 0, 0, 0, 0)] (pe := 27) (gs := []) (loc' := [.ref 50, .ref 46, .int x2, .int x3, .int x4]) (stk' := [.int x2]) (σ' := σ20) (by decide +kernel) rfl).trans ?_
        exact hb_r_iret (hb_fe_ok (r := (.ireturn, 1, 0, 0, 0, 0, 0)) (by decide +kernel))
set_option maxRecDepth 8000 in
theorem e52_57b  (σ : hbM) (x2 : Int32) (x3 : Int32) (x4 : Int32) (s0 : Int32) : hb_run hbSH 52 (57, [.ref 50, .ref 46, .int x2, .int x3, .int x4], [.int s0, .ref 50], σ) = hb_g [hb_01 s0, hb_in x2 17408] (some (some (.int (x2 + (1 : Int32))), (hb_up (hb_up σ 50 6 s0) 46 (Int32.toNatClampNeg x2) x3))) := by
  refine (hb_blk [(.putfield 65, 3, 8, 6, 1, 0, 0), (.aload_n 1, 1, 1, 0, 0, 0, 0), (.iload_n 2, 1, 2, 0, 0, 0, 0), (.iload_n 3, 1, 3, 0, 0, 0, 0), (.iastore, 1, 0, 0, 0, 0, 0), (.iload_n 2, 1, 2, 0, 0, 0, 0), (.iconst 1, 1, 0, 0, 0, 1, 0), (.iadd, 1, 0, 0, 0, 0, 0)] (pe := 67) (gs := [hb_01 s0, hb_in x2 17408]) (loc' := [.ref 50, .ref 46, .int x2, .int x3, .int x4]) (stk' := [.int (x2 + (1 : Int32))]) (σ' := (hb_up (hb_up σ 50 6 s0) 46 (Int32.toNatClampNeg x2) x3)) (by decide +kernel) rfl).trans ?_
  refine congrArg (hb_g _) ?_
  exact hb_r_iret (hb_fe_ok (r := (.ireturn, 1, 0, 0, 0, 0, 0)) (by decide +kernel))
set_option maxRecDepth 8000 in
theorem e53_0a  (σ : hbM) (x2 : Int32) (x3 : Int32) : hb_run hbSH 53 (0, [.ref 50, .ref 45, .int x2, .int x3, .null, .null, .null], [], σ) = hb_run hbSH 53 (6, [.ref 50, .ref 45, .int x2, .int x3, .int x2, .int 0, .null], [], σ) := by
  refine (hb_blk [(.iload_n 2, 1, 2, 0, 0, 0, 0), (.istore 4, 2, 4, 0, 0, 0, 0), (.iconst 0, 1, 0, 0, 0, 0, 0), (.istore 5, 2, 5, 0, 0, 0, 0)] (pe := 6) (gs := []) (loc' := [.ref 50, .ref 45, .int x2, .int x3, .int x2, .int 0, .null]) (stk' := []) (σ' := σ) (by decide +kernel) rfl).trans ?_
  exact rfl
set_option maxRecDepth 8000 in
theorem e53_6a  (σ : hbM) (x2 : Int32) (x3 : Int32) (x4 : Int32) (x5 : Int32) (v6 : Value) : hb_run hbSH 53 (6, [.ref 50, .ref 45, .int x2, .int x3, .int x4, .int x5, v6], [], σ) = if (x4 ≤ x5) then (some (some (.int x4), σ)) else (if ((17408 : Int32) ≤ x5) then (some (some (.int x4), σ)) else (hb_ci (hb_ev hbSH 55 [.ref 50] σ) (fun y22 σ22 => if (¬ y22 = (0 : Int32)) then (some (some (.int x4), σ22)) else (hb_g [hb_in x5 17408] (hb_ci (hb_ev hbSH 8 [.ref 36, .int (σ22 45 (Int32.toNatClampNeg x5))] σ22) (fun y36 σ36 => if (¬ y36 = (-1000000 : Int32)) then (hb_run hbSH 53 (60, [.ref 50, .ref 45, .int x2, .int x3, .int x4, .int x5, .int y36], [], σ36)) else (hb_g [hb_in x5 17408, decide (¬ (1024 : Int32) = 0)] (hb_cv (hb_ev hbSH 56 [.ref 50, .int ((σ36 45 (Int32.toNatClampNeg x5)) - (σ36 45 (Int32.toNatClampNeg x5)) / (1024 : Int32) * (1024 : Int32))] σ36) (fun σ57 => hb_run hbSH 53 (60, [.ref 50, .ref 45, .int x2, .int x3, .int x4, .int x5, .int y36], [], σ57)))))))))) := by
  refine (hb_blk [(.iload 5, 2, 5, 0, 0, 0, 0), (.iload 4, 2, 4, 0, 0, 0, 0)] (pe := 10) (gs := []) (loc' := [.ref 50, .ref 45, .int x2, .int x3, .int x4, .int x5, v6]) (stk' := [.int x4, .int x5]) (σ' := σ) (by decide +kernel) rfl).trans ?_
  refine hb_br (hb_fe_ok (r := (.if_icmp .ge 68, 3, 78, 0, 0, 0, 0)) (by decide +kernel)) rfl ?_ ?_
  · refine (hb_blk [(.iload 4, 2, 4, 0, 0, 0, 0)] (pe := 80) (gs := []) (loc' := [.ref 50, .ref 45, .int x2, .int x3, .int x4, .int x5, v6]) (stk' := [.int x4]) (σ' := σ) (by decide +kernel) rfl).trans ?_
    exact hb_r_iret (hb_fe_ok (r := (.ireturn, 1, 0, 0, 0, 0, 0)) (by decide +kernel))
  · refine (hb_blk [(.iload 5, 2, 5, 0, 0, 0, 0), (.sipush 17408, 3, 0, 0, 0, 17408, 0)] (pe := 18) (gs := []) (loc' := [.ref 50, .ref 45, .int x2, .int x3, .int x4, .int x5, v6]) (stk' := [.int 17408, .int x5]) (σ' := σ) (by decide +kernel) rfl).trans ?_
    refine hb_br (hb_fe_ok (r := (.if_icmp .ge 60, 3, 78, 0, 0, 0, 0)) (by decide +kernel)) rfl ?_ ?_
    · refine (hb_blk [(.iload 4, 2, 4, 0, 0, 0, 0)] (pe := 80) (gs := []) (loc' := [.ref 50, .ref 45, .int x2, .int x3, .int x4, .int x5, v6]) (stk' := [.int x4]) (σ' := σ) (by decide +kernel) rfl).trans ?_
      exact hb_r_iret (hb_fe_ok (r := (.ireturn, 1, 0, 0, 0, 0, 0)) (by decide +kernel))
    · refine (hb_blk [(.aload_n 0, 1, 0, 0, 0, 0, 0)] (pe := 22) (gs := []) (loc' := [.ref 50, .ref 45, .int x2, .int x3, .int x4, .int x5, v6]) (stk' := [.ref 50]) (σ' := σ) (by decide +kernel) rfl).trans ?_
      refine hb_Vi (hb_fe_ok (r := (.invokevirtual 92, 3, 55, 0, 0, 0, 0)) (by decide +kernel)) (by decide +kernel) (as := []) (v := .ref 50) (rest := []) rfl rfl (Nat.le_of_ble_eq_true rfl) (fun y22 σ22 => ?_)
      refine hb_br0 (hb_fe_ok (r := (.ifCond .ne 53, 3, 78, 0, 0, 0, 0)) (by decide +kernel)) rfl ?_ ?_
      · refine (hb_blk [(.iload 4, 2, 4, 0, 0, 0, 0)] (pe := 80) (gs := []) (loc' := [.ref 50, .ref 45, .int x2, .int x3, .int x4, .int x5, v6]) (stk' := [.int x4]) (σ' := σ22) (by decide +kernel) rfl).trans ?_
        exact hb_r_iret (hb_fe_ok (r := (.ireturn, 1, 0, 0, 0, 0, 0)) (by decide +kernel))
      · refine (hb_blk [(.aload_n 0, 1, 0, 0, 0, 0, 0), (.getfield 18, 3, 8, 0, 0, 0, 0), (.aload_n 1, 1, 1, 0, 0, 0, 0), (.iload 5, 2, 5, 0, 0, 0, 0), (.iaload, 1, 0, 0, 0, 0, 0)] (pe := 36) (gs := [hb_in x5 17408]) (loc' := [.ref 50, .ref 45, .int x2, .int x3, .int x4, .int x5, v6]) (stk' := [.int (σ22 45 (Int32.toNatClampNeg x5)), .ref 36]) (σ' := σ22) (by decide +kernel) rfl).trans ?_
        refine congrArg (hb_g _) ?_
        refine hb_Vi (hb_fe_ok (r := (.invokevirtual 96, 3, 8, 1, 0, 0, 0)) (by decide +kernel)) (by decide +kernel) (as := [.int (σ22 45 (Int32.toNatClampNeg x5))]) (v := .ref 36) (rest := []) rfl rfl (Nat.le_of_ble_eq_true rfl) (fun y36 σ36 => ?_)
        refine (hb_blk [(.istore 6, 2, 6, 0, 0, 0, 0), (.iload 6, 2, 6, 0, 0, 0, 0), (.ldc 81, 2, 0, 0, 0, (-1000000), 0)] (pe := 45) (gs := []) (loc' := [.ref 50, .ref 45, .int x2, .int x3, .int x4, .int x5, .int y36]) (stk' := [.int (-1000000), .int y36]) (σ' := σ36) (by decide +kernel) rfl).trans ?_
        refine hb_br (hb_fe_ok (r := (.if_icmp .ne 15, 3, 60, 0, 0, 0, 0)) (by decide +kernel)) rfl ?_ ?_
        · exact rfl
        · refine (hb_blk [(.aload_n 0, 1, 0, 0, 0, 0, 0), (.aload_n 1, 1, 1, 0, 0, 0, 0), (.iload 5, 2, 5, 0, 0, 0, 0), (.iaload, 1, 0, 0, 0, 0, 0), (.sipush 1024, 3, 0, 0, 0, 1024, 0), (.irem, 1, 0, 0, 0, 0, 0)] (pe := 57) (gs := [hb_in x5 17408, decide (¬ (1024 : Int32) = 0)]) (loc' := [.ref 50, .ref 45, .int x2, .int x3, .int x4, .int x5, .int y36]) (stk' := [.int ((σ36 45 (Int32.toNatClampNeg x5)) - (σ36 45 (Int32.toNatClampNeg x5)) / (1024 : Int32) * (1024 : Int32)), .ref 50]) (σ' := σ36) (by decide +kernel) rfl).trans ?_
          refine congrArg (hb_g _) ?_
          refine hb_Vv (hb_fe_ok (r := (.invokevirtual 99, 3, 56, 1, 0, 0, 0)) (by decide +kernel)) (by decide +kernel) (as := [.int ((σ36 45 (Int32.toNatClampNeg x5)) - (σ36 45 (Int32.toNatClampNeg x5)) / (1024 : Int32) * (1024 : Int32))]) (v := .ref 50) (rest := []) rfl rfl (Nat.le_of_ble_eq_true rfl) (fun σ57 => ?_)
          exact rfl
set_option maxRecDepth 8000 in
theorem e53_60a  (σ : hbM) (x2 : Int32) (x3 : Int32) (x4 : Int32) (x5 : Int32) (x6 : Int32) : hb_run hbSH 53 (60, [.ref 50, .ref 45, .int x2, .int x3, .int x4, .int x5, .int x6], [], σ) = hb_ci (hb_ev hbSH 52 [.ref 50, .ref 45, .int x4, .int x6, .int x3] σ) (fun y67 σ67 => hb_run hbSH 53 (6, [.ref 50, .ref 45, .int x2, .int x3, .int y67, .int (x5 + (1 : Int32)), .int x6], [], σ67)) := by
  refine (hb_blk [(.aload_n 0, 1, 0, 0, 0, 0, 0), (.aload_n 1, 1, 1, 0, 0, 0, 0), (.iload 4, 2, 4, 0, 0, 0, 0), (.iload 6, 2, 6, 0, 0, 0, 0), (.iload_n 3, 1, 3, 0, 0, 0, 0)] (pe := 67) (gs := []) (loc' := [.ref 50, .ref 45, .int x2, .int x3, .int x4, .int x5, .int x6]) (stk' := [.int x3, .int x6, .int x4, .ref 45, .ref 50]) (σ' := σ) (by decide +kernel) rfl).trans ?_
  refine hb_Vi (hb_fe_ok (r := (.invokevirtual 45, 3, 52, 4, 0, 0, 0)) (by decide +kernel)) (by decide +kernel) (as := [.ref 45, .int x4, .int x6, .int x3]) (v := .ref 50) (rest := []) rfl rfl (Nat.le_of_ble_eq_true rfl) (fun y67 σ67 => ?_)
  refine (hb_blk [(.istore 4, 2, 4, 0, 0, 0, 0), (.iinc 5 1, 3, 5, 0, 0, 1, 0)] (pe := 75) (gs := []) (loc' := [.ref 50, .ref 45, .int x2, .int x3, .int y67, .int (x5 + (1 : Int32)), .int x6]) (stk' := []) (σ' := σ67) (by decide +kernel) rfl).trans ?_
  refine (hb_r_goto (hb_fe_ok (r := (.goto (-69), 3, 6, 0, 0, 0, 0)) (by decide +kernel))).trans ?_
  exact rfl
set_option maxRecDepth 8000 in
theorem e53_0b  (σ : hbM) (x2 : Int32) (x3 : Int32) : hb_run hbSH 53 (0, [.ref 50, .ref 46, .int x2, .int x3, .null, .null, .null], [], σ) = hb_run hbSH 53 (6, [.ref 50, .ref 46, .int x2, .int x3, .int x2, .int 0, .null], [], σ) := by
  refine (hb_blk [(.iload_n 2, 1, 2, 0, 0, 0, 0), (.istore 4, 2, 4, 0, 0, 0, 0), (.iconst 0, 1, 0, 0, 0, 0, 0), (.istore 5, 2, 5, 0, 0, 0, 0)] (pe := 6) (gs := []) (loc' := [.ref 50, .ref 46, .int x2, .int x3, .int x2, .int 0, .null]) (stk' := []) (σ' := σ) (by decide +kernel) rfl).trans ?_
  exact rfl
set_option maxRecDepth 8000 in
theorem e53_6b  (σ : hbM) (x2 : Int32) (x3 : Int32) (x4 : Int32) (x5 : Int32) (v6 : Value) : hb_run hbSH 53 (6, [.ref 50, .ref 46, .int x2, .int x3, .int x4, .int x5, v6], [], σ) = if (x4 ≤ x5) then (some (some (.int x4), σ)) else (if ((17408 : Int32) ≤ x5) then (some (some (.int x4), σ)) else (hb_ci (hb_ev hbSH 55 [.ref 50] σ) (fun y22 σ22 => if (¬ y22 = (0 : Int32)) then (some (some (.int x4), σ22)) else (hb_g [hb_in x5 17408] (hb_ci (hb_ev hbSH 8 [.ref 36, .int (σ22 46 (Int32.toNatClampNeg x5))] σ22) (fun y36 σ36 => if (¬ y36 = (-1000000 : Int32)) then (hb_run hbSH 53 (60, [.ref 50, .ref 46, .int x2, .int x3, .int x4, .int x5, .int y36], [], σ36)) else (hb_g [hb_in x5 17408, decide (¬ (1024 : Int32) = 0)] (hb_cv (hb_ev hbSH 56 [.ref 50, .int ((σ36 46 (Int32.toNatClampNeg x5)) - (σ36 46 (Int32.toNatClampNeg x5)) / (1024 : Int32) * (1024 : Int32))] σ36) (fun σ57 => hb_run hbSH 53 (60, [.ref 50, .ref 46, .int x2, .int x3, .int x4, .int x5, .int y36], [], σ57)))))))))) := by
  refine (hb_blk [(.iload 5, 2, 5, 0, 0, 0, 0), (.iload 4, 2, 4, 0, 0, 0, 0)] (pe := 10) (gs := []) (loc' := [.ref 50, .ref 46, .int x2, .int x3, .int x4, .int x5, v6]) (stk' := [.int x4, .int x5]) (σ' := σ) (by decide +kernel) rfl).trans ?_
  refine hb_br (hb_fe_ok (r := (.if_icmp .ge 68, 3, 78, 0, 0, 0, 0)) (by decide +kernel)) rfl ?_ ?_
  · refine (hb_blk [(.iload 4, 2, 4, 0, 0, 0, 0)] (pe := 80) (gs := []) (loc' := [.ref 50, .ref 46, .int x2, .int x3, .int x4, .int x5, v6]) (stk' := [.int x4]) (σ' := σ) (by decide +kernel) rfl).trans ?_
    exact hb_r_iret (hb_fe_ok (r := (.ireturn, 1, 0, 0, 0, 0, 0)) (by decide +kernel))
  · refine (hb_blk [(.iload 5, 2, 5, 0, 0, 0, 0), (.sipush 17408, 3, 0, 0, 0, 17408, 0)] (pe := 18) (gs := []) (loc' := [.ref 50, .ref 46, .int x2, .int x3, .int x4, .int x5, v6]) (stk' := [.int 17408, .int x5]) (σ' := σ) (by decide +kernel) rfl).trans ?_
    refine hb_br (hb_fe_ok (r := (.if_icmp .ge 60, 3, 78, 0, 0, 0, 0)) (by decide +kernel)) rfl ?_ ?_
    · refine (hb_blk [(.iload 4, 2, 4, 0, 0, 0, 0)] (pe := 80) (gs := []) (loc' := [.ref 50, .ref 46, .int x2, .int x3, .int x4, .int x5, v6]) (stk' := [.int x4]) (σ' := σ) (by decide +kernel) rfl).trans ?_
      exact hb_r_iret (hb_fe_ok (r := (.ireturn, 1, 0, 0, 0, 0, 0)) (by decide +kernel))
    · refine (hb_blk [(.aload_n 0, 1, 0, 0, 0, 0, 0)] (pe := 22) (gs := []) (loc' := [.ref 50, .ref 46, .int x2, .int x3, .int x4, .int x5, v6]) (stk' := [.ref 50]) (σ' := σ) (by decide +kernel) rfl).trans ?_
      refine hb_Vi (hb_fe_ok (r := (.invokevirtual 92, 3, 55, 0, 0, 0, 0)) (by decide +kernel)) (by decide +kernel) (as := []) (v := .ref 50) (rest := []) rfl rfl (Nat.le_of_ble_eq_true rfl) (fun y22 σ22 => ?_)
      refine hb_br0 (hb_fe_ok (r := (.ifCond .ne 53, 3, 78, 0, 0, 0, 0)) (by decide +kernel)) rfl ?_ ?_
      · refine (hb_blk [(.iload 4, 2, 4, 0, 0, 0, 0)] (pe := 80) (gs := []) (loc' := [.ref 50, .ref 46, .int x2, .int x3, .int x4, .int x5, v6]) (stk' := [.int x4]) (σ' := σ22) (by decide +kernel) rfl).trans ?_
        exact hb_r_iret (hb_fe_ok (r := (.ireturn, 1, 0, 0, 0, 0, 0)) (by decide +kernel))
      · refine (hb_blk [(.aload_n 0, 1, 0, 0, 0, 0, 0), (.getfield 18, 3, 8, 0, 0, 0, 0), (.aload_n 1, 1, 1, 0, 0, 0, 0), (.iload 5, 2, 5, 0, 0, 0, 0), (.iaload, 1, 0, 0, 0, 0, 0)] (pe := 36) (gs := [hb_in x5 17408]) (loc' := [.ref 50, .ref 46, .int x2, .int x3, .int x4, .int x5, v6]) (stk' := [.int (σ22 46 (Int32.toNatClampNeg x5)), .ref 36]) (σ' := σ22) (by decide +kernel) rfl).trans ?_
        refine congrArg (hb_g _) ?_
        refine hb_Vi (hb_fe_ok (r := (.invokevirtual 96, 3, 8, 1, 0, 0, 0)) (by decide +kernel)) (by decide +kernel) (as := [.int (σ22 46 (Int32.toNatClampNeg x5))]) (v := .ref 36) (rest := []) rfl rfl (Nat.le_of_ble_eq_true rfl) (fun y36 σ36 => ?_)
        refine (hb_blk [(.istore 6, 2, 6, 0, 0, 0, 0), (.iload 6, 2, 6, 0, 0, 0, 0), (.ldc 81, 2, 0, 0, 0, (-1000000), 0)] (pe := 45) (gs := []) (loc' := [.ref 50, .ref 46, .int x2, .int x3, .int x4, .int x5, .int y36]) (stk' := [.int (-1000000), .int y36]) (σ' := σ36) (by decide +kernel) rfl).trans ?_
        refine hb_br (hb_fe_ok (r := (.if_icmp .ne 15, 3, 60, 0, 0, 0, 0)) (by decide +kernel)) rfl ?_ ?_
        · exact rfl
        · refine (hb_blk [(.aload_n 0, 1, 0, 0, 0, 0, 0), (.aload_n 1, 1, 1, 0, 0, 0, 0), (.iload 5, 2, 5, 0, 0, 0, 0), (.iaload, 1, 0, 0, 0, 0, 0), (.sipush 1024, 3, 0, 0, 0, 1024, 0), (.irem, 1, 0, 0, 0, 0, 0)] (pe := 57) (gs := [hb_in x5 17408, decide (¬ (1024 : Int32) = 0)]) (loc' := [.ref 50, .ref 46, .int x2, .int x3, .int x4, .int x5, .int y36]) (stk' := [.int ((σ36 46 (Int32.toNatClampNeg x5)) - (σ36 46 (Int32.toNatClampNeg x5)) / (1024 : Int32) * (1024 : Int32)), .ref 50]) (σ' := σ36) (by decide +kernel) rfl).trans ?_
          refine congrArg (hb_g _) ?_
          refine hb_Vv (hb_fe_ok (r := (.invokevirtual 99, 3, 56, 1, 0, 0, 0)) (by decide +kernel)) (by decide +kernel) (as := [.int ((σ36 46 (Int32.toNatClampNeg x5)) - (σ36 46 (Int32.toNatClampNeg x5)) / (1024 : Int32) * (1024 : Int32))]) (v := .ref 50) (rest := []) rfl rfl (Nat.le_of_ble_eq_true rfl) (fun σ57 => ?_)
          exact rfl
set_option maxRecDepth 8000 in
theorem e53_60b  (σ : hbM) (x2 : Int32) (x3 : Int32) (x4 : Int32) (x5 : Int32) (x6 : Int32) : hb_run hbSH 53 (60, [.ref 50, .ref 46, .int x2, .int x3, .int x4, .int x5, .int x6], [], σ) = hb_ci (hb_ev hbSH 52 [.ref 50, .ref 46, .int x4, .int x6, .int x3] σ) (fun y67 σ67 => hb_run hbSH 53 (6, [.ref 50, .ref 46, .int x2, .int x3, .int y67, .int (x5 + (1 : Int32)), .int x6], [], σ67)) := by
  refine (hb_blk [(.aload_n 0, 1, 0, 0, 0, 0, 0), (.aload_n 1, 1, 1, 0, 0, 0, 0), (.iload 4, 2, 4, 0, 0, 0, 0), (.iload 6, 2, 6, 0, 0, 0, 0), (.iload_n 3, 1, 3, 0, 0, 0, 0)] (pe := 67) (gs := []) (loc' := [.ref 50, .ref 46, .int x2, .int x3, .int x4, .int x5, .int x6]) (stk' := [.int x3, .int x6, .int x4, .ref 46, .ref 50]) (σ' := σ) (by decide +kernel) rfl).trans ?_
  refine hb_Vi (hb_fe_ok (r := (.invokevirtual 45, 3, 52, 4, 0, 0, 0)) (by decide +kernel)) (by decide +kernel) (as := [.ref 46, .int x4, .int x6, .int x3]) (v := .ref 50) (rest := []) rfl rfl (Nat.le_of_ble_eq_true rfl) (fun y67 σ67 => ?_)
  refine (hb_blk [(.istore 4, 2, 4, 0, 0, 0, 0), (.iinc 5 1, 3, 5, 0, 0, 1, 0)] (pe := 75) (gs := []) (loc' := [.ref 50, .ref 46, .int x2, .int x3, .int y67, .int (x5 + (1 : Int32)), .int x6]) (stk' := []) (σ' := σ67) (by decide +kernel) rfl).trans ?_
  refine (hb_r_goto (hb_fe_ok (r := (.goto (-69), 3, 6, 0, 0, 0, 0)) (by decide +kernel))).trans ?_
  exact rfl
set_option maxRecDepth 8000 in
theorem e54_0a  (σ : hbM) (x2 : Int32) (x4 : Int32) : hb_run hbSH 54 (0, [.ref 50, .ref 45, .int x2, .ref 46, .int x4, .null, .null, .null], [], σ) = hb_run hbSH 54 (6, [.ref 50, .ref 45, .int x2, .ref 46, .int x4, .int 0, .int 0, .null], [], σ) := by
  refine (hb_blk [(.iconst 0, 1, 0, 0, 0, 0, 0), (.istore 5, 2, 5, 0, 0, 0, 0), (.iconst 0, 1, 0, 0, 0, 0, 0), (.istore 6, 2, 6, 0, 0, 0, 0)] (pe := 6) (gs := []) (loc' := [.ref 50, .ref 45, .int x2, .ref 46, .int x4, .int 0, .int 0, .null]) (stk' := []) (σ' := σ) (by decide +kernel) rfl).trans ?_
  exact rfl
set_option maxRecDepth 8000 in
theorem e54_6a  (σ : hbM) (x2 : Int32) (x4 : Int32) (x5 : Int32) (x6 : Int32) (v7 : Value) : hb_run hbSH 54 (6, [.ref 50, .ref 45, .int x2, .ref 46, .int x4, .int x5, .int x6, v7], [], σ) = if (x2 ≤ x6) then (some (some (.int x5), σ)) else (hb_ci (hb_ev hbSH 55 [.ref 50] σ) (fun y13 σ13 => if (¬ y13 = (0 : Int32)) then (some (some (.int x5), σ13)) else (hb_run hbSH 54 (22, [.ref 50, .ref 45, .int x2, .ref 46, .int x4, .int x5, .int x6, .int 0], [], σ13)))) := by
  refine (hb_blk [(.iload 6, 2, 6, 0, 0, 0, 0), (.iload_n 2, 1, 2, 0, 0, 0, 0)] (pe := 9) (gs := []) (loc' := [.ref 50, .ref 45, .int x2, .ref 46, .int x4, .int x5, .int x6, v7]) (stk' := [.int x2, .int x6]) (σ' := σ) (by decide +kernel) rfl).trans ?_
  refine hb_br (hb_fe_ok (r := (.if_icmp .ge 55, 3, 64, 0, 0, 0, 0)) (by decide +kernel)) rfl ?_ ?_
  · refine (hb_blk [(.iload 5, 2, 5, 0, 0, 0, 0)] (pe := 66) (gs := []) (loc' := [.ref 50, .ref 45, .int x2, .ref 46, .int x4, .int x5, .int x6, v7]) (stk' := [.int x5]) (σ' := σ) (by decide +kernel) rfl).trans ?_
    exact hb_r_iret (hb_fe_ok (r := (.ireturn, 1, 0, 0, 0, 0, 0)) (by decide +kernel))
  · refine (hb_blk [(.aload_n 0, 1, 0, 0, 0, 0, 0)] (pe := 13) (gs := []) (loc' := [.ref 50, .ref 45, .int x2, .ref 46, .int x4, .int x5, .int x6, v7]) (stk' := [.ref 50]) (σ' := σ) (by decide +kernel) rfl).trans ?_
    refine hb_Vi (hb_fe_ok (r := (.invokevirtual 92, 3, 55, 0, 0, 0, 0)) (by decide +kernel)) (by decide +kernel) (as := []) (v := .ref 50) (rest := []) rfl rfl (Nat.le_of_ble_eq_true rfl) (fun y13 σ13 => ?_)
    refine hb_br0 (hb_fe_ok (r := (.ifCond .ne 48, 3, 64, 0, 0, 0, 0)) (by decide +kernel)) rfl ?_ ?_
    · refine (hb_blk [(.iload 5, 2, 5, 0, 0, 0, 0)] (pe := 66) (gs := []) (loc' := [.ref 50, .ref 45, .int x2, .ref 46, .int x4, .int x5, .int x6, v7]) (stk' := [.int x5]) (σ' := σ13) (by decide +kernel) rfl).trans ?_
      exact hb_r_iret (hb_fe_ok (r := (.ireturn, 1, 0, 0, 0, 0, 0)) (by decide +kernel))
    · refine (hb_blk [(.iconst 0, 1, 0, 0, 0, 0, 0), (.istore 7, 2, 7, 0, 0, 0, 0)] (pe := 22) (gs := []) (loc' := [.ref 50, .ref 45, .int x2, .ref 46, .int x4, .int x5, .int x6, .int 0]) (stk' := []) (σ' := σ13) (by decide +kernel) rfl).trans ?_
      exact rfl
set_option maxRecDepth 8000 in
theorem e54_22a  (σ : hbM) (x2 : Int32) (x4 : Int32) (x5 : Int32) (x6 : Int32) (x7 : Int32) : hb_run hbSH 54 (22, [.ref 50, .ref 45, .int x2, .ref 46, .int x4, .int x5, .int x6, .int x7], [], σ) = if ((4 : Int32) ≤ x7) then (hb_run hbSH 54 (6, [.ref 50, .ref 45, .int x2, .ref 46, .int x4, .int x5, .int (x6 + (1 : Int32)), .int x7], [], σ)) else (hb_g [hb_in x6 17408] (hb_ci (hb_ev hbSH 10 [.ref 36, .int (σ 45 (Int32.toNatClampNeg x6)), .int x7] σ) (fun y42 σ42 => hb_ci (hb_ev hbSH 52 [.ref 50, .ref 46, .int x5, .int y42, .int x4] σ42) (fun y47 σ47 => hb_run hbSH 54 (22, [.ref 50, .ref 45, .int x2, .ref 46, .int x4, .int y47, .int x6, .int (x7 + (1 : Int32))], [], σ47))))) := by
  refine (hb_blk [(.iload 7, 2, 7, 0, 0, 0, 0), (.iconst 4, 1, 0, 0, 0, 4, 0)] (pe := 25) (gs := []) (loc' := [.ref 50, .ref 45, .int x2, .ref 46, .int x4, .int x5, .int x6, .int x7]) (stk' := [.int 4, .int x7]) (σ' := σ) (by decide +kernel) rfl).trans ?_
  refine hb_br (hb_fe_ok (r := (.if_icmp .ge 33, 3, 58, 0, 0, 0, 0)) (by decide +kernel)) rfl ?_ ?_
  · refine (hb_blk [(.iinc 6 1, 3, 6, 0, 0, 1, 0)] (pe := 61) (gs := []) (loc' := [.ref 50, .ref 45, .int x2, .ref 46, .int x4, .int x5, .int (x6 + (1 : Int32)), .int x7]) (stk' := []) (σ' := σ) (by decide +kernel) rfl).trans ?_
    refine (hb_r_goto (hb_fe_ok (r := (.goto (-55), 3, 6, 0, 0, 0, 0)) (by decide +kernel))).trans ?_
    exact rfl
  · refine (hb_blk [(.aload_n 0, 1, 0, 0, 0, 0, 0), (.aload_n 3, 1, 3, 0, 0, 0, 0), (.iload 5, 2, 5, 0, 0, 0, 0), (.aload_n 0, 1, 0, 0, 0, 0, 0), (.getfield 18, 3, 8, 0, 0, 0, 0), (.aload_n 1, 1, 1, 0, 0, 0, 0), (.iload 6, 2, 6, 0, 0, 0, 0), (.iaload, 1, 0, 0, 0, 0, 0), (.iload 7, 2, 7, 0, 0, 0, 0)] (pe := 42) (gs := [hb_in x6 17408]) (loc' := [.ref 50, .ref 45, .int x2, .ref 46, .int x4, .int x5, .int x6, .int x7]) (stk' := [.int x7, .int (σ 45 (Int32.toNatClampNeg x6)), .ref 36, .int x5, .ref 46, .ref 50]) (σ' := σ) (by decide +kernel) rfl).trans ?_
    refine congrArg (hb_g _) ?_
    refine hb_Vi (hb_fe_ok (r := (.invokevirtual 102, 3, 10, 2, 0, 0, 0)) (by decide +kernel)) (by decide +kernel) (as := [.int (σ 45 (Int32.toNatClampNeg x6)), .int x7]) (v := .ref 36) (rest := [.int x5, .ref 46, .ref 50]) rfl rfl (Nat.le_of_ble_eq_true rfl) (fun y42 σ42 => ?_)
    refine (hb_blk [(.iload 4, 2, 4, 0, 0, 0, 0)] (pe := 47) (gs := []) (loc' := [.ref 50, .ref 45, .int x2, .ref 46, .int x4, .int x5, .int x6, .int x7]) (stk' := [.int x4, .int y42, .int x5, .ref 46, .ref 50]) (σ' := σ42) (by decide +kernel) rfl).trans ?_
    refine hb_Vi (hb_fe_ok (r := (.invokevirtual 45, 3, 52, 4, 0, 0, 0)) (by decide +kernel)) (by decide +kernel) (as := [.ref 46, .int x5, .int y42, .int x4]) (v := .ref 50) (rest := []) rfl rfl (Nat.le_of_ble_eq_true rfl) (fun y47 σ47 => ?_)
    refine (hb_blk [(.istore 5, 2, 5, 0, 0, 0, 0), (.iinc 7 1, 3, 7, 0, 0, 1, 0)] (pe := 55) (gs := []) (loc' := [.ref 50, .ref 45, .int x2, .ref 46, .int x4, .int y47, .int x6, .int (x7 + (1 : Int32))]) (stk' := []) (σ' := σ47) (by decide +kernel) rfl).trans ?_
    refine (hb_r_goto (hb_fe_ok (r := (.goto (-33), 3, 22, 0, 0, 0, 0)) (by decide +kernel))).trans ?_
    exact rfl
set_option maxRecDepth 8000 in
theorem e54_0b  (σ : hbM) (x2 : Int32) (x4 : Int32) : hb_run hbSH 54 (0, [.ref 50, .ref 46, .int x2, .ref 45, .int x4, .null, .null, .null], [], σ) = hb_run hbSH 54 (6, [.ref 50, .ref 46, .int x2, .ref 45, .int x4, .int 0, .int 0, .null], [], σ) := by
  refine (hb_blk [(.iconst 0, 1, 0, 0, 0, 0, 0), (.istore 5, 2, 5, 0, 0, 0, 0), (.iconst 0, 1, 0, 0, 0, 0, 0), (.istore 6, 2, 6, 0, 0, 0, 0)] (pe := 6) (gs := []) (loc' := [.ref 50, .ref 46, .int x2, .ref 45, .int x4, .int 0, .int 0, .null]) (stk' := []) (σ' := σ) (by decide +kernel) rfl).trans ?_
  exact rfl
set_option maxRecDepth 8000 in
theorem e54_6b  (σ : hbM) (x2 : Int32) (x4 : Int32) (x5 : Int32) (x6 : Int32) (v7 : Value) : hb_run hbSH 54 (6, [.ref 50, .ref 46, .int x2, .ref 45, .int x4, .int x5, .int x6, v7], [], σ) = if (x2 ≤ x6) then (some (some (.int x5), σ)) else (hb_ci (hb_ev hbSH 55 [.ref 50] σ) (fun y13 σ13 => if (¬ y13 = (0 : Int32)) then (some (some (.int x5), σ13)) else (hb_run hbSH 54 (22, [.ref 50, .ref 46, .int x2, .ref 45, .int x4, .int x5, .int x6, .int 0], [], σ13)))) := by
  refine (hb_blk [(.iload 6, 2, 6, 0, 0, 0, 0), (.iload_n 2, 1, 2, 0, 0, 0, 0)] (pe := 9) (gs := []) (loc' := [.ref 50, .ref 46, .int x2, .ref 45, .int x4, .int x5, .int x6, v7]) (stk' := [.int x2, .int x6]) (σ' := σ) (by decide +kernel) rfl).trans ?_
  refine hb_br (hb_fe_ok (r := (.if_icmp .ge 55, 3, 64, 0, 0, 0, 0)) (by decide +kernel)) rfl ?_ ?_
  · refine (hb_blk [(.iload 5, 2, 5, 0, 0, 0, 0)] (pe := 66) (gs := []) (loc' := [.ref 50, .ref 46, .int x2, .ref 45, .int x4, .int x5, .int x6, v7]) (stk' := [.int x5]) (σ' := σ) (by decide +kernel) rfl).trans ?_
    exact hb_r_iret (hb_fe_ok (r := (.ireturn, 1, 0, 0, 0, 0, 0)) (by decide +kernel))
  · refine (hb_blk [(.aload_n 0, 1, 0, 0, 0, 0, 0)] (pe := 13) (gs := []) (loc' := [.ref 50, .ref 46, .int x2, .ref 45, .int x4, .int x5, .int x6, v7]) (stk' := [.ref 50]) (σ' := σ) (by decide +kernel) rfl).trans ?_
    refine hb_Vi (hb_fe_ok (r := (.invokevirtual 92, 3, 55, 0, 0, 0, 0)) (by decide +kernel)) (by decide +kernel) (as := []) (v := .ref 50) (rest := []) rfl rfl (Nat.le_of_ble_eq_true rfl) (fun y13 σ13 => ?_)
    refine hb_br0 (hb_fe_ok (r := (.ifCond .ne 48, 3, 64, 0, 0, 0, 0)) (by decide +kernel)) rfl ?_ ?_
    · refine (hb_blk [(.iload 5, 2, 5, 0, 0, 0, 0)] (pe := 66) (gs := []) (loc' := [.ref 50, .ref 46, .int x2, .ref 45, .int x4, .int x5, .int x6, v7]) (stk' := [.int x5]) (σ' := σ13) (by decide +kernel) rfl).trans ?_
      exact hb_r_iret (hb_fe_ok (r := (.ireturn, 1, 0, 0, 0, 0, 0)) (by decide +kernel))
    · refine (hb_blk [(.iconst 0, 1, 0, 0, 0, 0, 0), (.istore 7, 2, 7, 0, 0, 0, 0)] (pe := 22) (gs := []) (loc' := [.ref 50, .ref 46, .int x2, .ref 45, .int x4, .int x5, .int x6, .int 0]) (stk' := []) (σ' := σ13) (by decide +kernel) rfl).trans ?_
      exact rfl
set_option maxRecDepth 8000 in
theorem e54_22b  (σ : hbM) (x2 : Int32) (x4 : Int32) (x5 : Int32) (x6 : Int32) (x7 : Int32) : hb_run hbSH 54 (22, [.ref 50, .ref 46, .int x2, .ref 45, .int x4, .int x5, .int x6, .int x7], [], σ) = if ((4 : Int32) ≤ x7) then (hb_run hbSH 54 (6, [.ref 50, .ref 46, .int x2, .ref 45, .int x4, .int x5, .int (x6 + (1 : Int32)), .int x7], [], σ)) else (hb_g [hb_in x6 17408] (hb_ci (hb_ev hbSH 10 [.ref 36, .int (σ 46 (Int32.toNatClampNeg x6)), .int x7] σ) (fun y42 σ42 => hb_ci (hb_ev hbSH 52 [.ref 50, .ref 45, .int x5, .int y42, .int x4] σ42) (fun y47 σ47 => hb_run hbSH 54 (22, [.ref 50, .ref 46, .int x2, .ref 45, .int x4, .int y47, .int x6, .int (x7 + (1 : Int32))], [], σ47))))) := by
  refine (hb_blk [(.iload 7, 2, 7, 0, 0, 0, 0), (.iconst 4, 1, 0, 0, 0, 4, 0)] (pe := 25) (gs := []) (loc' := [.ref 50, .ref 46, .int x2, .ref 45, .int x4, .int x5, .int x6, .int x7]) (stk' := [.int 4, .int x7]) (σ' := σ) (by decide +kernel) rfl).trans ?_
  refine hb_br (hb_fe_ok (r := (.if_icmp .ge 33, 3, 58, 0, 0, 0, 0)) (by decide +kernel)) rfl ?_ ?_
  · refine (hb_blk [(.iinc 6 1, 3, 6, 0, 0, 1, 0)] (pe := 61) (gs := []) (loc' := [.ref 50, .ref 46, .int x2, .ref 45, .int x4, .int x5, .int (x6 + (1 : Int32)), .int x7]) (stk' := []) (σ' := σ) (by decide +kernel) rfl).trans ?_
    refine (hb_r_goto (hb_fe_ok (r := (.goto (-55), 3, 6, 0, 0, 0, 0)) (by decide +kernel))).trans ?_
    exact rfl
  · refine (hb_blk [(.aload_n 0, 1, 0, 0, 0, 0, 0), (.aload_n 3, 1, 3, 0, 0, 0, 0), (.iload 5, 2, 5, 0, 0, 0, 0), (.aload_n 0, 1, 0, 0, 0, 0, 0), (.getfield 18, 3, 8, 0, 0, 0, 0), (.aload_n 1, 1, 1, 0, 0, 0, 0), (.iload 6, 2, 6, 0, 0, 0, 0), (.iaload, 1, 0, 0, 0, 0, 0), (.iload 7, 2, 7, 0, 0, 0, 0)] (pe := 42) (gs := [hb_in x6 17408]) (loc' := [.ref 50, .ref 46, .int x2, .ref 45, .int x4, .int x5, .int x6, .int x7]) (stk' := [.int x7, .int (σ 46 (Int32.toNatClampNeg x6)), .ref 36, .int x5, .ref 45, .ref 50]) (σ' := σ) (by decide +kernel) rfl).trans ?_
    refine congrArg (hb_g _) ?_
    refine hb_Vi (hb_fe_ok (r := (.invokevirtual 102, 3, 10, 2, 0, 0, 0)) (by decide +kernel)) (by decide +kernel) (as := [.int (σ 46 (Int32.toNatClampNeg x6)), .int x7]) (v := .ref 36) (rest := [.int x5, .ref 45, .ref 50]) rfl rfl (Nat.le_of_ble_eq_true rfl) (fun y42 σ42 => ?_)
    refine (hb_blk [(.iload 4, 2, 4, 0, 0, 0, 0)] (pe := 47) (gs := []) (loc' := [.ref 50, .ref 46, .int x2, .ref 45, .int x4, .int x5, .int x6, .int x7]) (stk' := [.int x4, .int y42, .int x5, .ref 45, .ref 50]) (σ' := σ42) (by decide +kernel) rfl).trans ?_
    refine hb_Vi (hb_fe_ok (r := (.invokevirtual 45, 3, 52, 4, 0, 0, 0)) (by decide +kernel)) (by decide +kernel) (as := [.ref 45, .int x5, .int y42, .int x4]) (v := .ref 50) (rest := []) rfl rfl (Nat.le_of_ble_eq_true rfl) (fun y47 σ47 => ?_)
    refine (hb_blk [(.istore 5, 2, 5, 0, 0, 0, 0), (.iinc 7 1, 3, 7, 0, 0, 1, 0)] (pe := 55) (gs := []) (loc' := [.ref 50, .ref 46, .int x2, .ref 45, .int x4, .int y47, .int x6, .int (x7 + (1 : Int32))]) (stk' := []) (σ' := σ47) (by decide +kernel) rfl).trans ?_
    refine (hb_r_goto (hb_fe_ok (r := (.goto (-33), 3, 22, 0, 0, 0, 0)) (by decide +kernel))).trans ?_
    exact rfl
set_option maxRecDepth 8000 in
theorem e55_0  (σ : hbM) : hb_run hbSH 55 (0, [.ref 50], [], σ) = if ((σ 50 6) = (0 : Int32)) then (some (some (.int 0), σ)) else (if ((σ 50 5) = (0 : Int32)) then (some (some (.int 0), σ)) else (some (some (.int 1), σ))) := by
  refine (hb_blk [(.aload_n 0, 1, 0, 0, 0, 0, 0), (.getfield 65, 3, 8, 6, 0, 0, 0)] (pe := 4) (gs := []) (loc' := [.ref 50]) (stk' := [.int (σ 50 6)]) (σ' := σ) (by decide +kernel) rfl).trans ?_
  refine hb_br0 (hb_fe_ok (r := (.ifCond .eq 14, 3, 18, 0, 0, 0, 0)) (by decide +kernel)) rfl ?_ ?_
  · refine (hb_blk [(.iconst 0, 1, 0, 0, 0, 0, 0)] (pe := 19) (gs := []) (loc' := [.ref 50]) (stk' := [.int 0]) (σ' := σ) (by decide +kernel) rfl).trans ?_
    exact hb_r_zret1 (hb_fe_ok (r := (.ireturn, 1, 0, 0, 1, 0, 0)) (by decide +kernel)) (by decide)
  · refine (hb_blk [(.aload_n 0, 1, 0, 0, 0, 0, 0), (.getfield 78, 3, 8, 5, 0, 0, 0)] (pe := 11) (gs := []) (loc' := [.ref 50]) (stk' := [.int (σ 50 5)]) (σ' := σ) (by decide +kernel) rfl).trans ?_
    refine hb_br0 (hb_fe_ok (r := (.ifCond .eq 7, 3, 18, 0, 0, 0, 0)) (by decide +kernel)) rfl ?_ ?_
    · refine (hb_blk [(.iconst 0, 1, 0, 0, 0, 0, 0)] (pe := 19) (gs := []) (loc' := [.ref 50]) (stk' := [.int 0]) (σ' := σ) (by decide +kernel) rfl).trans ?_
      exact hb_r_zret1 (hb_fe_ok (r := (.ireturn, 1, 0, 0, 1, 0, 0)) (by decide +kernel)) (by decide)
    · refine (hb_blk [(.iconst 1, 1, 0, 0, 0, 1, 0)] (pe := 15) (gs := []) (loc' := [.ref 50]) (stk' := [.int 1]) (σ' := σ) (by decide +kernel) rfl).trans ?_
      refine (hb_r_goto (hb_fe_ok (r := (.goto 4, 3, 19, 0, 0, 0, 0)) (by decide +kernel))).trans ?_
      exact hb_r_zret1 (hb_fe_ok (r := (.ireturn, 1, 0, 0, 1, 0, 0)) (by decide +kernel)) (by decide)
set_option maxRecDepth 8000 in
theorem e56_0  (σ : hbM) (x1 : Int32) : hb_run hbSH 56 (0, [.ref 50, .int x1], [], σ) = hb_g [hb_in x1 1024] (if ((σ 51 (Int32.toNatClampNeg x1)) = (σ 44 4)) then (some (none, σ)) else (hb_g [hb_in x1 1024, hb_in x1 1024] (hb_ci (hb_ev hbSH 111 [.int (σ 12 (Int32.toNatClampNeg x1))] (hb_up (hb_up σ 51 (Int32.toNatClampNeg x1) (σ 44 4)) 50 7 ((σ 50 7) + (1 : Int32)))) (fun y53 σ53 => some (none, (hb_up σ53 50 8 ((σ 50 8) + y53))))))) := by
  refine (hb_blk [(.aload_n 0, 1, 0, 0, 0, 0, 0), (.getfield 9, 3, 8, 3, 0, 0, 0), (.iload_n 1, 1, 1, 0, 0, 0, 0), (.iaload, 1, 0, 0, 0, 0, 0), (.aload_n 0, 1, 0, 0, 0, 0, 0), (.getfield 29, 3, 8, 2, 0, 0, 0), (.getfield 106, 3, 4, 4, 0, 0, 0)] (pe := 13) (gs := [hb_in x1 1024]) (loc' := [.ref 50, .int x1]) (stk' := [.int (σ 44 4), .int (σ 51 (Int32.toNatClampNeg x1))]) (σ' := σ) (by decide +kernel) rfl).trans ?_
  refine congrArg (hb_g _) ?_
  refine hb_br (hb_fe_ok (r := (.if_icmp .eq 47, 3, 60, 0, 0, 0, 0)) (by decide +kernel)) rfl ?_ ?_
  · exact hb_r_vret (hb_fe_ok (r := (.return_, 1, 0, 0, 0, 0, 0)) (by decide +kernel))
  · refine (hb_blk [(.aload_n 0, 1, 0, 0, 0, 0, 0), (.getfield 9, 3, 8, 3, 0, 0, 0), (.iload_n 1, 1, 1, 0, 0, 0, 0), (.aload_n 0, 1, 0, 0, 0, 0, 0), (.getfield 29, 3, 8, 2, 0, 0, 0), (.getfield 106, 3, 4, 4, 0, 0, 0), (.iastore, 1, 0, 0, 0, 0, 0), (.aload_n 0, 1, 0, 0, 0, 0, 0), (.dup, 1, 0, 0, 0, 0, 0), (.getfield 69, 3, 8, 7, 0, 0, 0), (.iconst 1, 1, 0, 0, 0, 1, 0), (.iadd, 1, 0, 0, 0, 0, 0), (.putfield 69, 3, 8, 7, 0, 0, 0), (.aload_n 0, 1, 0, 0, 0, 0, 0), (.dup, 1, 0, 0, 0, 0, 0), (.getfield 73, 3, 8, 8, 0, 0, 0), (.aload_n 0, 1, 0, 0, 0, 0, 0), (.getfield 28, 3, 8, 1, 0, 0, 0), (.getfield 109, 3, 10, 7, 0, 0, 0), (.iload_n 1, 1, 1, 0, 0, 0, 0), (.baload, 1, 0, 0, 0, 0, 0)] (pe := 53) (gs := [hb_in x1 1024, hb_in x1 1024]) (loc' := [.ref 50, .int x1]) (stk' := [.int (σ 12 (Int32.toNatClampNeg x1)), .int (σ 50 8), .ref 50]) (σ' := (hb_up (hb_up σ 51 (Int32.toNatClampNeg x1) (σ 44 4)) 50 7 ((σ 50 7) + (1 : Int32)))) (by decide +kernel) rfl).trans ?_
    refine congrArg (hb_g _) ?_
    refine hb_Si (hb_fe_ok (r := (.invokestatic 57, 3, 111, 1, 1, 0, 0)) (by decide +kernel)) (by decide) (by decide +kernel) (as := [.int (σ 12 (Int32.toNatClampNeg x1))]) (rest := [.int (σ 50 8), .ref 50]) rfl (Nat.le_of_ble_eq_true rfl) (fun y53 σ53 => ?_)
    refine (hb_blk [(.iadd, 1, 0, 0, 0, 0, 0), (.putfield 73, 3, 8, 8, 0, 0, 0)] (pe := 60) (gs := []) (loc' := [.ref 50, .int x1]) (stk' := []) (σ' := (hb_up σ53 50 8 ((σ 50 8) + y53))) (by decide +kernel) rfl).trans ?_
    exact hb_r_vret (hb_fe_ok (r := (.return_, 1, 0, 0, 0, 0, 0)) (by decide +kernel))
set_option maxRecDepth 8000 in
theorem e57_0  (σ : hbM) (x1 : Int32) : hb_run hbSH 57 (0, [.ref 50, .int x1, .null, .null, .null], [], σ) = hb_run hbSH 57 (7, [.ref 50, .int x1, .int 0, .int x1, .int 0], [], σ) := by
  refine (hb_blk [(.iconst 0, 1, 0, 0, 0, 0, 0), (.istore_n 2, 1, 2, 0, 0, 0, 0), (.iload_n 1, 1, 1, 0, 0, 0, 0), (.istore_n 3, 1, 3, 0, 0, 0, 0), (.iconst 0, 1, 0, 0, 0, 0, 0), (.istore 4, 2, 4, 0, 0, 0, 0)] (pe := 7) (gs := []) (loc' := [.ref 50, .int x1, .int 0, .int x1, .int 0]) (stk' := []) (σ' := σ) (by decide +kernel) rfl).trans ?_
  exact rfl
set_option maxRecDepth 8000 in
theorem e57_7  (σ : hbM) (x1 : Int32) (x2 : Int32) (x3 : Int32) (x4 : Int32) : hb_run hbSH 57 (7, [.ref 50, .int x1, .int x2, .int x3, .int x4], [], σ) = if ((17408 : Int32) < x4) then (hb_run hbSH 57 (77, [.ref 50, .int x1, .int x2, .int x1, .int 0], [], σ)) else (if (¬ x2 = (0 : Int32)) then (hb_run hbSH 57 (77, [.ref 50, .int x1, .int x2, .int x1, .int 0], [], σ)) else (hb_ci (hb_ev hbSH 58 [.ref 50, .int x3] σ) (fun y21 σ21 => if (¬ y21 = (1 : Int32)) then (if (¬ y21 = (0 : Int32)) then (hb_run hbSH 57 (7, [.ref 50, .int x1, .int y21, .int x3, .int (x4 + (1 : Int32))], [], σ21)) else (hb_cv (hb_ev hbSH 59 [.ref 50, .int x3, .int 1] σ21) (fun σ42 => hb_ci (hb_ev hbSH 8 [.ref 36, .int x3] σ42) (fun y50 σ50 => if (¬ y50 = (-1000000 : Int32)) then (hb_run hbSH 57 (7, [.ref 50, .int x1, .int 0, .int y50, .int (x4 + (1 : Int32))], [], σ50)) else (hb_run hbSH 57 (7, [.ref 50, .int x1, .int 2, .int y50, .int (x4 + (1 : Int32))], [], σ50)))))) else (hb_run hbSH 57 (7, [.ref 50, .int x1, .int 3, .int x3, .int (x4 + (1 : Int32))], [], σ21))))) := by
  refine (hb_blk [(.iload 4, 2, 4, 0, 0, 0, 0), (.sipush 17408, 3, 0, 0, 0, 17408, 0)] (pe := 12) (gs := []) (loc' := [.ref 50, .int x1, .int x2, .int x3, .int x4]) (stk' := [.int 17408, .int x4]) (σ' := σ) (by decide +kernel) rfl).trans ?_
  refine hb_br (hb_fe_ok (r := (.if_icmp .gt 60, 3, 72, 0, 0, 0, 0)) (by decide +kernel)) rfl ?_ ?_
  · refine (hb_blk [(.iload_n 1, 1, 1, 0, 0, 0, 0), (.istore_n 3, 1, 3, 0, 0, 0, 0), (.iconst 0, 1, 0, 0, 0, 0, 0), (.istore 4, 2, 4, 0, 0, 0, 0)] (pe := 77) (gs := []) (loc' := [.ref 50, .int x1, .int x2, .int x1, .int 0]) (stk' := []) (σ' := σ) (by decide +kernel) rfl).trans ?_
    exact rfl
  · refine (hb_blk [(.iload_n 2, 1, 2, 0, 0, 0, 0)] (pe := 16) (gs := []) (loc' := [.ref 50, .int x1, .int x2, .int x3, .int x4]) (stk' := [.int x2]) (σ' := σ) (by decide +kernel) rfl).trans ?_
    refine hb_br0 (hb_fe_ok (r := (.ifCond .ne 56, 3, 72, 0, 0, 0, 0)) (by decide +kernel)) rfl ?_ ?_
    · refine (hb_blk [(.iload_n 1, 1, 1, 0, 0, 0, 0), (.istore_n 3, 1, 3, 0, 0, 0, 0), (.iconst 0, 1, 0, 0, 0, 0, 0), (.istore 4, 2, 4, 0, 0, 0, 0)] (pe := 77) (gs := []) (loc' := [.ref 50, .int x1, .int x2, .int x1, .int 0]) (stk' := []) (σ' := σ) (by decide +kernel) rfl).trans ?_
      exact rfl
    · refine (hb_blk [(.aload_n 0, 1, 0, 0, 0, 0, 0), (.iload_n 3, 1, 3, 0, 0, 0, 0)] (pe := 21) (gs := []) (loc' := [.ref 50, .int x1, .int x2, .int x3, .int x4]) (stk' := [.int x3, .ref 50]) (σ' := σ) (by decide +kernel) rfl).trans ?_
      refine hb_Vi (hb_fe_ok (r := (.invokevirtual 112, 3, 58, 1, 0, 0, 0)) (by decide +kernel)) (by decide +kernel) (as := [.int x3]) (v := .ref 50) (rest := []) rfl rfl (Nat.le_of_ble_eq_true rfl) (fun y21 σ21 => ?_)
      refine (hb_blk [(.istore_n 2, 1, 2, 0, 0, 0, 0), (.iload_n 2, 1, 2, 0, 0, 0, 0), (.iconst 1, 1, 0, 0, 0, 1, 0)] (pe := 27) (gs := []) (loc' := [.ref 50, .int x1, .int y21, .int x3, .int x4]) (stk' := [.int 1, .int y21]) (σ' := σ21) (by decide +kernel) rfl).trans ?_
      refine hb_br (hb_fe_ok (r := (.if_icmp .ne 8, 3, 35, 0, 0, 0, 0)) (by decide +kernel)) rfl ?_ ?_
      · refine (hb_blk [(.iload_n 2, 1, 2, 0, 0, 0, 0)] (pe := 36) (gs := []) (loc' := [.ref 50, .int x1, .int y21, .int x3, .int x4]) (stk' := [.int y21]) (σ' := σ21) (by decide +kernel) rfl).trans ?_
        refine hb_br0 (hb_fe_ok (r := (.ifCond .ne 30, 3, 66, 0, 0, 0, 0)) (by decide +kernel)) rfl ?_ ?_
        · refine (hb_blk [(.iinc 4 1, 3, 4, 0, 0, 1, 0)] (pe := 69) (gs := []) (loc' := [.ref 50, .int x1, .int y21, .int x3, .int (x4 + (1 : Int32))]) (stk' := []) (σ' := σ21) (by decide +kernel) rfl).trans ?_
          refine (hb_r_goto (hb_fe_ok (r := (.goto (-62), 3, 7, 0, 0, 0, 0)) (by decide +kernel))).trans ?_
          exact rfl
        · refine (hb_blk [(.aload_n 0, 1, 0, 0, 0, 0, 0), (.iload_n 3, 1, 3, 0, 0, 0, 0), (.iconst 1, 1, 0, 0, 0, 1, 0)] (pe := 42) (gs := []) (loc' := [.ref 50, .int x1, .int y21, .int x3, .int x4]) (stk' := [.int 1, .int x3, .ref 50]) (σ' := σ21) (by decide +kernel) rfl).trans ?_
          refine hb_Vv (hb_fe_ok (r := (.invokevirtual 115, 3, 59, 2, 0, 0, 0)) (by decide +kernel)) (by decide +kernel) (as := [.int x3, .int 1]) (v := .ref 50) (rest := []) rfl rfl (Nat.le_of_ble_eq_true rfl) (fun σ42 => ?_)
          refine (hb_blk [(.aload_n 0, 1, 0, 0, 0, 0, 0), (.getfield 18, 3, 8, 0, 0, 0, 0), (.iload_n 3, 1, 3, 0, 0, 0, 0)] (pe := 50) (gs := []) (loc' := [.ref 50, .int x1, .int y21, .int x3, .int x4]) (stk' := [.int x3, .ref 36]) (σ' := σ42) (by decide +kernel) rfl).trans ?_
          refine hb_Vi (hb_fe_ok (r := (.invokevirtual 96, 3, 8, 1, 0, 0, 0)) (by decide +kernel)) (by decide +kernel) (as := [.int x3]) (v := .ref 36) (rest := []) rfl rfl (Nat.le_of_ble_eq_true rfl) (fun y50 σ50 => ?_)
          refine (hb_blk [(.istore_n 3, 1, 3, 0, 0, 0, 0), (.iload_n 3, 1, 3, 0, 0, 0, 0), (.ldc 81, 2, 0, 0, 0, (-1000000), 0)] (pe := 57) (gs := []) (loc' := [.ref 50, .int x1, .int y21, .int y50, .int x4]) (stk' := [.int (-1000000), .int y50]) (σ' := σ50) (by decide +kernel) rfl).trans ?_
          refine hb_br (hb_fe_ok (r := (.if_icmp .ne 7, 3, 64, 0, 0, 0, 0)) (by decide +kernel)) rfl ?_ ?_
          · refine (hb_blk [(.iconst 0, 1, 0, 0, 0, 0, 0)] (pe := 65) (gs := []) (loc' := [.ref 50, .int x1, .int y21, .int y50, .int x4]) (stk' := [.int 0]) (σ' := σ50) (by decide +kernel) rfl).trans ?_
            refine (hb_blk [(.istore_n 2, 1, 2, 0, 0, 0, 0)] (pe := 66) (gs := []) (loc' := [.ref 50, .int x1, .int 0, .int y50, .int x4]) (stk' := []) (σ' := σ50) (by decide +kernel) rfl).trans ?_
            refine (hb_blk [(.iinc 4 1, 3, 4, 0, 0, 1, 0)] (pe := 69) (gs := []) (loc' := [.ref 50, .int x1, .int 0, .int y50, .int (x4 + (1 : Int32))]) (stk' := []) (σ' := σ50) (by decide +kernel) rfl).trans ?_
            refine (hb_r_goto (hb_fe_ok (r := (.goto (-62), 3, 7, 0, 0, 0, 0)) (by decide +kernel))).trans ?_
            exact rfl
          · refine (hb_blk [(.iconst 2, 1, 0, 0, 0, 2, 0)] (pe := 61) (gs := []) (loc' := [.ref 50, .int x1, .int y21, .int y50, .int x4]) (stk' := [.int 2]) (σ' := σ50) (by decide +kernel) rfl).trans ?_
            refine (hb_r_goto (hb_fe_ok (r := (.goto 4, 3, 65, 0, 0, 0, 0)) (by decide +kernel))).trans ?_
            refine (hb_blk [(.istore_n 2, 1, 2, 0, 0, 0, 0)] (pe := 66) (gs := []) (loc' := [.ref 50, .int x1, .int 2, .int y50, .int x4]) (stk' := []) (σ' := σ50) (by decide +kernel) rfl).trans ?_
            refine (hb_blk [(.iinc 4 1, 3, 4, 0, 0, 1, 0)] (pe := 69) (gs := []) (loc' := [.ref 50, .int x1, .int 2, .int y50, .int (x4 + (1 : Int32))]) (stk' := []) (σ' := σ50) (by decide +kernel) rfl).trans ?_
            refine (hb_r_goto (hb_fe_ok (r := (.goto (-62), 3, 7, 0, 0, 0, 0)) (by decide +kernel))).trans ?_
            exact rfl
      · refine (hb_blk [(.iconst 3, 1, 0, 0, 0, 3, 0), (.istore_n 2, 1, 2, 0, 0, 0, 0)] (pe := 32) (gs := []) (loc' := [.ref 50, .int x1, .int 3, .int x3, .int x4]) (stk' := []) (σ' := σ21) (by decide +kernel) rfl).trans ?_
        refine (hb_r_goto (hb_fe_ok (r := (.goto 34, 3, 66, 0, 0, 0, 0)) (by decide +kernel))).trans ?_
        refine (hb_blk [(.iinc 4 1, 3, 4, 0, 0, 1, 0)] (pe := 69) (gs := []) (loc' := [.ref 50, .int x1, .int 3, .int x3, .int (x4 + (1 : Int32))]) (stk' := []) (σ' := σ21) (by decide +kernel) rfl).trans ?_
        refine (hb_r_goto (hb_fe_ok (r := (.goto (-62), 3, 7, 0, 0, 0, 0)) (by decide +kernel))).trans ?_
        exact rfl
set_option maxRecDepth 8000 in
theorem e57_77  (σ : hbM) (x1 : Int32) (x2 : Int32) (x3 : Int32) (x4 : Int32) : hb_run hbSH 57 (77, [.ref 50, .int x1, .int x2, .int x3, .int x4], [], σ) = if ((17408 : Int32) < x4) then (some (some (.int x2), σ)) else (if (x3 = (-1000000 : Int32)) then (some (some (.int x2), σ)) else (hb_ci (hb_ev hbSH 58 [.ref 50, .int x3] σ) (fun y93 σ93 => if (¬ y93 = (1 : Int32)) then (some (some (.int x2), σ93)) else (hb_cv (hb_ev hbSH 59 [.ref 50, .int x3, .int x2] σ93) (fun σ103 => hb_ci (hb_ev hbSH 8 [.ref 36, .int x3] σ103) (fun y111 σ111 => hb_run hbSH 57 (77, [.ref 50, .int x1, .int x2, .int y111, .int (x4 + (1 : Int32))], [], σ111))))))) := by
  refine (hb_blk [(.iload 4, 2, 4, 0, 0, 0, 0), (.sipush 17408, 3, 0, 0, 0, 17408, 0)] (pe := 82) (gs := []) (loc' := [.ref 50, .int x1, .int x2, .int x3, .int x4]) (stk' := [.int 17408, .int x4]) (σ' := σ) (by decide +kernel) rfl).trans ?_
  refine hb_br (hb_fe_ok (r := (.if_icmp .gt 39, 3, 121, 0, 0, 0, 0)) (by decide +kernel)) rfl ?_ ?_
  · refine (hb_blk [(.iload_n 2, 1, 2, 0, 0, 0, 0)] (pe := 122) (gs := []) (loc' := [.ref 50, .int x1, .int x2, .int x3, .int x4]) (stk' := [.int x2]) (σ' := σ) (by decide +kernel) rfl).trans ?_
    exact hb_r_iret (hb_fe_ok (r := (.ireturn, 1, 0, 0, 0, 0, 0)) (by decide +kernel))
  · refine (hb_blk [(.iload_n 3, 1, 3, 0, 0, 0, 0), (.ldc 81, 2, 0, 0, 0, (-1000000), 0)] (pe := 88) (gs := []) (loc' := [.ref 50, .int x1, .int x2, .int x3, .int x4]) (stk' := [.int (-1000000), .int x3]) (σ' := σ) (by decide +kernel) rfl).trans ?_
    refine hb_br (hb_fe_ok (r := (.if_icmp .eq 33, 3, 121, 0, 0, 0, 0)) (by decide +kernel)) rfl ?_ ?_
    · refine (hb_blk [(.iload_n 2, 1, 2, 0, 0, 0, 0)] (pe := 122) (gs := []) (loc' := [.ref 50, .int x1, .int x2, .int x3, .int x4]) (stk' := [.int x2]) (σ' := σ) (by decide +kernel) rfl).trans ?_
      exact hb_r_iret (hb_fe_ok (r := (.ireturn, 1, 0, 0, 0, 0, 0)) (by decide +kernel))
    · refine (hb_blk [(.aload_n 0, 1, 0, 0, 0, 0, 0), (.iload_n 3, 1, 3, 0, 0, 0, 0)] (pe := 93) (gs := []) (loc' := [.ref 50, .int x1, .int x2, .int x3, .int x4]) (stk' := [.int x3, .ref 50]) (σ' := σ) (by decide +kernel) rfl).trans ?_
      refine hb_Vi (hb_fe_ok (r := (.invokevirtual 112, 3, 58, 1, 0, 0, 0)) (by decide +kernel)) (by decide +kernel) (as := [.int x3]) (v := .ref 50) (rest := []) rfl rfl (Nat.le_of_ble_eq_true rfl) (fun y93 σ93 => ?_)
      refine (hb_blk [(.iconst 1, 1, 0, 0, 0, 1, 0)] (pe := 97) (gs := []) (loc' := [.ref 50, .int x1, .int x2, .int x3, .int x4]) (stk' := [.int 1, .int y93]) (σ' := σ93) (by decide +kernel) rfl).trans ?_
      refine hb_br (hb_fe_ok (r := (.if_icmp .ne 24, 3, 121, 0, 0, 0, 0)) (by decide +kernel)) rfl ?_ ?_
      · refine (hb_blk [(.iload_n 2, 1, 2, 0, 0, 0, 0)] (pe := 122) (gs := []) (loc' := [.ref 50, .int x1, .int x2, .int x3, .int x4]) (stk' := [.int x2]) (σ' := σ93) (by decide +kernel) rfl).trans ?_
        exact hb_r_iret (hb_fe_ok (r := (.ireturn, 1, 0, 0, 0, 0, 0)) (by decide +kernel))
      · refine (hb_blk [(.aload_n 0, 1, 0, 0, 0, 0, 0), (.iload_n 3, 1, 3, 0, 0, 0, 0), (.iload_n 2, 1, 2, 0, 0, 0, 0)] (pe := 103) (gs := []) (loc' := [.ref 50, .int x1, .int x2, .int x3, .int x4]) (stk' := [.int x2, .int x3, .ref 50]) (σ' := σ93) (by decide +kernel) rfl).trans ?_
        refine hb_Vv (hb_fe_ok (r := (.invokevirtual 115, 3, 59, 2, 0, 0, 0)) (by decide +kernel)) (by decide +kernel) (as := [.int x3, .int x2]) (v := .ref 50) (rest := []) rfl rfl (Nat.le_of_ble_eq_true rfl) (fun σ103 => ?_)
        refine (hb_blk [(.aload_n 0, 1, 0, 0, 0, 0, 0), (.getfield 18, 3, 8, 0, 0, 0, 0), (.iload_n 3, 1, 3, 0, 0, 0, 0)] (pe := 111) (gs := []) (loc' := [.ref 50, .int x1, .int x2, .int x3, .int x4]) (stk' := [.int x3, .ref 36]) (σ' := σ103) (by decide +kernel) rfl).trans ?_
        refine hb_Vi (hb_fe_ok (r := (.invokevirtual 96, 3, 8, 1, 0, 0, 0)) (by decide +kernel)) (by decide +kernel) (as := [.int x3]) (v := .ref 36) (rest := []) rfl rfl (Nat.le_of_ble_eq_true rfl) (fun y111 σ111 => ?_)
        refine (hb_blk [(.istore_n 3, 1, 3, 0, 0, 0, 0), (.iinc 4 1, 3, 4, 0, 0, 1, 0)] (pe := 118) (gs := []) (loc' := [.ref 50, .int x1, .int x2, .int y111, .int (x4 + (1 : Int32))]) (stk' := []) (σ' := σ111) (by decide +kernel) rfl).trans ?_
        refine (hb_r_goto (hb_fe_ok (r := (.goto (-41), 3, 77, 0, 0, 0, 0)) (by decide +kernel))).trans ?_
        exact rfl
set_option maxRecDepth 8000 in
theorem e58_0  (σ : hbM) (x1 : Int32) : hb_run hbSH 58 (0, [.ref 50, .int x1, .null], [], σ) = hb_g [hb_in x1 17408] (if (¬ ((σ 52 (Int32.toNatClampNeg x1)) >>> (2 : Int32)) = (σ 44 4)) then (some (some (.int 0), σ)) else (some (some (.int ((σ 52 (Int32.toNatClampNeg x1)) &&& (3 : Int32))), σ))) := by
  refine (hb_blk [(.aload_n 0, 1, 0, 0, 0, 0, 0), (.getfield 15, 3, 8, 4, 0, 0, 0), (.iload_n 1, 1, 1, 0, 0, 0, 0), (.iaload, 1, 0, 0, 0, 0, 0), (.istore_n 2, 1, 2, 0, 0, 0, 0), (.iload_n 2, 1, 2, 0, 0, 0, 0), (.iconst 2, 1, 0, 0, 0, 2, 0), (.ishr, 1, 0, 0, 0, 0, 0), (.aload_n 0, 1, 0, 0, 0, 0, 0), (.getfield 29, 3, 8, 2, 0, 0, 0), (.getfield 106, 3, 4, 4, 0, 0, 0)] (pe := 17) (gs := [hb_in x1 17408]) (loc' := [.ref 50, .int x1, .int (σ 52 (Int32.toNatClampNeg x1))]) (stk' := [.int (σ 44 4), .int ((σ 52 (Int32.toNatClampNeg x1)) >>> (2 : Int32))]) (σ' := σ) (by decide +kernel) rfl).trans ?_
  refine congrArg (hb_g _) ?_
  refine hb_br (hb_fe_ok (r := (.if_icmp .ne 9, 3, 26, 0, 0, 0, 0)) (by decide +kernel)) rfl ?_ ?_
  · refine (hb_blk [(.iconst 0, 1, 0, 0, 0, 0, 0)] (pe := 27) (gs := []) (loc' := [.ref 50, .int x1, .int (σ 52 (Int32.toNatClampNeg x1))]) (stk' := [.int 0]) (σ' := σ) (by decide +kernel) rfl).trans ?_
    exact hb_r_iret (hb_fe_ok (r := (.ireturn, 1, 0, 0, 0, 0, 0)) (by decide +kernel))
  · refine (hb_blk [(.iload_n 2, 1, 2, 0, 0, 0, 0), (.iconst 3, 1, 0, 0, 0, 3, 0), (.iand, 1, 0, 0, 0, 0, 0)] (pe := 23) (gs := []) (loc' := [.ref 50, .int x1, .int (σ 52 (Int32.toNatClampNeg x1))]) (stk' := [.int ((σ 52 (Int32.toNatClampNeg x1)) &&& (3 : Int32))]) (σ' := σ) (by decide +kernel) rfl).trans ?_
    refine (hb_r_goto (hb_fe_ok (r := (.goto 4, 3, 27, 0, 0, 0, 0)) (by decide +kernel))).trans ?_
    exact hb_r_iret (hb_fe_ok (r := (.ireturn, 1, 0, 0, 0, 0, 0)) (by decide +kernel))
set_option maxRecDepth 8000 in
theorem e59_0  (σ : hbM) (x1 : Int32) (x2 : Int32) : hb_run hbSH 59 (0, [.ref 50, .int x1, .int x2], [], σ) = hb_g [hb_in x1 17408] (some (none, (hb_up σ 52 (Int32.toNatClampNeg x1) (((σ 44 4) <<< (2 : Int32)) ||| x2)))) := by
  refine (hb_blk [(.aload_n 0, 1, 0, 0, 0, 0, 0), (.getfield 15, 3, 8, 4, 0, 0, 0), (.iload_n 1, 1, 1, 0, 0, 0, 0), (.aload_n 0, 1, 0, 0, 0, 0, 0), (.getfield 29, 3, 8, 2, 0, 0, 0), (.getfield 106, 3, 4, 4, 0, 0, 0), (.iconst 2, 1, 0, 0, 0, 2, 0), (.ishl, 1, 0, 0, 0, 0, 0), (.iload_n 2, 1, 2, 0, 0, 0, 0), (.ior, 1, 0, 0, 0, 0, 0), (.iastore, 1, 0, 0, 0, 0, 0)] (pe := 17) (gs := [hb_in x1 17408]) (loc' := [.ref 50, .int x1, .int x2]) (stk' := []) (σ' := (hb_up σ 52 (Int32.toNatClampNeg x1) (((σ 44 4) <<< (2 : Int32)) ||| x2))) (by decide +kernel) rfl).trans ?_
  refine congrArg (hb_g _) ?_
  exact hb_r_vret (hb_fe_ok (r := (.return_, 1, 0, 0, 0, 0, 0)) (by decide +kernel))
set_option maxRecDepth 8000 in
theorem e60_0  (σ : hbM) (x1 : Int32) : hb_run hbSH 60 (0, [.ref 50, .int x1, .null, .null, .null, .null, .null], [], σ) = hb_ci (hb_ev hbSH 62 [.ref 50, .int x1, .int 0] σ) (fun y6 σ6 => if (y6 = (0 : Int32)) then (hb_run hbSH 60 (22, [.ref 50, .int x1, .int 16, .int (-1000000), .int 0, .null, .null], [], σ6)) else (hb_run hbSH 60 (22, [.ref 50, .int x1, .int 16, .int 0, .int 0, .null, .null], [], σ6))) := by
  refine (hb_blk [(.bipush 16, 2, 0, 0, 0, 16, 0), (.istore_n 2, 1, 2, 0, 0, 0, 0), (.aload_n 0, 1, 0, 0, 0, 0, 0), (.iload_n 1, 1, 1, 0, 0, 0, 0), (.iconst 0, 1, 0, 0, 0, 0, 0)] (pe := 6) (gs := []) (loc' := [.ref 50, .int x1, .int 16, .null, .null, .null, .null]) (stk' := [.int 0, .int x1, .ref 50]) (σ' := σ) (by decide +kernel) rfl).trans ?_
  refine hb_Vi (hb_fe_ok (r := (.invokevirtual 119, 3, 62, 2, 0, 0, 0)) (by decide +kernel)) (by decide +kernel) (as := [.int x1, .int 0]) (v := .ref 50) (rest := []) rfl rfl (Nat.le_of_ble_eq_true rfl) (fun y6 σ6 => ?_)
  refine hb_br0 (hb_fe_ok (r := (.ifCond .eq 7, 3, 16, 0, 0, 0, 0)) (by decide +kernel)) rfl ?_ ?_
  · refine (hb_blk [(.ldc 81, 2, 0, 0, 0, (-1000000), 0)] (pe := 18) (gs := []) (loc' := [.ref 50, .int x1, .int 16, .null, .null, .null, .null]) (stk' := [.int (-1000000)]) (σ' := σ6) (by decide +kernel) rfl).trans ?_
    refine (hb_blk [(.istore_n 3, 1, 3, 0, 0, 0, 0), (.iconst 0, 1, 0, 0, 0, 0, 0), (.istore 4, 2, 4, 0, 0, 0, 0)] (pe := 22) (gs := []) (loc' := [.ref 50, .int x1, .int 16, .int (-1000000), .int 0, .null, .null]) (stk' := []) (σ' := σ6) (by decide +kernel) rfl).trans ?_
    exact rfl
  · refine (hb_blk [(.iconst 0, 1, 0, 0, 0, 0, 0)] (pe := 13) (gs := []) (loc' := [.ref 50, .int x1, .int 16, .null, .null, .null, .null]) (stk' := [.int 0]) (σ' := σ6) (by decide +kernel) rfl).trans ?_
    refine (hb_r_goto (hb_fe_ok (r := (.goto 5, 3, 18, 0, 0, 0, 0)) (by decide +kernel))).trans ?_
    refine (hb_blk [(.istore_n 3, 1, 3, 0, 0, 0, 0), (.iconst 0, 1, 0, 0, 0, 0, 0), (.istore 4, 2, 4, 0, 0, 0, 0)] (pe := 22) (gs := []) (loc' := [.ref 50, .int x1, .int 16, .int 0, .int 0, .null, .null]) (stk' := []) (σ' := σ6) (by decide +kernel) rfl).trans ?_
    exact rfl
set_option maxRecDepth 8000 in
theorem e60_22  (σ : hbM) (x1 : Int32) (x2 : Int32) (x3 : Int32) (x4 : Int32) : hb_run hbSH 60 (22, [.ref 50, .int x1, .int x2, .int x3, .int x4, .null, .null], [], σ) = if (x2 ≤ x4) then (hb_run hbSH 60 (74, [.ref 50, .int x1, .int x2, .int x3, .int 0, .null, .null], [], σ)) else (if (¬ x3 = (-1000000 : Int32)) then (hb_run hbSH 60 (74, [.ref 50, .int x1, .int x2, .int x3, .int 0, .null, .null], [], σ)) else (hb_ci (hb_ev hbSH 61 [.ref 50, .int x4] σ) (fun y37 σ37 => if (y37 = (0 : Int32)) then (hb_run hbSH 60 (22, [.ref 50, .int x1, .int x2, .int (-1000000), .int (x4 + (1 : Int32)), .null, .null], [], σ37)) else (hb_ci (hb_ev hbSH 62 [.ref 50, .int x1, .int ((1 : Int32) <<< (x4 &&& 31))] σ37) (fun y49 σ49 => if (y49 = (0 : Int32)) then (hb_run hbSH 60 (22, [.ref 50, .int x1, .int x2, .int (-1000000), .int (x4 + (1 : Int32)), .null, .null], [], σ49)) else (hb_run hbSH 60 (22, [.ref 50, .int x1, .int x2, .int ((1 : Int32) <<< (x4 &&& 31)), .int (x4 + (1 : Int32)), .null, .null], [], σ49))))))) := by
  refine (hb_blk [(.iload 4, 2, 4, 0, 0, 0, 0), (.iload_n 2, 1, 2, 0, 0, 0, 0)] (pe := 25) (gs := []) (loc' := [.ref 50, .int x1, .int x2, .int x3, .int x4, .null, .null]) (stk' := [.int x2, .int x4]) (σ' := σ) (by decide +kernel) rfl).trans ?_
  refine hb_br (hb_fe_ok (r := (.if_icmp .ge 46, 3, 71, 0, 0, 0, 0)) (by decide +kernel)) rfl ?_ ?_
  · refine (hb_blk [(.iconst 0, 1, 0, 0, 0, 0, 0), (.istore 4, 2, 4, 0, 0, 0, 0)] (pe := 74) (gs := []) (loc' := [.ref 50, .int x1, .int x2, .int x3, .int 0, .null, .null]) (stk' := []) (σ' := σ) (by decide +kernel) rfl).trans ?_
    exact rfl
  · refine (hb_blk [(.iload_n 3, 1, 3, 0, 0, 0, 0), (.ldc 81, 2, 0, 0, 0, (-1000000), 0)] (pe := 31) (gs := []) (loc' := [.ref 50, .int x1, .int x2, .int x3, .int x4, .null, .null]) (stk' := [.int (-1000000), .int x3]) (σ' := σ) (by decide +kernel) rfl).trans ?_
    refine hb_br (hb_fe_ok (r := (.if_icmp .ne 40, 3, 71, 0, 0, 0, 0)) (by decide +kernel)) rfl ?_ ?_
    · refine (hb_blk [(.iconst 0, 1, 0, 0, 0, 0, 0), (.istore 4, 2, 4, 0, 0, 0, 0)] (pe := 74) (gs := []) (loc' := [.ref 50, .int x1, .int x2, .int x3, .int 0, .null, .null]) (stk' := []) (σ' := σ) (by decide +kernel) rfl).trans ?_
      exact rfl
    · refine (hb_blk [(.aload_n 0, 1, 0, 0, 0, 0, 0), (.iload 4, 2, 4, 0, 0, 0, 0)] (pe := 37) (gs := []) (loc' := [.ref 50, .int x1, .int x2, .int x3, .int x4, .null, .null]) (stk' := [.int x4, .ref 50]) (σ' := σ) (by decide +kernel) rfl).trans ?_
      refine hb_Vi (hb_fe_ok (r := (.invokevirtual 122, 3, 61, 1, 0, 0, 0)) (by decide +kernel)) (by decide +kernel) (as := [.int x4]) (v := .ref 50) (rest := []) rfl rfl (Nat.le_of_ble_eq_true rfl) (fun y37 σ37 => ?_)
      refine hb_br0 (hb_fe_ok (r := (.ifCond .eq 22, 3, 62, 0, 0, 0, 0)) (by decide +kernel)) rfl ?_ ?_
      · refine (hb_blk [(.ldc 81, 2, 0, 0, 0, (-1000000), 0)] (pe := 64) (gs := []) (loc' := [.ref 50, .int x1, .int x2, .int x3, .int x4, .null, .null]) (stk' := [.int (-1000000)]) (σ' := σ37) (by decide +kernel) rfl).trans ?_
        refine (hb_blk [(.istore_n 3, 1, 3, 0, 0, 0, 0), (.iinc 4 1, 3, 4, 0, 0, 1, 0)] (pe := 68) (gs := []) (loc' := [.ref 50, .int x1, .int x2, .int (-1000000), .int (x4 + (1 : Int32)), .null, .null]) (stk' := []) (σ' := σ37) (by decide +kernel) rfl).trans ?_
        refine (hb_r_goto (hb_fe_ok (r := (.goto (-46), 3, 22, 0, 0, 0, 0)) (by decide +kernel))).trans ?_
        exact rfl
      · refine (hb_blk [(.aload_n 0, 1, 0, 0, 0, 0, 0), (.iload_n 1, 1, 1, 0, 0, 0, 0), (.iconst 1, 1, 0, 0, 0, 1, 0), (.iload 4, 2, 4, 0, 0, 0, 0), (.ishl, 1, 0, 0, 0, 0, 0)] (pe := 49) (gs := []) (loc' := [.ref 50, .int x1, .int x2, .int x3, .int x4, .null, .null]) (stk' := [.int ((1 : Int32) <<< (x4 &&& 31)), .int x1, .ref 50]) (σ' := σ37) (by decide +kernel) rfl).trans ?_
        refine hb_Vi (hb_fe_ok (r := (.invokevirtual 119, 3, 62, 2, 0, 0, 0)) (by decide +kernel)) (by decide +kernel) (as := [.int x1, .int ((1 : Int32) <<< (x4 &&& 31))]) (v := .ref 50) (rest := []) rfl rfl (Nat.le_of_ble_eq_true rfl) (fun y49 σ49 => ?_)
        refine hb_br0 (hb_fe_ok (r := (.ifCond .eq 10, 3, 62, 0, 0, 0, 0)) (by decide +kernel)) rfl ?_ ?_
        · refine (hb_blk [(.ldc 81, 2, 0, 0, 0, (-1000000), 0)] (pe := 64) (gs := []) (loc' := [.ref 50, .int x1, .int x2, .int x3, .int x4, .null, .null]) (stk' := [.int (-1000000)]) (σ' := σ49) (by decide +kernel) rfl).trans ?_
          refine (hb_blk [(.istore_n 3, 1, 3, 0, 0, 0, 0), (.iinc 4 1, 3, 4, 0, 0, 1, 0)] (pe := 68) (gs := []) (loc' := [.ref 50, .int x1, .int x2, .int (-1000000), .int (x4 + (1 : Int32)), .null, .null]) (stk' := []) (σ' := σ49) (by decide +kernel) rfl).trans ?_
          refine (hb_r_goto (hb_fe_ok (r := (.goto (-46), 3, 22, 0, 0, 0, 0)) (by decide +kernel))).trans ?_
          exact rfl
        · refine (hb_blk [(.iconst 1, 1, 0, 0, 0, 1, 0), (.iload 4, 2, 4, 0, 0, 0, 0), (.ishl, 1, 0, 0, 0, 0, 0)] (pe := 59) (gs := []) (loc' := [.ref 50, .int x1, .int x2, .int x3, .int x4, .null, .null]) (stk' := [.int ((1 : Int32) <<< (x4 &&& 31))]) (σ' := σ49) (by decide +kernel) rfl).trans ?_
          refine (hb_r_goto (hb_fe_ok (r := (.goto 5, 3, 64, 0, 0, 0, 0)) (by decide +kernel))).trans ?_
          refine (hb_blk [(.istore_n 3, 1, 3, 0, 0, 0, 0), (.iinc 4 1, 3, 4, 0, 0, 1, 0)] (pe := 68) (gs := []) (loc' := [.ref 50, .int x1, .int x2, .int ((1 : Int32) <<< (x4 &&& 31)), .int (x4 + (1 : Int32)), .null, .null]) (stk' := []) (σ' := σ49) (by decide +kernel) rfl).trans ?_
          refine (hb_r_goto (hb_fe_ok (r := (.goto (-46), 3, 22, 0, 0, 0, 0)) (by decide +kernel))).trans ?_
          exact rfl
set_option maxRecDepth 8000 in
theorem e60_74  (σ : hbM) (x1 : Int32) (x2 : Int32) (x3 : Int32) (x4 : Int32) (v5 : Value) (v6 : Value) : hb_run hbSH 60 (74, [.ref 50, .int x1, .int x2, .int x3, .int x4, v5, v6], [], σ) = if (x2 ≤ x4) then (some (some (.int x3), σ)) else (if (¬ x3 = (-1000000 : Int32)) then (some (some (.int x3), σ)) else (hb_run hbSH 60 (89, [.ref 50, .int x1, .int x2, .int x3, .int x4, .int 0, v6], [], σ))) := by
  refine (hb_blk [(.iload 4, 2, 4, 0, 0, 0, 0), (.iload_n 2, 1, 2, 0, 0, 0, 0)] (pe := 77) (gs := []) (loc' := [.ref 50, .int x1, .int x2, .int x3, .int x4, v5, v6]) (stk' := [.int x2, .int x4]) (σ' := σ) (by decide +kernel) rfl).trans ?_
  refine hb_br (hb_fe_ok (r := (.if_icmp .ge 84, 3, 161, 0, 0, 0, 0)) (by decide +kernel)) rfl ?_ ?_
  · refine (hb_blk [(.iload_n 3, 1, 3, 0, 0, 0, 0)] (pe := 162) (gs := []) (loc' := [.ref 50, .int x1, .int x2, .int x3, .int x4, v5, v6]) (stk' := [.int x3]) (σ' := σ) (by decide +kernel) rfl).trans ?_
    exact hb_r_iret (hb_fe_ok (r := (.ireturn, 1, 0, 0, 0, 0, 0)) (by decide +kernel))
  · refine (hb_blk [(.iload_n 3, 1, 3, 0, 0, 0, 0), (.ldc 81, 2, 0, 0, 0, (-1000000), 0)] (pe := 83) (gs := []) (loc' := [.ref 50, .int x1, .int x2, .int x3, .int x4, v5, v6]) (stk' := [.int (-1000000), .int x3]) (σ' := σ) (by decide +kernel) rfl).trans ?_
    refine hb_br (hb_fe_ok (r := (.if_icmp .ne 78, 3, 161, 0, 0, 0, 0)) (by decide +kernel)) rfl ?_ ?_
    · refine (hb_blk [(.iload_n 3, 1, 3, 0, 0, 0, 0)] (pe := 162) (gs := []) (loc' := [.ref 50, .int x1, .int x2, .int x3, .int x4, v5, v6]) (stk' := [.int x3]) (σ' := σ) (by decide +kernel) rfl).trans ?_
      exact hb_r_iret (hb_fe_ok (r := (.ireturn, 1, 0, 0, 0, 0, 0)) (by decide +kernel))
    · refine (hb_blk [(.iconst 0, 1, 0, 0, 0, 0, 0), (.istore 5, 2, 5, 0, 0, 0, 0)] (pe := 89) (gs := []) (loc' := [.ref 50, .int x1, .int x2, .int x3, .int x4, .int 0, v6]) (stk' := []) (σ' := σ) (by decide +kernel) rfl).trans ?_
      exact rfl
set_option maxRecDepth 8000 in
theorem e60_89  (σ : hbM) (x1 : Int32) (x2 : Int32) (x3 : Int32) (x4 : Int32) (x5 : Int32) (v6 : Value) : hb_run hbSH 60 (89, [.ref 50, .int x1, .int x2, .int x3, .int x4, .int x5, v6], [], σ) = if (x4 ≤ x5) then (hb_run hbSH 60 (74, [.ref 50, .int x1, .int x2, .int x3, .int (x4 + (1 : Int32)), .int x5, v6], [], σ)) else (if (¬ x3 = (-1000000 : Int32)) then (hb_run hbSH 60 (74, [.ref 50, .int x1, .int x2, .int x3, .int (x4 + (1 : Int32)), .int x5, v6], [], σ)) else (hb_ci (hb_ev hbSH 61 [.ref 50, .int x4] σ) (fun y116 σ116 => if (y116 = (0 : Int32)) then (hb_run hbSH 60 (89, [.ref 50, .int x1, .int x2, .int (-1000000), .int x4, .int (x5 + (1 : Int32)), .int (((1 : Int32) <<< (x4 &&& 31)) ||| ((1 : Int32) <<< (x5 &&& 31)))], [], σ116)) else (hb_ci (hb_ev hbSH 61 [.ref 50, .int x5] σ116) (fun y125 σ125 => if (y125 = (0 : Int32)) then (hb_run hbSH 60 (89, [.ref 50, .int x1, .int x2, .int (-1000000), .int x4, .int (x5 + (1 : Int32)), .int (((1 : Int32) <<< (x4 &&& 31)) ||| ((1 : Int32) <<< (x5 &&& 31)))], [], σ125)) else (hb_ci (hb_ev hbSH 62 [.ref 50, .int x1, .int (((1 : Int32) <<< (x4 &&& 31)) ||| ((1 : Int32) <<< (x5 &&& 31)))] σ125) (fun y135 σ135 => if (y135 = (0 : Int32)) then (hb_run hbSH 60 (89, [.ref 50, .int x1, .int x2, .int (-1000000), .int x4, .int (x5 + (1 : Int32)), .int (((1 : Int32) <<< (x4 &&& 31)) ||| ((1 : Int32) <<< (x5 &&& 31)))], [], σ135)) else (hb_run hbSH 60 (89, [.ref 50, .int x1, .int x2, .int (((1 : Int32) <<< (x4 &&& 31)) ||| ((1 : Int32) <<< (x5 &&& 31))), .int x4, .int (x5 + (1 : Int32)), .int (((1 : Int32) <<< (x4 &&& 31)) ||| ((1 : Int32) <<< (x5 &&& 31)))], [], σ135))))))))) := by
  refine (hb_blk [(.iload 5, 2, 5, 0, 0, 0, 0), (.iload 4, 2, 4, 0, 0, 0, 0)] (pe := 93) (gs := []) (loc' := [.ref 50, .int x1, .int x2, .int x3, .int x4, .int x5, v6]) (stk' := [.int x4, .int x5]) (σ' := σ) (by decide +kernel) rfl).trans ?_
  refine hb_br (hb_fe_ok (r := (.if_icmp .ge 62, 3, 155, 0, 0, 0, 0)) (by decide +kernel)) rfl ?_ ?_
  · refine (hb_blk [(.iinc 4 1, 3, 4, 0, 0, 1, 0)] (pe := 158) (gs := []) (loc' := [.ref 50, .int x1, .int x2, .int x3, .int (x4 + (1 : Int32)), .int x5, v6]) (stk' := []) (σ' := σ) (by decide +kernel) rfl).trans ?_
    refine (hb_r_goto (hb_fe_ok (r := (.goto (-84), 3, 74, 0, 0, 0, 0)) (by decide +kernel))).trans ?_
    exact rfl
  · refine (hb_blk [(.iload_n 3, 1, 3, 0, 0, 0, 0), (.ldc 81, 2, 0, 0, 0, (-1000000), 0)] (pe := 99) (gs := []) (loc' := [.ref 50, .int x1, .int x2, .int x3, .int x4, .int x5, v6]) (stk' := [.int (-1000000), .int x3]) (σ' := σ) (by decide +kernel) rfl).trans ?_
    refine hb_br (hb_fe_ok (r := (.if_icmp .ne 56, 3, 155, 0, 0, 0, 0)) (by decide +kernel)) rfl ?_ ?_
    · refine (hb_blk [(.iinc 4 1, 3, 4, 0, 0, 1, 0)] (pe := 158) (gs := []) (loc' := [.ref 50, .int x1, .int x2, .int x3, .int (x4 + (1 : Int32)), .int x5, v6]) (stk' := []) (σ' := σ) (by decide +kernel) rfl).trans ?_
      refine (hb_r_goto (hb_fe_ok (r := (.goto (-84), 3, 74, 0, 0, 0, 0)) (by decide +kernel))).trans ?_
      exact rfl
    · refine (hb_blk [(.iconst 1, 1, 0, 0, 0, 1, 0), (.iload 4, 2, 4, 0, 0, 0, 0), (.ishl, 1, 0, 0, 0, 0, 0), (.iconst 1, 1, 0, 0, 0, 1, 0), (.iload 5, 2, 5, 0, 0, 0, 0), (.ishl, 1, 0, 0, 0, 0, 0), (.ior, 1, 0, 0, 0, 0, 0), (.istore 6, 2, 6, 0, 0, 0, 0), (.aload_n 0, 1, 0, 0, 0, 0, 0), (.iload 4, 2, 4, 0, 0, 0, 0)] (pe := 116) (gs := []) (loc' := [.ref 50, .int x1, .int x2, .int x3, .int x4, .int x5, .int (((1 : Int32) <<< (x4 &&& 31)) ||| ((1 : Int32) <<< (x5 &&& 31)))]) (stk' := [.int x4, .ref 50]) (σ' := σ) (by decide +kernel) rfl).trans ?_
      refine hb_Vi (hb_fe_ok (r := (.invokevirtual 122, 3, 61, 1, 0, 0, 0)) (by decide +kernel)) (by decide +kernel) (as := [.int x4]) (v := .ref 50) (rest := []) rfl rfl (Nat.le_of_ble_eq_true rfl) (fun y116 σ116 => ?_)
      refine hb_br0 (hb_fe_ok (r := (.ifCond .eq 27, 3, 146, 0, 0, 0, 0)) (by decide +kernel)) rfl ?_ ?_
      · refine (hb_blk [(.ldc 81, 2, 0, 0, 0, (-1000000), 0)] (pe := 148) (gs := []) (loc' := [.ref 50, .int x1, .int x2, .int x3, .int x4, .int x5, .int (((1 : Int32) <<< (x4 &&& 31)) ||| ((1 : Int32) <<< (x5 &&& 31)))]) (stk' := [.int (-1000000)]) (σ' := σ116) (by decide +kernel) rfl).trans ?_
        refine (hb_blk [(.istore_n 3, 1, 3, 0, 0, 0, 0), (.iinc 5 1, 3, 5, 0, 0, 1, 0)] (pe := 152) (gs := []) (loc' := [.ref 50, .int x1, .int x2, .int (-1000000), .int x4, .int (x5 + (1 : Int32)), .int (((1 : Int32) <<< (x4 &&& 31)) ||| ((1 : Int32) <<< (x5 &&& 31)))]) (stk' := []) (σ' := σ116) (by decide +kernel) rfl).trans ?_
        refine (hb_r_goto (hb_fe_ok (r := (.goto (-63), 3, 89, 0, 0, 0, 0)) (by decide +kernel))).trans ?_
        exact rfl
      · refine (hb_blk [(.aload_n 0, 1, 0, 0, 0, 0, 0), (.iload 5, 2, 5, 0, 0, 0, 0)] (pe := 125) (gs := []) (loc' := [.ref 50, .int x1, .int x2, .int x3, .int x4, .int x5, .int (((1 : Int32) <<< (x4 &&& 31)) ||| ((1 : Int32) <<< (x5 &&& 31)))]) (stk' := [.int x5, .ref 50]) (σ' := σ116) (by decide +kernel) rfl).trans ?_
        refine hb_Vi (hb_fe_ok (r := (.invokevirtual 122, 3, 61, 1, 0, 0, 0)) (by decide +kernel)) (by decide +kernel) (as := [.int x5]) (v := .ref 50) (rest := []) rfl rfl (Nat.le_of_ble_eq_true rfl) (fun y125 σ125 => ?_)
        refine hb_br0 (hb_fe_ok (r := (.ifCond .eq 18, 3, 146, 0, 0, 0, 0)) (by decide +kernel)) rfl ?_ ?_
        · refine (hb_blk [(.ldc 81, 2, 0, 0, 0, (-1000000), 0)] (pe := 148) (gs := []) (loc' := [.ref 50, .int x1, .int x2, .int x3, .int x4, .int x5, .int (((1 : Int32) <<< (x4 &&& 31)) ||| ((1 : Int32) <<< (x5 &&& 31)))]) (stk' := [.int (-1000000)]) (σ' := σ125) (by decide +kernel) rfl).trans ?_
          refine (hb_blk [(.istore_n 3, 1, 3, 0, 0, 0, 0), (.iinc 5 1, 3, 5, 0, 0, 1, 0)] (pe := 152) (gs := []) (loc' := [.ref 50, .int x1, .int x2, .int (-1000000), .int x4, .int (x5 + (1 : Int32)), .int (((1 : Int32) <<< (x4 &&& 31)) ||| ((1 : Int32) <<< (x5 &&& 31)))]) (stk' := []) (σ' := σ125) (by decide +kernel) rfl).trans ?_
          refine (hb_r_goto (hb_fe_ok (r := (.goto (-63), 3, 89, 0, 0, 0, 0)) (by decide +kernel))).trans ?_
          exact rfl
        · refine (hb_blk [(.aload_n 0, 1, 0, 0, 0, 0, 0), (.iload_n 1, 1, 1, 0, 0, 0, 0), (.iload 6, 2, 6, 0, 0, 0, 0)] (pe := 135) (gs := []) (loc' := [.ref 50, .int x1, .int x2, .int x3, .int x4, .int x5, .int (((1 : Int32) <<< (x4 &&& 31)) ||| ((1 : Int32) <<< (x5 &&& 31)))]) (stk' := [.int (((1 : Int32) <<< (x4 &&& 31)) ||| ((1 : Int32) <<< (x5 &&& 31))), .int x1, .ref 50]) (σ' := σ125) (by decide +kernel) rfl).trans ?_
          refine hb_Vi (hb_fe_ok (r := (.invokevirtual 119, 3, 62, 2, 0, 0, 0)) (by decide +kernel)) (by decide +kernel) (as := [.int x1, .int (((1 : Int32) <<< (x4 &&& 31)) ||| ((1 : Int32) <<< (x5 &&& 31)))]) (v := .ref 50) (rest := []) rfl rfl (Nat.le_of_ble_eq_true rfl) (fun y135 σ135 => ?_)
          refine hb_br0 (hb_fe_ok (r := (.ifCond .eq 8, 3, 146, 0, 0, 0, 0)) (by decide +kernel)) rfl ?_ ?_
          · refine (hb_blk [(.ldc 81, 2, 0, 0, 0, (-1000000), 0)] (pe := 148) (gs := []) (loc' := [.ref 50, .int x1, .int x2, .int x3, .int x4, .int x5, .int (((1 : Int32) <<< (x4 &&& 31)) ||| ((1 : Int32) <<< (x5 &&& 31)))]) (stk' := [.int (-1000000)]) (σ' := σ135) (by decide +kernel) rfl).trans ?_
            refine (hb_blk [(.istore_n 3, 1, 3, 0, 0, 0, 0), (.iinc 5 1, 3, 5, 0, 0, 1, 0)] (pe := 152) (gs := []) (loc' := [.ref 50, .int x1, .int x2, .int (-1000000), .int x4, .int (x5 + (1 : Int32)), .int (((1 : Int32) <<< (x4 &&& 31)) ||| ((1 : Int32) <<< (x5 &&& 31)))]) (stk' := []) (σ' := σ135) (by decide +kernel) rfl).trans ?_
            refine (hb_r_goto (hb_fe_ok (r := (.goto (-63), 3, 89, 0, 0, 0, 0)) (by decide +kernel))).trans ?_
            exact rfl
          · refine (hb_blk [(.iload 6, 2, 6, 0, 0, 0, 0)] (pe := 143) (gs := []) (loc' := [.ref 50, .int x1, .int x2, .int x3, .int x4, .int x5, .int (((1 : Int32) <<< (x4 &&& 31)) ||| ((1 : Int32) <<< (x5 &&& 31)))]) (stk' := [.int (((1 : Int32) <<< (x4 &&& 31)) ||| ((1 : Int32) <<< (x5 &&& 31)))]) (σ' := σ135) (by decide +kernel) rfl).trans ?_
            refine (hb_r_goto (hb_fe_ok (r := (.goto 5, 3, 148, 0, 0, 0, 0)) (by decide +kernel))).trans ?_
            refine (hb_blk [(.istore_n 3, 1, 3, 0, 0, 0, 0), (.iinc 5 1, 3, 5, 0, 0, 1, 0)] (pe := 152) (gs := []) (loc' := [.ref 50, .int x1, .int x2, .int (((1 : Int32) <<< (x4 &&& 31)) ||| ((1 : Int32) <<< (x5 &&& 31))), .int x4, .int (x5 + (1 : Int32)), .int (((1 : Int32) <<< (x4 &&& 31)) ||| ((1 : Int32) <<< (x5 &&& 31)))]) (stk' := []) (σ' := σ135) (by decide +kernel) rfl).trans ?_
            refine (hb_r_goto (hb_fe_ok (r := (.goto (-63), 3, 89, 0, 0, 0, 0)) (by decide +kernel))).trans ?_
            exact rfl
set_option maxRecDepth 8000 in
theorem e61_0  (σ : hbM) (x1 : Int32) : hb_run hbSH 61 (0, [.ref 50, .int x1], [], σ) = hb_g [decide (¬ (4 : Int32) = 0), decide (¬ (4 : Int32) = 0)] (if ((x1 / (4 : Int32)) = (x1 - x1 / (4 : Int32) * (4 : Int32))) then (some (some (.int 0), σ)) else (if (¬ (((σ 0 10) >>> (x1 &&& 31)) &&& (1 : Int32)) = (0 : Int32)) then (some (some (.int 0), σ)) else (some (some (.int 1), σ)))) := by
  refine (hb_blk [(.iload_n 1, 1, 1, 0, 0, 0, 0), (.iconst 4, 1, 0, 0, 0, 4, 0), (.idiv, 1, 0, 0, 0, 0, 0), (.iload_n 1, 1, 1, 0, 0, 0, 0), (.iconst 4, 1, 0, 0, 0, 4, 0), (.irem, 1, 0, 0, 0, 0, 0)] (pe := 6) (gs := [decide (¬ (4 : Int32) = 0), decide (¬ (4 : Int32) = 0)]) (loc' := [.ref 50, .int x1]) (stk' := [.int (x1 - x1 / (4 : Int32) * (4 : Int32)), .int (x1 / (4 : Int32))]) (σ' := σ) (by decide +kernel) rfl).trans ?_
  refine congrArg (hb_g _) ?_
  refine hb_br (hb_fe_ok (r := (.if_icmp .eq 21, 3, 27, 0, 0, 0, 0)) (by decide +kernel)) rfl ?_ ?_
  · refine (hb_blk [(.iconst 0, 1, 0, 0, 0, 0, 0)] (pe := 28) (gs := []) (loc' := [.ref 50, .int x1]) (stk' := [.int 0]) (σ' := σ) (by decide +kernel) rfl).trans ?_
    exact hb_r_zret1 (hb_fe_ok (r := (.ireturn, 1, 0, 0, 1, 0, 0)) (by decide +kernel)) (by decide)
  · refine (hb_blk [(.aload_n 0, 1, 0, 0, 0, 0, 0), (.getfield 28, 3, 8, 1, 0, 0, 0), (.getfield 126, 3, 10, 10, 0, 0, 0), (.iload_n 1, 1, 1, 0, 0, 0, 0), (.ishr, 1, 0, 0, 0, 0, 0), (.iconst 1, 1, 0, 0, 0, 1, 0), (.iand, 1, 0, 0, 0, 0, 0)] (pe := 20) (gs := []) (loc' := [.ref 50, .int x1]) (stk' := [.int (((σ 0 10) >>> (x1 &&& 31)) &&& (1 : Int32))]) (σ' := σ) (by decide +kernel) rfl).trans ?_
    refine hb_br0 (hb_fe_ok (r := (.ifCond .ne 7, 3, 27, 0, 0, 0, 0)) (by decide +kernel)) rfl ?_ ?_
    · refine (hb_blk [(.iconst 0, 1, 0, 0, 0, 0, 0)] (pe := 28) (gs := []) (loc' := [.ref 50, .int x1]) (stk' := [.int 0]) (σ' := σ) (by decide +kernel) rfl).trans ?_
      exact hb_r_zret1 (hb_fe_ok (r := (.ireturn, 1, 0, 0, 1, 0, 0)) (by decide +kernel)) (by decide)
    · refine (hb_blk [(.iconst 1, 1, 0, 0, 0, 1, 0)] (pe := 24) (gs := []) (loc' := [.ref 50, .int x1]) (stk' := [.int 1]) (σ' := σ) (by decide +kernel) rfl).trans ?_
      refine (hb_r_goto (hb_fe_ok (r := (.goto 4, 3, 28, 0, 0, 0, 0)) (by decide +kernel))).trans ?_
      exact hb_r_zret1 (hb_fe_ok (r := (.ireturn, 1, 0, 0, 1, 0, 0)) (by decide +kernel)) (by decide)
set_option maxRecDepth 8000 in
theorem e62_0  (σ : hbM) (x1 : Int32) (x2 : Int32) : hb_run hbSH 62 (0, [.ref 50, .int x1, .int x2, .null, .null], [], σ) = hb_ci (hb_ev hbSH 50 [.ref 50, .int x1, .int 1, .int 1] (hb_up σ 0 10 ((σ 0 10) ||| x2))) (fun y22 σ22 => if (¬ y22 = (0 : Int32)) then (some (some (.int 0), (hb_up σ22 0 10 (σ 0 10)))) else (some (some (.int 1), (hb_up σ22 0 10 (σ 0 10))))) := by
  refine (hb_blk [(.aload_n 0, 1, 0, 0, 0, 0, 0), (.getfield 28, 3, 8, 1, 0, 0, 0), (.getfield 126, 3, 10, 10, 0, 0, 0), (.istore_n 3, 1, 3, 0, 0, 0, 0), (.aload_n 0, 1, 0, 0, 0, 0, 0), (.getfield 28, 3, 8, 1, 0, 0, 0), (.iload_n 3, 1, 3, 0, 0, 0, 0), (.iload_n 2, 1, 2, 0, 0, 0, 0), (.ior, 1, 0, 0, 0, 0, 0), (.putfield 126, 3, 10, 10, 0, 0, 0), (.aload_n 0, 1, 0, 0, 0, 0, 0), (.iload_n 1, 1, 1, 0, 0, 0, 0), (.iconst 1, 1, 0, 0, 0, 1, 0), (.iconst 1, 1, 0, 0, 0, 1, 0)] (pe := 22) (gs := []) (loc' := [.ref 50, .int x1, .int x2, .int (σ 0 10), .null]) (stk' := [.int 1, .int 1, .int x1, .ref 50]) (σ' := (hb_up σ 0 10 ((σ 0 10) ||| x2))) (by decide +kernel) rfl).trans ?_
  refine hb_Vi (hb_fe_ok (r := (.invokevirtual 129, 3, 50, 3, 0, 0, 0)) (by decide +kernel)) (by decide +kernel) (as := [.int x1, .int 1, .int 1]) (v := .ref 50) (rest := []) rfl rfl (Nat.le_of_ble_eq_true rfl) (fun y22 σ22 => ?_)
  refine hb_br0 (hb_fe_ok (r := (.ifCond .ne 7, 3, 32, 0, 0, 0, 0)) (by decide +kernel)) rfl ?_ ?_
  · refine (hb_blk [(.iconst 0, 1, 0, 0, 0, 0, 0)] (pe := 33) (gs := []) (loc' := [.ref 50, .int x1, .int x2, .int (σ 0 10), .null]) (stk' := [.int 0]) (σ' := σ22) (by decide +kernel) rfl).trans ?_
    refine (hb_blk [(.istore 4, 2, 4, 0, 0, 0, 0), (.aload_n 0, 1, 0, 0, 0, 0, 0), (.getfield 28, 3, 8, 1, 0, 0, 0), (.iload_n 3, 1, 3, 0, 0, 0, 0), (.putfield 126, 3, 10, 10, 0, 0, 0), (.iload 4, 2, 4, 0, 0, 0, 0)] (pe := 45) (gs := []) (loc' := [.ref 50, .int x1, .int x2, .int (σ 0 10), .int 0]) (stk' := [.int 0]) (σ' := (hb_up σ22 0 10 (σ 0 10))) (by decide +kernel) rfl).trans ?_
    exact hb_r_zret1 (hb_fe_ok (r := (.ireturn, 1, 0, 0, 1, 0, 0)) (by decide +kernel)) (by decide)
  · refine (hb_blk [(.iconst 1, 1, 0, 0, 0, 1, 0)] (pe := 29) (gs := []) (loc' := [.ref 50, .int x1, .int x2, .int (σ 0 10), .null]) (stk' := [.int 1]) (σ' := σ22) (by decide +kernel) rfl).trans ?_
    refine (hb_r_goto (hb_fe_ok (r := (.goto 4, 3, 33, 0, 0, 0, 0)) (by decide +kernel))).trans ?_
    refine (hb_blk [(.istore 4, 2, 4, 0, 0, 0, 0), (.aload_n 0, 1, 0, 0, 0, 0, 0), (.getfield 28, 3, 8, 1, 0, 0, 0), (.iload_n 3, 1, 3, 0, 0, 0, 0), (.putfield 126, 3, 10, 10, 0, 0, 0), (.iload 4, 2, 4, 0, 0, 0, 0)] (pe := 45) (gs := []) (loc' := [.ref 50, .int x1, .int x2, .int (σ 0 10), .int 1]) (stk' := [.int 1]) (σ' := (hb_up σ22 0 10 (σ 0 10))) (by decide +kernel) rfl).trans ?_
    exact hb_r_zret1 (hb_fe_ok (r := (.ireturn, 1, 0, 0, 1, 0, 0)) (by decide +kernel)) (by decide)
set_option maxRecDepth 8000 in
theorem e63_0  (σ : hbM) (x1 : Int32) : hb_run hbSH 63 (0, [.ref 49, .int x1, .null, .null, .null, .null], [], σ) = hb_cv (hb_ev hbSH 27 [.ref 44] σ) (fun σ4 => hb_g [hb_01 0] (hb_run hbSH 63 (25, [.ref 49, .int x1, .int 0, .int x1, .int 0, .null], [], (hb_up (hb_up σ4 49 5 0) 49 3 (-1000000))))) := by
  refine (hb_blk [(.aload_n 0, 1, 0, 0, 0, 0, 0), (.getfield 22, 3, 9, 2, 0, 0, 0)] (pe := 4) (gs := []) (loc' := [.ref 49, .int x1, .null, .null, .null, .null]) (stk' := [.ref 44]) (σ' := σ) (by decide +kernel) rfl).trans ?_
  refine hb_Vv (hb_fe_ok (r := (.invokevirtual 26, 3, 27, 0, 0, 0, 0)) (by decide +kernel)) (by decide +kernel) (as := []) (v := .ref 44) (rest := []) rfl rfl (Nat.le_of_ble_eq_true rfl) (fun σ4 => ?_)
  refine (hb_blk [(.aload_n 0, 1, 0, 0, 0, 0, 0), (.iconst 0, 1, 0, 0, 0, 0, 0), (.putfield 31, 3, 9, 5, 1, 0, 0), (.aload_n 0, 1, 0, 0, 0, 0, 0), (.ldc 35, 2, 0, 0, 0, (-1000000), 0), (.putfield 36, 3, 9, 3, 0, 0, 0), (.iconst 0, 1, 0, 0, 0, 0, 0), (.istore_n 2, 1, 2, 0, 0, 0, 0), (.iload_n 1, 1, 1, 0, 0, 0, 0), (.istore_n 3, 1, 3, 0, 0, 0, 0), (.iconst 0, 1, 0, 0, 0, 0, 0), (.istore 4, 2, 4, 0, 0, 0, 0)] (pe := 25) (gs := [hb_01 0]) (loc' := [.ref 49, .int x1, .int 0, .int x1, .int 0, .null]) (stk' := []) (σ' := (hb_up (hb_up σ4 49 5 0) 49 3 (-1000000))) (by decide +kernel) rfl).trans ?_
  refine congrArg (hb_g _) ?_
  exact rfl
set_option maxRecDepth 8000 in
theorem e63_25  (σ : hbM) (x1 : Int32) (x2 : Int32) (x3 : Int32) (x4 : Int32) (v5 : Value) : hb_run hbSH 63 (25, [.ref 49, .int x1, .int x2, .int x3, .int x4, v5], [], σ) = if ((17408 : Int32) ≤ x4) then (if (¬ (σ 49 3) = (-1000000 : Int32)) then (some (none, (hb_up σ 49 4 x2))) else (some (none, (hb_up σ 49 4 (-1000000))))) else (if (x3 = (-1000000 : Int32)) then (if (¬ (σ 49 3) = (-1000000 : Int32)) then (some (none, (hb_up σ 49 4 x2))) else (some (none, (hb_up σ 49 4 (-1000000))))) else (hb_ci (hb_ev hbSH 28 [.ref 44, .int x3, .int 0] σ) (fun y45 σ45 => if (y45 = (0 : Int32)) then (if (¬ (σ45 49 3) = (-1000000 : Int32)) then (some (none, (hb_up σ45 49 4 x2))) else (some (none, (hb_up σ45 49 4 (-1000000))))) else (hb_g [decide (¬ (1024 : Int32) = 0)] (if (¬ (σ45 49 5) = (0 : Int32)) then (hb_run hbSH 63 (84, [.ref 49, .int x1, .int x2, .int x3, .int x4, .int (x3 - x3 / (1024 : Int32) * (1024 : Int32))], [.int 1, .ref 49], σ45)) else (hb_g [hb_in (x3 - x3 / (1024 : Int32) * (1024 : Int32)) 1024] (if ((σ45 11 (Int32.toNatClampNeg (x3 - x3 / (1024 : Int32) * (1024 : Int32)))) = (0 : Int32)) then (hb_run hbSH 63 (84, [.ref 49, .int x1, .int x2, .int x3, .int x4, .int (x3 - x3 / (1024 : Int32) * (1024 : Int32))], [.int 0, .ref 49], σ45)) else (hb_run hbSH 63 (84, [.ref 49, .int x1, .int x2, .int x3, .int x4, .int (x3 - x3 / (1024 : Int32) * (1024 : Int32))], [.int 1, .ref 49], σ45))))))))) := by
  refine (hb_blk [(.iload 4, 2, 4, 0, 0, 0, 0), (.sipush 17408, 3, 0, 0, 0, 17408, 0)] (pe := 30) (gs := []) (loc' := [.ref 49, .int x1, .int x2, .int x3, .int x4, v5]) (stk' := [.int 17408, .int x4]) (σ' := σ) (by decide +kernel) rfl).trans ?_
  refine hb_br (hb_fe_ok (r := (.if_icmp .ge 103, 3, 133, 0, 0, 0, 0)) (by decide +kernel)) rfl ?_ ?_
  · refine (hb_blk [(.aload_n 0, 1, 0, 0, 0, 0, 0), (.aload_n 0, 1, 0, 0, 0, 0, 0), (.getfield 36, 3, 9, 3, 0, 0, 0), (.ldc 35, 2, 0, 0, 0, (-1000000), 0)] (pe := 140) (gs := []) (loc' := [.ref 49, .int x1, .int x2, .int x3, .int x4, v5]) (stk' := [.int (-1000000), .int (σ 49 3), .ref 49]) (σ' := σ) (by decide +kernel) rfl).trans ?_
    refine hb_br (hb_fe_ok (r := (.if_icmp .ne 8, 3, 148, 0, 0, 0, 0)) (by decide +kernel)) rfl ?_ ?_
    · refine (hb_blk [(.iload_n 2, 1, 2, 0, 0, 0, 0)] (pe := 149) (gs := []) (loc' := [.ref 49, .int x1, .int x2, .int x3, .int x4, v5]) (stk' := [.int x2, .ref 49]) (σ' := σ) (by decide +kernel) rfl).trans ?_
      refine (hb_blk [(.putfield 62, 3, 9, 4, 0, 0, 0)] (pe := 152) (gs := []) (loc' := [.ref 49, .int x1, .int x2, .int x3, .int x4, v5]) (stk' := []) (σ' := (hb_up σ 49 4 x2)) (by decide +kernel) rfl).trans ?_
      exact hb_r_vret (hb_fe_ok (r := (.return_, 1, 0, 0, 0, 0, 0)) (by decide +kernel))
    · refine (hb_blk [(.ldc 35, 2, 0, 0, 0, (-1000000), 0)] (pe := 145) (gs := []) (loc' := [.ref 49, .int x1, .int x2, .int x3, .int x4, v5]) (stk' := [.int (-1000000), .ref 49]) (σ' := σ) (by decide +kernel) rfl).trans ?_
      refine (hb_r_goto (hb_fe_ok (r := (.goto 4, 3, 149, 0, 0, 0, 0)) (by decide +kernel))).trans ?_
      refine (hb_blk [(.putfield 62, 3, 9, 4, 0, 0, 0)] (pe := 152) (gs := []) (loc' := [.ref 49, .int x1, .int x2, .int x3, .int x4, v5]) (stk' := []) (σ' := (hb_up σ 49 4 (-1000000))) (by decide +kernel) rfl).trans ?_
      exact hb_r_vret (hb_fe_ok (r := (.return_, 1, 0, 0, 0, 0, 0)) (by decide +kernel))
  · refine (hb_blk [(.iload_n 3, 1, 3, 0, 0, 0, 0), (.ldc 35, 2, 0, 0, 0, (-1000000), 0)] (pe := 36) (gs := []) (loc' := [.ref 49, .int x1, .int x2, .int x3, .int x4, v5]) (stk' := [.int (-1000000), .int x3]) (σ' := σ) (by decide +kernel) rfl).trans ?_
    refine hb_br (hb_fe_ok (r := (.if_icmp .eq 97, 3, 133, 0, 0, 0, 0)) (by decide +kernel)) rfl ?_ ?_
    · refine (hb_blk [(.aload_n 0, 1, 0, 0, 0, 0, 0), (.aload_n 0, 1, 0, 0, 0, 0, 0), (.getfield 36, 3, 9, 3, 0, 0, 0), (.ldc 35, 2, 0, 0, 0, (-1000000), 0)] (pe := 140) (gs := []) (loc' := [.ref 49, .int x1, .int x2, .int x3, .int x4, v5]) (stk' := [.int (-1000000), .int (σ 49 3), .ref 49]) (σ' := σ) (by decide +kernel) rfl).trans ?_
      refine hb_br (hb_fe_ok (r := (.if_icmp .ne 8, 3, 148, 0, 0, 0, 0)) (by decide +kernel)) rfl ?_ ?_
      · refine (hb_blk [(.iload_n 2, 1, 2, 0, 0, 0, 0)] (pe := 149) (gs := []) (loc' := [.ref 49, .int x1, .int x2, .int x3, .int x4, v5]) (stk' := [.int x2, .ref 49]) (σ' := σ) (by decide +kernel) rfl).trans ?_
        refine (hb_blk [(.putfield 62, 3, 9, 4, 0, 0, 0)] (pe := 152) (gs := []) (loc' := [.ref 49, .int x1, .int x2, .int x3, .int x4, v5]) (stk' := []) (σ' := (hb_up σ 49 4 x2)) (by decide +kernel) rfl).trans ?_
        exact hb_r_vret (hb_fe_ok (r := (.return_, 1, 0, 0, 0, 0, 0)) (by decide +kernel))
      · refine (hb_blk [(.ldc 35, 2, 0, 0, 0, (-1000000), 0)] (pe := 145) (gs := []) (loc' := [.ref 49, .int x1, .int x2, .int x3, .int x4, v5]) (stk' := [.int (-1000000), .ref 49]) (σ' := σ) (by decide +kernel) rfl).trans ?_
        refine (hb_r_goto (hb_fe_ok (r := (.goto 4, 3, 149, 0, 0, 0, 0)) (by decide +kernel))).trans ?_
        refine (hb_blk [(.putfield 62, 3, 9, 4, 0, 0, 0)] (pe := 152) (gs := []) (loc' := [.ref 49, .int x1, .int x2, .int x3, .int x4, v5]) (stk' := []) (σ' := (hb_up σ 49 4 (-1000000))) (by decide +kernel) rfl).trans ?_
        exact hb_r_vret (hb_fe_ok (r := (.return_, 1, 0, 0, 0, 0, 0)) (by decide +kernel))
    · refine (hb_blk [(.aload_n 0, 1, 0, 0, 0, 0, 0), (.getfield 22, 3, 9, 2, 0, 0, 0), (.iload_n 3, 1, 3, 0, 0, 0, 0), (.iconst 0, 1, 0, 0, 0, 0, 0)] (pe := 45) (gs := []) (loc' := [.ref 49, .int x1, .int x2, .int x3, .int x4, v5]) (stk' := [.int 0, .int x3, .ref 44]) (σ' := σ) (by decide +kernel) rfl).trans ?_
      refine hb_Vi (hb_fe_ok (r := (.invokevirtual 40, 3, 28, 2, 0, 0, 0)) (by decide +kernel)) (by decide +kernel) (as := [.int x3, .int 0]) (v := .ref 44) (rest := []) rfl rfl (Nat.le_of_ble_eq_true rfl) (fun y45 σ45 => ?_)
      refine hb_br0 (hb_fe_ok (r := (.ifCond .eq 85, 3, 133, 0, 0, 0, 0)) (by decide +kernel)) rfl ?_ ?_
      · refine (hb_blk [(.aload_n 0, 1, 0, 0, 0, 0, 0), (.aload_n 0, 1, 0, 0, 0, 0, 0), (.getfield 36, 3, 9, 3, 0, 0, 0), (.ldc 35, 2, 0, 0, 0, (-1000000), 0)] (pe := 140) (gs := []) (loc' := [.ref 49, .int x1, .int x2, .int x3, .int x4, v5]) (stk' := [.int (-1000000), .int (σ45 49 3), .ref 49]) (σ' := σ45) (by decide +kernel) rfl).trans ?_
        refine hb_br (hb_fe_ok (r := (.if_icmp .ne 8, 3, 148, 0, 0, 0, 0)) (by decide +kernel)) rfl ?_ ?_
        · refine (hb_blk [(.iload_n 2, 1, 2, 0, 0, 0, 0)] (pe := 149) (gs := []) (loc' := [.ref 49, .int x1, .int x2, .int x3, .int x4, v5]) (stk' := [.int x2, .ref 49]) (σ' := σ45) (by decide +kernel) rfl).trans ?_
          refine (hb_blk [(.putfield 62, 3, 9, 4, 0, 0, 0)] (pe := 152) (gs := []) (loc' := [.ref 49, .int x1, .int x2, .int x3, .int x4, v5]) (stk' := []) (σ' := (hb_up σ45 49 4 x2)) (by decide +kernel) rfl).trans ?_
          exact hb_r_vret (hb_fe_ok (r := (.return_, 1, 0, 0, 0, 0, 0)) (by decide +kernel))
        · refine (hb_blk [(.ldc 35, 2, 0, 0, 0, (-1000000), 0)] (pe := 145) (gs := []) (loc' := [.ref 49, .int x1, .int x2, .int x3, .int x4, v5]) (stk' := [.int (-1000000), .ref 49]) (σ' := σ45) (by decide +kernel) rfl).trans ?_
          refine (hb_r_goto (hb_fe_ok (r := (.goto 4, 3, 149, 0, 0, 0, 0)) (by decide +kernel))).trans ?_
          refine (hb_blk [(.putfield 62, 3, 9, 4, 0, 0, 0)] (pe := 152) (gs := []) (loc' := [.ref 49, .int x1, .int x2, .int x3, .int x4, v5]) (stk' := []) (σ' := (hb_up σ45 49 4 (-1000000))) (by decide +kernel) rfl).trans ?_
          exact hb_r_vret (hb_fe_ok (r := (.return_, 1, 0, 0, 0, 0, 0)) (by decide +kernel))
      · refine (hb_blk [(.iload_n 3, 1, 3, 0, 0, 0, 0), (.sipush 1024, 3, 0, 0, 0, 1024, 0), (.irem, 1, 0, 0, 0, 0, 0), (.istore 5, 2, 5, 0, 0, 0, 0), (.aload_n 0, 1, 0, 0, 0, 0, 0), (.aload_n 0, 1, 0, 0, 0, 0, 0), (.getfield 31, 3, 9, 5, 0, 0, 0)] (pe := 63) (gs := [decide (¬ (1024 : Int32) = 0)]) (loc' := [.ref 49, .int x1, .int x2, .int x3, .int x4, .int (x3 - x3 / (1024 : Int32) * (1024 : Int32))]) (stk' := [.int (σ45 49 5), .ref 49]) (σ' := σ45) (by decide +kernel) rfl).trans ?_
        refine congrArg (hb_g _) ?_
        refine hb_br0 (hb_fe_ok (r := (.ifCond .ne 16, 3, 79, 0, 0, 0, 0)) (by decide +kernel)) rfl ?_ ?_
        · refine (hb_blk [(.iconst 1, 1, 0, 0, 0, 1, 0)] (pe := 80) (gs := []) (loc' := [.ref 49, .int x1, .int x2, .int x3, .int x4, .int (x3 - x3 / (1024 : Int32) * (1024 : Int32))]) (stk' := [.int 1, .ref 49]) (σ' := σ45) (by decide +kernel) rfl).trans ?_
          refine (hb_r_goto (hb_fe_ok (r := (.goto 4, 3, 84, 0, 0, 0, 0)) (by decide +kernel))).trans ?_
          exact rfl
        · refine (hb_blk [(.aload_n 0, 1, 0, 0, 0, 0, 0), (.getfield 21, 3, 9, 1, 0, 0, 0), (.getfield 44, 3, 10, 6, 0, 0, 0), (.iload 5, 2, 5, 0, 0, 0, 0), (.baload, 1, 0, 0, 0, 0, 0)] (pe := 76) (gs := [hb_in (x3 - x3 / (1024 : Int32) * (1024 : Int32)) 1024]) (loc' := [.ref 49, .int x1, .int x2, .int x3, .int x4, .int (x3 - x3 / (1024 : Int32) * (1024 : Int32))]) (stk' := [.int (σ45 11 (Int32.toNatClampNeg (x3 - x3 / (1024 : Int32) * (1024 : Int32)))), .ref 49]) (σ' := σ45) (by decide +kernel) rfl).trans ?_
          refine congrArg (hb_g _) ?_
          refine hb_br0 (hb_fe_ok (r := (.ifCond .eq 7, 3, 83, 0, 0, 0, 0)) (by decide +kernel)) rfl ?_ ?_
          · refine (hb_blk [(.iconst 0, 1, 0, 0, 0, 0, 0)] (pe := 84) (gs := []) (loc' := [.ref 49, .int x1, .int x2, .int x3, .int x4, .int (x3 - x3 / (1024 : Int32) * (1024 : Int32))]) (stk' := [.int 0, .ref 49]) (σ' := σ45) (by decide +kernel) rfl).trans ?_
            exact rfl
          · refine (hb_blk [(.iconst 1, 1, 0, 0, 0, 1, 0)] (pe := 80) (gs := []) (loc' := [.ref 49, .int x1, .int x2, .int x3, .int x4, .int (x3 - x3 / (1024 : Int32) * (1024 : Int32))]) (stk' := [.int 1, .ref 49]) (σ' := σ45) (by decide +kernel) rfl).trans ?_
            refine (hb_r_goto (hb_fe_ok (r := (.goto 4, 3, 84, 0, 0, 0, 0)) (by decide +kernel))).trans ?_
            exact rfl
set_option maxRecDepth 8000 in
theorem e63_84  (σ : hbM) (x1 : Int32) (x2 : Int32) (x3 : Int32) (x4 : Int32) (x5 : Int32) (s0 : Int32) : hb_run hbSH 63 (84, [.ref 49, .int x1, .int x2, .int x3, .int x4, .int x5], [.int s0, .ref 49], σ) = hb_g [hb_01 s0] (hb_ci (hb_ev hbSH 9 [.ref 36, .int x3] (hb_up σ 49 5 s0)) (fun y93 σ93 => hb_ci (hb_ev hbSH 111 [.int y93] σ93) (fun y96 σ96 => hb_ci (hb_ev hbSH 8 [.ref 36, .int x3] σ96) (fun y106 σ106 => if (¬ y106 = (-1000000 : Int32)) then (hb_run hbSH 63 (25, [.ref 49, .int x1, .int (x2 + y96), .int y106, .int (x4 + (1 : Int32)), .int x5], [], (hb_up σ106 49 3 (-1000000)))) else (hb_run hbSH 63 (25, [.ref 49, .int x1, .int (x2 + y96), .int y106, .int (x4 + (1 : Int32)), .int x5], [], (hb_up σ106 49 3 x5))))))) := by
  refine (hb_blk [(.putfield 31, 3, 9, 5, 1, 0, 0), (.iload_n 2, 1, 2, 0, 0, 0, 0), (.aload_n 0, 1, 0, 0, 0, 0, 0), (.getfield 9, 3, 9, 0, 0, 0, 0), (.iload_n 3, 1, 3, 0, 0, 0, 0)] (pe := 93) (gs := [hb_01 s0]) (loc' := [.ref 49, .int x1, .int x2, .int x3, .int x4, .int x5]) (stk' := [.int x3, .ref 36, .int x2]) (σ' := (hb_up σ 49 5 s0)) (by decide +kernel) rfl).trans ?_
  refine congrArg (hb_g _) ?_
  refine hb_Vi (hb_fe_ok (r := (.invokevirtual 50, 3, 9, 1, 0, 0, 0)) (by decide +kernel)) (by decide +kernel) (as := [.int x3]) (v := .ref 36) (rest := [.int x2]) rfl rfl (Nat.le_of_ble_eq_true rfl) (fun y93 σ93 => ?_)
  refine hb_Si (hb_fe_ok (r := (.invokestatic 54, 3, 111, 1, 1, 0, 0)) (by decide +kernel)) (by decide) (by decide +kernel) (as := [.int y93]) (rest := [.int x2]) rfl (Nat.le_of_ble_eq_true rfl) (fun y96 σ96 => ?_)
  refine (hb_blk [(.iadd, 1, 0, 0, 0, 0, 0), (.istore_n 2, 1, 2, 0, 0, 0, 0), (.aload_n 0, 1, 0, 0, 0, 0, 0), (.getfield 9, 3, 9, 0, 0, 0, 0), (.iload_n 3, 1, 3, 0, 0, 0, 0)] (pe := 106) (gs := []) (loc' := [.ref 49, .int x1, .int (x2 + y96), .int x3, .int x4, .int x5]) (stk' := [.int x3, .ref 36]) (σ' := σ96) (by decide +kernel) rfl).trans ?_
  refine hb_Vi (hb_fe_ok (r := (.invokevirtual 58, 3, 8, 1, 0, 0, 0)) (by decide +kernel)) (by decide +kernel) (as := [.int x3]) (v := .ref 36) (rest := []) rfl rfl (Nat.le_of_ble_eq_true rfl) (fun y106 σ106 => ?_)
  refine (hb_blk [(.istore_n 3, 1, 3, 0, 0, 0, 0), (.aload_n 0, 1, 0, 0, 0, 0, 0), (.iload_n 3, 1, 3, 0, 0, 0, 0), (.ldc 35, 2, 0, 0, 0, (-1000000), 0)] (pe := 114) (gs := []) (loc' := [.ref 49, .int x1, .int (x2 + y96), .int y106, .int x4, .int x5]) (stk' := [.int (-1000000), .int y106, .ref 49]) (σ' := σ106) (by decide +kernel) rfl).trans ?_
  refine hb_br (hb_fe_ok (r := (.if_icmp .ne 8, 3, 122, 0, 0, 0, 0)) (by decide +kernel)) rfl ?_ ?_
  · refine (hb_blk [(.ldc 35, 2, 0, 0, 0, (-1000000), 0)] (pe := 124) (gs := []) (loc' := [.ref 49, .int x1, .int (x2 + y96), .int y106, .int x4, .int x5]) (stk' := [.int (-1000000), .ref 49]) (σ' := σ106) (by decide +kernel) rfl).trans ?_
    refine (hb_blk [(.putfield 36, 3, 9, 3, 0, 0, 0), (.iinc 4 1, 3, 4, 0, 0, 1, 0)] (pe := 130) (gs := []) (loc' := [.ref 49, .int x1, .int (x2 + y96), .int y106, .int (x4 + (1 : Int32)), .int x5]) (stk' := []) (σ' := (hb_up σ106 49 3 (-1000000))) (by decide +kernel) rfl).trans ?_
    refine (hb_r_goto (hb_fe_ok (r := (.goto (-105), 3, 25, 0, 0, 0, 0)) (by decide +kernel))).trans ?_
    exact rfl
  · refine (hb_blk [(.iload 5, 2, 5, 0, 0, 0, 0)] (pe := 119) (gs := []) (loc' := [.ref 49, .int x1, .int (x2 + y96), .int y106, .int x4, .int x5]) (stk' := [.int x5, .ref 49]) (σ' := σ106) (by decide +kernel) rfl).trans ?_
    refine (hb_r_goto (hb_fe_ok (r := (.goto 5, 3, 124, 0, 0, 0, 0)) (by decide +kernel))).trans ?_
    refine (hb_blk [(.putfield 36, 3, 9, 3, 0, 0, 0), (.iinc 4 1, 3, 4, 0, 0, 1, 0)] (pe := 130) (gs := []) (loc' := [.ref 49, .int x1, .int (x2 + y96), .int y106, .int (x4 + (1 : Int32)), .int x5]) (stk' := []) (σ' := (hb_up σ106 49 3 x5)) (by decide +kernel) rfl).trans ?_
    refine (hb_r_goto (hb_fe_ok (r := (.goto (-105), 3, 25, 0, 0, 0, 0)) (by decide +kernel))).trans ?_
    exact rfl
set_option maxRecDepth 8000 in
theorem e64_0  (σ : hbM) (x1 : Int32) (x2 : Int32) (x3 : Int32) : hb_run hbSH 64 (0, [.ref 49, .int x1, .int x2, .int x3, .null, .null, .null], [], σ) = hb_g [hb_01 1] (hb_run hbSH 64 (14, [.ref 49, .int x1, .int x2, .int x3, .int x1, .int x1, .int 1], [], (hb_up σ 49 8 1))) := by
  refine (hb_blk [(.aload_n 0, 1, 0, 0, 0, 0, 0), (.iconst 1, 1, 0, 0, 0, 1, 0), (.putfield 65, 3, 9, 8, 1, 0, 0), (.iload_n 1, 1, 1, 0, 0, 0, 0), (.istore 4, 2, 4, 0, 0, 0, 0), (.iload_n 1, 1, 1, 0, 0, 0, 0), (.istore 5, 2, 5, 0, 0, 0, 0), (.iconst 1, 1, 0, 0, 0, 1, 0), (.istore 6, 2, 6, 0, 0, 0, 0)] (pe := 14) (gs := [hb_01 1]) (loc' := [.ref 49, .int x1, .int x2, .int x3, .int x1, .int x1, .int 1]) (stk' := []) (σ' := (hb_up σ 49 8 1)) (by decide +kernel) rfl).trans ?_
  refine congrArg (hb_g _) ?_
  exact rfl
set_option maxRecDepth 8000 in
theorem e64_14  (σ : hbM) (x1 : Int32) (x2 : Int32) (x3 : Int32) (x4 : Int32) (x5 : Int32) (x6 : Int32) : hb_run hbSH 64 (14, [.ref 49, .int x1, .int x2, .int x3, .int x4, .int x5, .int x6], [], σ) = if ((50 : Int32) < x6) then (some (some (.int (-1000000)), σ)) else (hb_ci (hb_ev hbSH 65 [.ref 49, .int x4, .int (-1000000), .int x3] σ) (fun y27 σ27 => hb_ci (hb_ev hbSH 65 [.ref 49, .int x5, .int x2, .int x3] σ27) (fun y37 σ37 => if (((y27 ^^^ y37) &&& (1008 : Int32)) = (0 : Int32)) then (hb_run hbSH 64 (14, [.ref 49, .int x1, .int x2, .int x3, .int y27, .int y37, .int (x6 + (1 : Int32))], [], σ37)) else (some (some (.int x6), σ37))))) := by
  refine (hb_blk [(.iload 6, 2, 6, 0, 0, 0, 0), (.bipush 50, 2, 0, 0, 0, 50, 0)] (pe := 18) (gs := []) (loc' := [.ref 49, .int x1, .int x2, .int x3, .int x4, .int x5, .int x6]) (stk' := [.int 50, .int x6]) (σ' := σ) (by decide +kernel) rfl).trans ?_
  refine hb_br (hb_fe_ok (r := (.if_icmp .gt 45, 3, 63, 0, 0, 0, 0)) (by decide +kernel)) rfl ?_ ?_
  · refine (hb_blk [(.ldc 35, 2, 0, 0, 0, (-1000000), 0)] (pe := 65) (gs := []) (loc' := [.ref 49, .int x1, .int x2, .int x3, .int x4, .int x5, .int x6]) (stk' := [.int (-1000000)]) (σ' := σ) (by decide +kernel) rfl).trans ?_
    exact hb_r_iret (hb_fe_ok (r := (.ireturn, 1, 0, 0, 0, 0, 0)) (by decide +kernel))
  · refine (hb_blk [(.aload_n 0, 1, 0, 0, 0, 0, 0), (.iload 4, 2, 4, 0, 0, 0, 0), (.ldc 35, 2, 0, 0, 0, (-1000000), 0), (.iload_n 3, 1, 3, 0, 0, 0, 0)] (pe := 27) (gs := []) (loc' := [.ref 49, .int x1, .int x2, .int x3, .int x4, .int x5, .int x6]) (stk' := [.int x3, .int (-1000000), .int x4, .ref 49]) (σ' := σ) (by decide +kernel) rfl).trans ?_
    refine hb_Vi (hb_fe_ok (r := (.invokevirtual 68, 3, 65, 3, 0, 0, 0)) (by decide +kernel)) (by decide +kernel) (as := [.int x4, .int (-1000000), .int x3]) (v := .ref 49) (rest := []) rfl rfl (Nat.le_of_ble_eq_true rfl) (fun y27 σ27 => ?_)
    refine (hb_blk [(.istore 4, 2, 4, 0, 0, 0, 0), (.aload_n 0, 1, 0, 0, 0, 0, 0), (.iload 5, 2, 5, 0, 0, 0, 0), (.iload_n 2, 1, 2, 0, 0, 0, 0), (.iload_n 3, 1, 3, 0, 0, 0, 0)] (pe := 37) (gs := []) (loc' := [.ref 49, .int x1, .int x2, .int x3, .int y27, .int x5, .int x6]) (stk' := [.int x3, .int x2, .int x5, .ref 49]) (σ' := σ27) (by decide +kernel) rfl).trans ?_
    refine hb_Vi (hb_fe_ok (r := (.invokevirtual 68, 3, 65, 3, 0, 0, 0)) (by decide +kernel)) (by decide +kernel) (as := [.int x5, .int x2, .int x3]) (v := .ref 49) (rest := []) rfl rfl (Nat.le_of_ble_eq_true rfl) (fun y37 σ37 => ?_)
    refine (hb_blk [(.istore 5, 2, 5, 0, 0, 0, 0), (.iload 4, 2, 4, 0, 0, 0, 0), (.iload 5, 2, 5, 0, 0, 0, 0), (.ixor, 1, 0, 0, 0, 0, 0), (.sipush 1008, 3, 0, 0, 0, 1008, 0), (.iand, 1, 0, 0, 0, 0, 0)] (pe := 51) (gs := []) (loc' := [.ref 49, .int x1, .int x2, .int x3, .int y27, .int y37, .int x6]) (stk' := [.int ((y27 ^^^ y37) &&& (1008 : Int32))]) (σ' := σ37) (by decide +kernel) rfl).trans ?_
    refine hb_br0 (hb_fe_ok (r := (.ifCond .eq 6, 3, 57, 0, 0, 0, 0)) (by decide +kernel)) rfl ?_ ?_
    · refine (hb_blk [(.iinc 6 1, 3, 6, 0, 0, 1, 0)] (pe := 60) (gs := []) (loc' := [.ref 49, .int x1, .int x2, .int x3, .int y27, .int y37, .int (x6 + (1 : Int32))]) (stk' := []) (σ' := σ37) (by decide +kernel) rfl).trans ?_
      refine (hb_r_goto (hb_fe_ok (r := (.goto (-46), 3, 14, 0, 0, 0, 0)) (by decide +kernel))).trans ?_
      exact rfl
    · refine (hb_blk [(.iload 6, 2, 6, 0, 0, 0, 0)] (pe := 56) (gs := []) (loc' := [.ref 49, .int x1, .int x2, .int x3, .int y27, .int y37, .int x6]) (stk' := [.int x6]) (σ' := σ37) (by decide +kernel) rfl).trans ?_
      exact hb_r_iret (hb_fe_ok (r := (.ireturn, 1, 0, 0, 0, 0, 0)) (by decide +kernel))
set_option maxRecDepth 8000 in
theorem e65_0  (σ : hbM) (x1 : Int32) (x2 : Int32) (x3 : Int32) : hb_run hbSH 65 (0, [.ref 49, .int x1, .int x2, .int x3, .null, .null, .null, .null, .null], [], σ) = hb_run hbSH 65 (6, [.ref 49, .int x1, .int x2, .int x3, .int x1, .int 0, .null, .null, .null], [], σ) := by
  refine (hb_blk [(.iload_n 1, 1, 1, 0, 0, 0, 0), (.istore 4, 2, 4, 0, 0, 0, 0), (.iconst 0, 1, 0, 0, 0, 0, 0), (.istore 5, 2, 5, 0, 0, 0, 0)] (pe := 6) (gs := []) (loc' := [.ref 49, .int x1, .int x2, .int x3, .int x1, .int 0, .null, .null, .null]) (stk' := []) (σ' := σ) (by decide +kernel) rfl).trans ?_
  exact rfl
set_option maxRecDepth 8000 in
theorem e65_6  (σ : hbM) (x1 : Int32) (x2 : Int32) (x3 : Int32) (x4 : Int32) (x5 : Int32) (v6 : Value) (v7 : Value) (v8 : Value) : hb_run hbSH 65 (6, [.ref 49, .int x1, .int x2, .int x3, .int x4, .int x5, v6, v7, v8], [], σ) = if ((35 : Int32) ≤ x5) then (some (some (.int x4), σ)) else (if ((σ 49 8) = (0 : Int32)) then (hb_run hbSH 65 (57, [.ref 49, .int x1, .int x2, .int x3, .int x4, .int x5, .int 0, v7, v8], [.int (-1000000)], σ)) else (hb_g [decide (¬ (1024 : Int32) = 0)] (if (¬ (x4 / (1024 : Int32)) = x2) then (hb_run hbSH 65 (57, [.ref 49, .int x1, .int x2, .int x3, .int x4, .int x5, .int 0, v7, v8], [.int (-1000000)], σ)) else (hb_ci (hb_ev hbSH 10 [.ref 36, .int x4, .int x3] σ) (fun y49 σ49 => hb_run hbSH 65 (57, [.ref 49, .int x1, .int x2, .int x3, .int x4, .int x5, .int 1, v7, v8], [.int y49], σ49)))))) := by
  refine (hb_blk [(.iload 5, 2, 5, 0, 0, 0, 0), (.bipush 35, 2, 0, 0, 0, 35, 0)] (pe := 10) (gs := []) (loc' := [.ref 49, .int x1, .int x2, .int x3, .int x4, .int x5, v6, v7, v8]) (stk' := [.int 35, .int x5]) (σ' := σ) (by decide +kernel) rfl).trans ?_
  refine hb_br (hb_fe_ok (r := (.if_icmp .ge 129, 3, 139, 0, 0, 0, 0)) (by decide +kernel)) rfl ?_ ?_
  · refine (hb_blk [(.iload 4, 2, 4, 0, 0, 0, 0)] (pe := 141) (gs := []) (loc' := [.ref 49, .int x1, .int x2, .int x3, .int x4, .int x5, v6, v7, v8]) (stk' := [.int x4]) (σ' := σ) (by decide +kernel) rfl).trans ?_
    exact hb_r_iret (hb_fe_ok (r := (.ireturn, 1, 0, 0, 0, 0, 0)) (by decide +kernel))
  · refine (hb_blk [(.aload_n 0, 1, 0, 0, 0, 0, 0), (.getfield 65, 3, 9, 8, 0, 0, 0)] (pe := 17) (gs := []) (loc' := [.ref 49, .int x1, .int x2, .int x3, .int x4, .int x5, v6, v7, v8]) (stk' := [.int (σ 49 8)]) (σ' := σ) (by decide +kernel) rfl).trans ?_
    refine hb_br0 (hb_fe_ok (r := (.ifCond .eq 17, 3, 34, 0, 0, 0, 0)) (by decide +kernel)) rfl ?_ ?_
    · refine (hb_blk [(.iconst 0, 1, 0, 0, 0, 0, 0)] (pe := 35) (gs := []) (loc' := [.ref 49, .int x1, .int x2, .int x3, .int x4, .int x5, v6, v7, v8]) (stk' := [.int 0]) (σ' := σ) (by decide +kernel) rfl).trans ?_
      refine (hb_blk [(.istore 6, 2, 6, 0, 0, 0, 0), (.iload 6, 2, 6, 0, 0, 0, 0)] (pe := 39) (gs := []) (loc' := [.ref 49, .int x1, .int x2, .int x3, .int x4, .int x5, .int 0, v7, v8]) (stk' := [.int 0]) (σ' := σ) (by decide +kernel) rfl).trans ?_
      refine hb_br0T (hb_fe_ok (r := (.ifCond .eq 16, 3, 55, 0, 0, 0, 0)) (by decide +kernel)) (by decide) ?_
      refine (hb_blk [(.ldc 35, 2, 0, 0, 0, (-1000000), 0)] (pe := 57) (gs := []) (loc' := [.ref 49, .int x1, .int x2, .int x3, .int x4, .int x5, .int 0, v7, v8]) (stk' := [.int (-1000000)]) (σ' := σ) (by decide +kernel) rfl).trans ?_
      exact rfl
    · refine (hb_blk [(.iload 4, 2, 4, 0, 0, 0, 0), (.sipush 1024, 3, 0, 0, 0, 1024, 0), (.idiv, 1, 0, 0, 0, 0, 0), (.iload_n 2, 1, 2, 0, 0, 0, 0)] (pe := 27) (gs := [decide (¬ (1024 : Int32) = 0)]) (loc' := [.ref 49, .int x1, .int x2, .int x3, .int x4, .int x5, v6, v7, v8]) (stk' := [.int x2, .int (x4 / (1024 : Int32))]) (σ' := σ) (by decide +kernel) rfl).trans ?_
      refine congrArg (hb_g _) ?_
      refine hb_br (hb_fe_ok (r := (.if_icmp .ne 7, 3, 34, 0, 0, 0, 0)) (by decide +kernel)) rfl ?_ ?_
      · refine (hb_blk [(.iconst 0, 1, 0, 0, 0, 0, 0)] (pe := 35) (gs := []) (loc' := [.ref 49, .int x1, .int x2, .int x3, .int x4, .int x5, v6, v7, v8]) (stk' := [.int 0]) (σ' := σ) (by decide +kernel) rfl).trans ?_
        refine (hb_blk [(.istore 6, 2, 6, 0, 0, 0, 0), (.iload 6, 2, 6, 0, 0, 0, 0)] (pe := 39) (gs := []) (loc' := [.ref 49, .int x1, .int x2, .int x3, .int x4, .int x5, .int 0, v7, v8]) (stk' := [.int 0]) (σ' := σ) (by decide +kernel) rfl).trans ?_
        refine hb_br0T (hb_fe_ok (r := (.ifCond .eq 16, 3, 55, 0, 0, 0, 0)) (by decide +kernel)) (by decide) ?_
        refine (hb_blk [(.ldc 35, 2, 0, 0, 0, (-1000000), 0)] (pe := 57) (gs := []) (loc' := [.ref 49, .int x1, .int x2, .int x3, .int x4, .int x5, .int 0, v7, v8]) (stk' := [.int (-1000000)]) (σ' := σ) (by decide +kernel) rfl).trans ?_
        exact rfl
      · refine (hb_blk [(.iconst 1, 1, 0, 0, 0, 1, 0)] (pe := 31) (gs := []) (loc' := [.ref 49, .int x1, .int x2, .int x3, .int x4, .int x5, v6, v7, v8]) (stk' := [.int 1]) (σ' := σ) (by decide +kernel) rfl).trans ?_
        refine (hb_r_goto (hb_fe_ok (r := (.goto 4, 3, 35, 0, 0, 0, 0)) (by decide +kernel))).trans ?_
        refine (hb_blk [(.istore 6, 2, 6, 0, 0, 0, 0), (.iload 6, 2, 6, 0, 0, 0, 0)] (pe := 39) (gs := []) (loc' := [.ref 49, .int x1, .int x2, .int x3, .int x4, .int x5, .int 1, v7, v8]) (stk' := [.int 1]) (σ' := σ) (by decide +kernel) rfl).trans ?_
        refine hb_br0F (hb_fe_ok (r := (.ifCond .eq 16, 3, 55, 0, 0, 0, 0)) (by decide +kernel)) (by decide) ?_
        refine (hb_blk [(.aload_n 0, 1, 0, 0, 0, 0, 0), (.getfield 9, 3, 9, 0, 0, 0, 0), (.iload 4, 2, 4, 0, 0, 0, 0), (.iload_n 3, 1, 3, 0, 0, 0, 0)] (pe := 49) (gs := []) (loc' := [.ref 49, .int x1, .int x2, .int x3, .int x4, .int x5, .int 1, v7, v8]) (stk' := [.int x3, .int x4, .ref 36]) (σ' := σ) (by decide +kernel) rfl).trans ?_
        refine hb_Vi (hb_fe_ok (r := (.invokevirtual 72, 3, 10, 2, 0, 0, 0)) (by decide +kernel)) (by decide +kernel) (as := [.int x4, .int x3]) (v := .ref 36) (rest := []) rfl rfl (Nat.le_of_ble_eq_true rfl) (fun y49 σ49 => ?_)
        refine (hb_r_goto (hb_fe_ok (r := (.goto 5, 3, 57, 0, 0, 0, 0)) (by decide +kernel))).trans ?_
        exact rfl
set_option maxRecDepth 8000 in
theorem e65_57  (σ : hbM) (x1 : Int32) (x2 : Int32) (x3 : Int32) (x4 : Int32) (x5 : Int32) (x6 : Int32) (v7 : Value) (v8 : Value) (s0 : Int32) : hb_run hbSH 65 (57, [.ref 49, .int x1, .int x2, .int x3, .int x4, .int x5, .int x6, v7, v8], [.int s0], σ) = hb_ci (hb_ev hbSH 11 [.int x3] σ) (fun y60 σ60 => if (¬ s0 = (-1000000 : Int32)) then (hb_g [hb_01 0] (if (s0 = (-1000000 : Int32)) then (if (¬ s0 = (-1000000 : Int32)) then (some (some (.int s0), (hb_up σ60 49 8 0))) else (some (some (.int x4), (hb_up σ60 49 8 0)))) else (if (y60 = (0 : Int32)) then (hb_run hbSH 65 (6, [.ref 49, .int x1, .int x2, .int x3, .int s0, .int (x5 + (1 : Int32)), .int x6, .int s0, .int y60], [], (hb_up σ60 49 8 0))) else (if (¬ s0 = (-1000000 : Int32)) then (some (some (.int s0), (hb_up σ60 49 8 0))) else (some (some (.int x4), (hb_up σ60 49 8 0))))))) else (hb_ci (hb_ev hbSH 9 [.ref 36, .int x4] σ60) (fun y78 σ78 => hb_ci (hb_ev hbSH 8 [.ref 36, .int x4] σ78) (fun y89 σ89 => if (y89 = (-1000000 : Int32)) then (if (¬ y89 = (-1000000 : Int32)) then (some (some (.int y89), σ89)) else (some (some (.int x4), σ89))) else (if (y78 = (0 : Int32)) then (hb_run hbSH 65 (6, [.ref 49, .int x1, .int x2, .int x3, .int y89, .int (x5 + (1 : Int32)), .int x6, .int y89, .int y78], [], σ89)) else (if (¬ y89 = (-1000000 : Int32)) then (some (some (.int y89), σ89)) else (some (some (.int x4), σ89)))))))) := by
  refine (hb_blk [(.istore 7, 2, 7, 0, 0, 0, 0), (.iload_n 3, 1, 3, 0, 0, 0, 0)] (pe := 60) (gs := []) (loc' := [.ref 49, .int x1, .int x2, .int x3, .int x4, .int x5, .int x6, .int s0, v8]) (stk' := [.int x3]) (σ' := σ) (by decide +kernel) rfl).trans ?_
  refine hb_Si (hb_fe_ok (r := (.invokestatic 76, 3, 11, 1, 0, 0, 0)) (by decide +kernel)) (by decide) (by decide +kernel) (as := [.int x3]) (rest := []) rfl (Nat.le_of_ble_eq_true rfl) (fun y60 σ60 => ?_)
  refine (hb_blk [(.istore 8, 2, 8, 0, 0, 0, 0), (.iload 7, 2, 7, 0, 0, 0, 0), (.ldc 35, 2, 0, 0, 0, (-1000000), 0)] (pe := 69) (gs := []) (loc' := [.ref 49, .int x1, .int x2, .int x3, .int x4, .int x5, .int x6, .int s0, .int y60]) (stk' := [.int (-1000000), .int s0]) (σ' := σ60) (by decide +kernel) rfl).trans ?_
  refine hb_br (hb_fe_ok (r := (.if_icmp .ne 28, 3, 97, 0, 0, 0, 0)) (by decide +kernel)) rfl ?_ ?_
  · refine (hb_blk [(.aload_n 0, 1, 0, 0, 0, 0, 0), (.iconst 0, 1, 0, 0, 0, 0, 0), (.putfield 65, 3, 9, 8, 1, 0, 0)] (pe := 102) (gs := [hb_01 0]) (loc' := [.ref 49, .int x1, .int x2, .int x3, .int x4, .int x5, .int x6, .int s0, .int y60]) (stk' := []) (σ' := (hb_up σ60 49 8 0)) (by decide +kernel) rfl).trans ?_
    refine congrArg (hb_g _) ?_
    refine (hb_blk [(.iload 7, 2, 7, 0, 0, 0, 0), (.ldc 35, 2, 0, 0, 0, (-1000000), 0)] (pe := 106) (gs := []) (loc' := [.ref 49, .int x1, .int x2, .int x3, .int x4, .int x5, .int x6, .int s0, .int y60]) (stk' := [.int (-1000000), .int s0]) (σ' := (hb_up σ60 49 8 0)) (by decide +kernel) rfl).trans ?_
    refine hb_br (hb_fe_ok (r := (.if_icmp .eq 8, 3, 114, 0, 0, 0, 0)) (by decide +kernel)) rfl ?_ ?_
    · refine (hb_blk [(.iload 7, 2, 7, 0, 0, 0, 0), (.ldc 35, 2, 0, 0, 0, (-1000000), 0)] (pe := 118) (gs := []) (loc' := [.ref 49, .int x1, .int x2, .int x3, .int x4, .int x5, .int x6, .int s0, .int y60]) (stk' := [.int (-1000000), .int s0]) (σ' := (hb_up σ60 49 8 0)) (by decide +kernel) rfl).trans ?_
      refine hb_br (hb_fe_ok (r := (.if_icmp .ne 8, 3, 126, 0, 0, 0, 0)) (by decide +kernel)) rfl ?_ ?_
      · refine (hb_blk [(.iload 7, 2, 7, 0, 0, 0, 0)] (pe := 128) (gs := []) (loc' := [.ref 49, .int x1, .int x2, .int x3, .int x4, .int x5, .int x6, .int s0, .int y60]) (stk' := [.int s0]) (σ' := (hb_up σ60 49 8 0)) (by decide +kernel) rfl).trans ?_
        exact hb_r_iret (hb_fe_ok (r := (.ireturn, 1, 0, 0, 0, 0, 0)) (by decide +kernel))
      · refine (hb_blk [(.iload 4, 2, 4, 0, 0, 0, 0)] (pe := 123) (gs := []) (loc' := [.ref 49, .int x1, .int x2, .int x3, .int x4, .int x5, .int x6, .int s0, .int y60]) (stk' := [.int x4]) (σ' := (hb_up σ60 49 8 0)) (by decide +kernel) rfl).trans ?_
        refine (hb_r_goto (hb_fe_ok (r := (.goto 5, 3, 128, 0, 0, 0, 0)) (by decide +kernel))).trans ?_
        exact hb_r_iret (hb_fe_ok (r := (.ireturn, 1, 0, 0, 0, 0, 0)) (by decide +kernel))
    · refine (hb_blk [(.iload 8, 2, 8, 0, 0, 0, 0)] (pe := 111) (gs := []) (loc' := [.ref 49, .int x1, .int x2, .int x3, .int x4, .int x5, .int x6, .int s0, .int y60]) (stk' := [.int y60]) (σ' := (hb_up σ60 49 8 0)) (by decide +kernel) rfl).trans ?_
      refine hb_br0 (hb_fe_ok (r := (.ifCond .eq 18, 3, 129, 0, 0, 0, 0)) (by decide +kernel)) rfl ?_ ?_
      · refine (hb_blk [(.iload 7, 2, 7, 0, 0, 0, 0), (.istore 4, 2, 4, 0, 0, 0, 0), (.iinc 5 1, 3, 5, 0, 0, 1, 0)] (pe := 136) (gs := []) (loc' := [.ref 49, .int x1, .int x2, .int x3, .int s0, .int (x5 + (1 : Int32)), .int x6, .int s0, .int y60]) (stk' := []) (σ' := (hb_up σ60 49 8 0)) (by decide +kernel) rfl).trans ?_
        refine (hb_r_goto (hb_fe_ok (r := (.goto (-130), 3, 6, 0, 0, 0, 0)) (by decide +kernel))).trans ?_
        exact rfl
      · refine (hb_blk [(.iload 7, 2, 7, 0, 0, 0, 0), (.ldc 35, 2, 0, 0, 0, (-1000000), 0)] (pe := 118) (gs := []) (loc' := [.ref 49, .int x1, .int x2, .int x3, .int x4, .int x5, .int x6, .int s0, .int y60]) (stk' := [.int (-1000000), .int s0]) (σ' := (hb_up σ60 49 8 0)) (by decide +kernel) rfl).trans ?_
        refine hb_br (hb_fe_ok (r := (.if_icmp .ne 8, 3, 126, 0, 0, 0, 0)) (by decide +kernel)) rfl ?_ ?_
        · refine (hb_blk [(.iload 7, 2, 7, 0, 0, 0, 0)] (pe := 128) (gs := []) (loc' := [.ref 49, .int x1, .int x2, .int x3, .int x4, .int x5, .int x6, .int s0, .int y60]) (stk' := [.int s0]) (σ' := (hb_up σ60 49 8 0)) (by decide +kernel) rfl).trans ?_
          exact hb_r_iret (hb_fe_ok (r := (.ireturn, 1, 0, 0, 0, 0, 0)) (by decide +kernel))
        · refine (hb_blk [(.iload 4, 2, 4, 0, 0, 0, 0)] (pe := 123) (gs := []) (loc' := [.ref 49, .int x1, .int x2, .int x3, .int x4, .int x5, .int x6, .int s0, .int y60]) (stk' := [.int x4]) (σ' := (hb_up σ60 49 8 0)) (by decide +kernel) rfl).trans ?_
          refine (hb_r_goto (hb_fe_ok (r := (.goto 5, 3, 128, 0, 0, 0, 0)) (by decide +kernel))).trans ?_
          exact hb_r_iret (hb_fe_ok (r := (.ireturn, 1, 0, 0, 0, 0, 0)) (by decide +kernel))
  · refine (hb_blk [(.aload_n 0, 1, 0, 0, 0, 0, 0), (.getfield 9, 3, 9, 0, 0, 0, 0), (.iload 4, 2, 4, 0, 0, 0, 0)] (pe := 78) (gs := []) (loc' := [.ref 49, .int x1, .int x2, .int x3, .int x4, .int x5, .int x6, .int s0, .int y60]) (stk' := [.int x4, .ref 36]) (σ' := σ60) (by decide +kernel) rfl).trans ?_
    refine hb_Vi (hb_fe_ok (r := (.invokevirtual 50, 3, 9, 1, 0, 0, 0)) (by decide +kernel)) (by decide +kernel) (as := [.int x4]) (v := .ref 36) (rest := []) rfl rfl (Nat.le_of_ble_eq_true rfl) (fun y78 σ78 => ?_)
    refine (hb_blk [(.istore 8, 2, 8, 0, 0, 0, 0), (.aload_n 0, 1, 0, 0, 0, 0, 0), (.getfield 9, 3, 9, 0, 0, 0, 0), (.iload 4, 2, 4, 0, 0, 0, 0)] (pe := 89) (gs := []) (loc' := [.ref 49, .int x1, .int x2, .int x3, .int x4, .int x5, .int x6, .int s0, .int y78]) (stk' := [.int x4, .ref 36]) (σ' := σ78) (by decide +kernel) rfl).trans ?_
    refine hb_Vi (hb_fe_ok (r := (.invokevirtual 58, 3, 8, 1, 0, 0, 0)) (by decide +kernel)) (by decide +kernel) (as := [.int x4]) (v := .ref 36) (rest := []) rfl rfl (Nat.le_of_ble_eq_true rfl) (fun y89 σ89 => ?_)
    refine (hb_blk [(.istore 7, 2, 7, 0, 0, 0, 0)] (pe := 94) (gs := []) (loc' := [.ref 49, .int x1, .int x2, .int x3, .int x4, .int x5, .int x6, .int y89, .int y78]) (stk' := []) (σ' := σ89) (by decide +kernel) rfl).trans ?_
    refine (hb_r_goto (hb_fe_ok (r := (.goto 8, 3, 102, 0, 0, 0, 0)) (by decide +kernel))).trans ?_
    refine (hb_blk [(.iload 7, 2, 7, 0, 0, 0, 0), (.ldc 35, 2, 0, 0, 0, (-1000000), 0)] (pe := 106) (gs := []) (loc' := [.ref 49, .int x1, .int x2, .int x3, .int x4, .int x5, .int x6, .int y89, .int y78]) (stk' := [.int (-1000000), .int y89]) (σ' := σ89) (by decide +kernel) rfl).trans ?_
    refine hb_br (hb_fe_ok (r := (.if_icmp .eq 8, 3, 114, 0, 0, 0, 0)) (by decide +kernel)) rfl ?_ ?_
    · refine (hb_blk [(.iload 7, 2, 7, 0, 0, 0, 0), (.ldc 35, 2, 0, 0, 0, (-1000000), 0)] (pe := 118) (gs := []) (loc' := [.ref 49, .int x1, .int x2, .int x3, .int x4, .int x5, .int x6, .int y89, .int y78]) (stk' := [.int (-1000000), .int y89]) (σ' := σ89) (by decide +kernel) rfl).trans ?_
      refine hb_br (hb_fe_ok (r := (.if_icmp .ne 8, 3, 126, 0, 0, 0, 0)) (by decide +kernel)) rfl ?_ ?_
      · refine (hb_blk [(.iload 7, 2, 7, 0, 0, 0, 0)] (pe := 128) (gs := []) (loc' := [.ref 49, .int x1, .int x2, .int x3, .int x4, .int x5, .int x6, .int y89, .int y78]) (stk' := [.int y89]) (σ' := σ89) (by decide +kernel) rfl).trans ?_
        exact hb_r_iret (hb_fe_ok (r := (.ireturn, 1, 0, 0, 0, 0, 0)) (by decide +kernel))
      · refine (hb_blk [(.iload 4, 2, 4, 0, 0, 0, 0)] (pe := 123) (gs := []) (loc' := [.ref 49, .int x1, .int x2, .int x3, .int x4, .int x5, .int x6, .int y89, .int y78]) (stk' := [.int x4]) (σ' := σ89) (by decide +kernel) rfl).trans ?_
        refine (hb_r_goto (hb_fe_ok (r := (.goto 5, 3, 128, 0, 0, 0, 0)) (by decide +kernel))).trans ?_
        exact hb_r_iret (hb_fe_ok (r := (.ireturn, 1, 0, 0, 0, 0, 0)) (by decide +kernel))
    · refine (hb_blk [(.iload 8, 2, 8, 0, 0, 0, 0)] (pe := 111) (gs := []) (loc' := [.ref 49, .int x1, .int x2, .int x3, .int x4, .int x5, .int x6, .int y89, .int y78]) (stk' := [.int y78]) (σ' := σ89) (by decide +kernel) rfl).trans ?_
      refine hb_br0 (hb_fe_ok (r := (.ifCond .eq 18, 3, 129, 0, 0, 0, 0)) (by decide +kernel)) rfl ?_ ?_
      · refine (hb_blk [(.iload 7, 2, 7, 0, 0, 0, 0), (.istore 4, 2, 4, 0, 0, 0, 0), (.iinc 5 1, 3, 5, 0, 0, 1, 0)] (pe := 136) (gs := []) (loc' := [.ref 49, .int x1, .int x2, .int x3, .int y89, .int (x5 + (1 : Int32)), .int x6, .int y89, .int y78]) (stk' := []) (σ' := σ89) (by decide +kernel) rfl).trans ?_
        refine (hb_r_goto (hb_fe_ok (r := (.goto (-130), 3, 6, 0, 0, 0, 0)) (by decide +kernel))).trans ?_
        exact rfl
      · refine (hb_blk [(.iload 7, 2, 7, 0, 0, 0, 0), (.ldc 35, 2, 0, 0, 0, (-1000000), 0)] (pe := 118) (gs := []) (loc' := [.ref 49, .int x1, .int x2, .int x3, .int x4, .int x5, .int x6, .int y89, .int y78]) (stk' := [.int (-1000000), .int y89]) (σ' := σ89) (by decide +kernel) rfl).trans ?_
        refine hb_br (hb_fe_ok (r := (.if_icmp .ne 8, 3, 126, 0, 0, 0, 0)) (by decide +kernel)) rfl ?_ ?_
        · refine (hb_blk [(.iload 7, 2, 7, 0, 0, 0, 0)] (pe := 128) (gs := []) (loc' := [.ref 49, .int x1, .int x2, .int x3, .int x4, .int x5, .int x6, .int y89, .int y78]) (stk' := [.int y89]) (σ' := σ89) (by decide +kernel) rfl).trans ?_
          exact hb_r_iret (hb_fe_ok (r := (.ireturn, 1, 0, 0, 0, 0, 0)) (by decide +kernel))
        · refine (hb_blk [(.iload 4, 2, 4, 0, 0, 0, 0)] (pe := 123) (gs := []) (loc' := [.ref 49, .int x1, .int x2, .int x3, .int x4, .int x5, .int x6, .int y89, .int y78]) (stk' := [.int x4]) (σ' := σ89) (by decide +kernel) rfl).trans ?_
          refine (hb_r_goto (hb_fe_ok (r := (.goto 5, 3, 128, 0, 0, 0, 0)) (by decide +kernel))).trans ?_
          exact hb_r_iret (hb_fe_ok (r := (.ireturn, 1, 0, 0, 0, 0, 0)) (by decide +kernel))
set_option maxRecDepth 8000 in
theorem e66_0  (σ : hbM) (x1 : Int32) : hb_run hbSH 66 (0, [.ref 49, .int x1, .null, .null], [], σ) = hb_g [hb_in x1 1024] (if ((σ 11 (Int32.toNatClampNeg x1)) = (0 : Int32)) then (hb_g [hb_in x1 1024] (if ((σ 12 (Int32.toNatClampNeg x1)) = (0 : Int32)) then (hb_cv (hb_ev hbSH 27 [.ref 44] (hb_up (hb_up σ 49 6 (-1000000)) 49 7 (-1000000))) (fun σ47 => hb_ci (hb_ev hbSH 28 [.ref 44, .int x1, .int 0] σ47) (fun y56 σ56 => hb_g [hb_in 0 17408, hb_in x1 17408] (hb_run hbSH 66 (84, [.ref 49, .int x1, .int 1, .int 0], [], (hb_up (hb_up σ56 45 (Int32.toNatClampNeg 0) x1) 46 (Int32.toNatClampNeg x1) 0)))))) else (some (none, (hb_up (hb_up (hb_up σ 49 6 (-1000000)) 49 7 (-1000000)) 49 6 0))))) else (some (none, (hb_up (hb_up σ 49 6 (-1000000)) 49 7 (-1000000))))) := by
  refine (hb_blk [(.aload_n 0, 1, 0, 0, 0, 0, 0), (.ldc 35, 2, 0, 0, 0, (-1000000), 0), (.putfield 79, 3, 9, 6, 0, 0, 0), (.aload_n 0, 1, 0, 0, 0, 0, 0), (.ldc 35, 2, 0, 0, 0, (-1000000), 0), (.putfield 82, 3, 9, 7, 0, 0, 0), (.aload_n 0, 1, 0, 0, 0, 0, 0), (.getfield 21, 3, 9, 1, 0, 0, 0), (.getfield 44, 3, 10, 6, 0, 0, 0), (.iload_n 1, 1, 1, 0, 0, 0, 0), (.baload, 1, 0, 0, 0, 0, 0)] (pe := 21) (gs := [hb_in x1 1024]) (loc' := [.ref 49, .int x1, .null, .null]) (stk' := [.int (σ 11 (Int32.toNatClampNeg x1))]) (σ' := (hb_up (hb_up σ 49 6 (-1000000)) 49 7 (-1000000))) (by decide +kernel) rfl).trans ?_
  refine congrArg (hb_g _) ?_
  refine hb_br0 (hb_fe_ok (r := (.ifCond .eq 4, 3, 25, 0, 0, 0, 0)) (by decide +kernel)) rfl ?_ ?_
  · refine (hb_blk [(.aload_n 0, 1, 0, 0, 0, 0, 0), (.getfield 21, 3, 9, 1, 0, 0, 0), (.getfield 85, 3, 10, 7, 0, 0, 0), (.iload_n 1, 1, 1, 0, 0, 0, 0), (.baload, 1, 0, 0, 0, 0, 0)] (pe := 34) (gs := [hb_in x1 1024]) (loc' := [.ref 49, .int x1, .null, .null]) (stk' := [.int (σ 12 (Int32.toNatClampNeg x1))]) (σ' := (hb_up (hb_up σ 49 6 (-1000000)) 49 7 (-1000000))) (by decide +kernel) rfl).trans ?_
    refine congrArg (hb_g _) ?_
    refine hb_br0 (hb_fe_ok (r := (.ifCond .eq 9, 3, 43, 0, 0, 0, 0)) (by decide +kernel)) rfl ?_ ?_
    · refine (hb_blk [(.aload_n 0, 1, 0, 0, 0, 0, 0), (.getfield 22, 3, 9, 2, 0, 0, 0)] (pe := 47) (gs := []) (loc' := [.ref 49, .int x1, .null, .null]) (stk' := [.ref 44]) (σ' := (hb_up (hb_up σ 49 6 (-1000000)) 49 7 (-1000000))) (by decide +kernel) rfl).trans ?_
      refine hb_Vv (hb_fe_ok (r := (.invokevirtual 26, 3, 27, 0, 0, 0, 0)) (by decide +kernel)) (by decide +kernel) (as := []) (v := .ref 44) (rest := []) rfl rfl (Nat.le_of_ble_eq_true rfl) (fun σ47 => ?_)
      refine (hb_blk [(.aload_n 0, 1, 0, 0, 0, 0, 0), (.getfield 22, 3, 9, 2, 0, 0, 0), (.iload_n 1, 1, 1, 0, 0, 0, 0), (.iconst 0, 1, 0, 0, 0, 0, 0)] (pe := 56) (gs := []) (loc' := [.ref 49, .int x1, .null, .null]) (stk' := [.int 0, .int x1, .ref 44]) (σ' := σ47) (by decide +kernel) rfl).trans ?_
      refine hb_Vi (hb_fe_ok (r := (.invokevirtual 40, 3, 28, 2, 0, 0, 0)) (by decide +kernel)) (by decide +kernel) (as := [.int x1, .int 0]) (v := .ref 44) (rest := []) rfl rfl (Nat.le_of_ble_eq_true rfl) (fun y56 σ56 => ?_)
      refine (hb_blk [(.pop, 1, 0, 0, 0, 0, 0), (.aload_n 0, 1, 0, 0, 0, 0, 0), (.getfield 22, 3, 9, 2, 0, 0, 0), (.getfield 88, 3, 4, 0, 0, 0, 0), (.iconst 0, 1, 0, 0, 0, 0, 0), (.iload_n 1, 1, 1, 0, 0, 0, 0), (.iastore, 1, 0, 0, 0, 0, 0), (.aload_n 0, 1, 0, 0, 0, 0, 0), (.getfield 22, 3, 9, 2, 0, 0, 0), (.getfield 92, 3, 4, 1, 0, 0, 0), (.iload_n 1, 1, 1, 0, 0, 0, 0), (.iconst 0, 1, 0, 0, 0, 0, 0), (.iastore, 1, 0, 0, 0, 0, 0), (.iconst 1, 1, 0, 0, 0, 1, 0), (.istore_n 2, 1, 2, 0, 0, 0, 0), (.iconst 0, 1, 0, 0, 0, 0, 0), (.istore_n 3, 1, 3, 0, 0, 0, 0)] (pe := 84) (gs := [hb_in 0 17408, hb_in x1 17408]) (loc' := [.ref 49, .int x1, .int 1, .int 0]) (stk' := []) (σ' := (hb_up (hb_up σ56 45 (Int32.toNatClampNeg 0) x1) 46 (Int32.toNatClampNeg x1) 0)) (by decide +kernel) rfl).trans ?_
      refine congrArg (hb_g _) ?_
      exact rfl
    · refine (hb_blk [(.aload_n 0, 1, 0, 0, 0, 0, 0), (.iconst 0, 1, 0, 0, 0, 0, 0), (.putfield 79, 3, 9, 6, 0, 0, 0)] (pe := 42) (gs := []) (loc' := [.ref 49, .int x1, .null, .null]) (stk' := []) (σ' := (hb_up (hb_up (hb_up σ 49 6 (-1000000)) 49 7 (-1000000)) 49 6 0)) (by decide +kernel) rfl).trans ?_
      exact hb_r_vret (hb_fe_ok (r := (.return_, 1, 0, 0, 0, 0, 0)) (by decide +kernel))
  · exact hb_r_vret (hb_fe_ok (r := (.return_, 1, 0, 0, 0, 0, 0)) (by decide +kernel))
set_option maxRecDepth 8000 in
theorem e66_84  (σ : hbM) (x1 : Int32) (x2 : Int32) (x3 : Int32) : hb_run hbSH 66 (84, [.ref 49, .int x1, .int x2, .int x3], [], σ) = if (x2 ≤ x3) then (some (none, σ)) else (if ((1024 : Int32) ≤ x3) then (some (none, σ)) else (if (¬ (σ 49 6) = (-1000000 : Int32)) then (some (none, σ)) else (hb_g [hb_in x3 17408] (hb_ci (hb_ev hbSH 67 [.ref 49, .int (σ 45 (Int32.toNatClampNeg x3)), .int x2] σ) (fun y116 σ116 => hb_run hbSH 66 (84, [.ref 49, .int x1, .int y116, .int (x3 + (1 : Int32))], [], σ116)))))) := by
  refine (hb_blk [(.iload_n 3, 1, 3, 0, 0, 0, 0), (.iload_n 2, 1, 2, 0, 0, 0, 0)] (pe := 86) (gs := []) (loc' := [.ref 49, .int x1, .int x2, .int x3]) (stk' := [.int x2, .int x3]) (σ' := σ) (by decide +kernel) rfl).trans ?_
  refine hb_br (hb_fe_ok (r := (.if_icmp .ge 40, 3, 126, 0, 0, 0, 0)) (by decide +kernel)) rfl ?_ ?_
  · exact hb_r_vret (hb_fe_ok (r := (.return_, 1, 0, 0, 0, 0, 0)) (by decide +kernel))
  · refine (hb_blk [(.iload_n 3, 1, 3, 0, 0, 0, 0), (.sipush 1024, 3, 0, 0, 0, 1024, 0)] (pe := 93) (gs := []) (loc' := [.ref 49, .int x1, .int x2, .int x3]) (stk' := [.int 1024, .int x3]) (σ' := σ) (by decide +kernel) rfl).trans ?_
    refine hb_br (hb_fe_ok (r := (.if_icmp .ge 33, 3, 126, 0, 0, 0, 0)) (by decide +kernel)) rfl ?_ ?_
    · exact hb_r_vret (hb_fe_ok (r := (.return_, 1, 0, 0, 0, 0, 0)) (by decide +kernel))
    · refine (hb_blk [(.aload_n 0, 1, 0, 0, 0, 0, 0), (.getfield 79, 3, 9, 6, 0, 0, 0), (.ldc 35, 2, 0, 0, 0, (-1000000), 0)] (pe := 102) (gs := []) (loc' := [.ref 49, .int x1, .int x2, .int x3]) (stk' := [.int (-1000000), .int (σ 49 6)]) (σ' := σ) (by decide +kernel) rfl).trans ?_
      refine hb_br (hb_fe_ok (r := (.if_icmp .ne 24, 3, 126, 0, 0, 0, 0)) (by decide +kernel)) rfl ?_ ?_
      · exact hb_r_vret (hb_fe_ok (r := (.return_, 1, 0, 0, 0, 0, 0)) (by decide +kernel))
      · refine (hb_blk [(.aload_n 0, 1, 0, 0, 0, 0, 0), (.aload_n 0, 1, 0, 0, 0, 0, 0), (.getfield 22, 3, 9, 2, 0, 0, 0), (.getfield 88, 3, 4, 0, 0, 0, 0), (.iload_n 3, 1, 3, 0, 0, 0, 0), (.iaload, 1, 0, 0, 0, 0, 0), (.iload_n 2, 1, 2, 0, 0, 0, 0)] (pe := 116) (gs := [hb_in x3 17408]) (loc' := [.ref 49, .int x1, .int x2, .int x3]) (stk' := [.int x2, .int (σ 45 (Int32.toNatClampNeg x3)), .ref 49]) (σ' := σ) (by decide +kernel) rfl).trans ?_
        refine congrArg (hb_g _) ?_
        refine hb_Vi (hb_fe_ok (r := (.invokevirtual 95, 3, 67, 2, 0, 0, 0)) (by decide +kernel)) (by decide +kernel) (as := [.int (σ 45 (Int32.toNatClampNeg x3)), .int x2]) (v := .ref 49) (rest := []) rfl rfl (Nat.le_of_ble_eq_true rfl) (fun y116 σ116 => ?_)
        refine (hb_blk [(.istore_n 2, 1, 2, 0, 0, 0, 0), (.iinc 3 1, 3, 3, 0, 0, 1, 0)] (pe := 123) (gs := []) (loc' := [.ref 49, .int x1, .int y116, .int (x3 + (1 : Int32))]) (stk' := []) (σ' := σ116) (by decide +kernel) rfl).trans ?_
        refine (hb_r_goto (hb_fe_ok (r := (.goto (-39), 3, 84, 0, 0, 0, 0)) (by decide +kernel))).trans ?_
        exact rfl
set_option maxRecDepth 8000 in
theorem e67_0  (σ : hbM) (x1 : Int32) (x2 : Int32) : hb_run hbSH 67 (0, [.ref 49, .int x1, .int x2, .null, .null, .null, .null], [], σ) = hb_g [hb_in x1 17408] (hb_run hbSH 67 (18, [.ref 49, .int x1, .int x2, .int x2, .int ((σ 46 (Int32.toNatClampNeg x1)) + (1 : Int32)), .int 0, .null], [], σ)) := by
  refine (hb_blk [(.iload_n 2, 1, 2, 0, 0, 0, 0), (.istore_n 3, 1, 3, 0, 0, 0, 0), (.aload_n 0, 1, 0, 0, 0, 0, 0), (.getfield 22, 3, 9, 2, 0, 0, 0), (.getfield 92, 3, 4, 1, 0, 0, 0), (.iload_n 1, 1, 1, 0, 0, 0, 0), (.iaload, 1, 0, 0, 0, 0, 0), (.iconst 1, 1, 0, 0, 0, 1, 0), (.iadd, 1, 0, 0, 0, 0, 0), (.istore 4, 2, 4, 0, 0, 0, 0), (.iconst 0, 1, 0, 0, 0, 0, 0), (.istore 5, 2, 5, 0, 0, 0, 0)] (pe := 18) (gs := [hb_in x1 17408]) (loc' := [.ref 49, .int x1, .int x2, .int x2, .int ((σ 46 (Int32.toNatClampNeg x1)) + (1 : Int32)), .int 0, .null]) (stk' := []) (σ' := σ) (by decide +kernel) rfl).trans ?_
  refine congrArg (hb_g _) ?_
  exact rfl
set_option maxRecDepth 8000 in
theorem e67_18  (σ : hbM) (x1 : Int32) (x2 : Int32) (x3 : Int32) (x4 : Int32) (x5 : Int32) (v6 : Value) : hb_run hbSH 67 (18, [.ref 49, .int x1, .int x2, .int x3, .int x4, .int x5, v6], [], σ) = if ((4 : Int32) < x5) then (some (some (.int x3), σ)) else (if (¬ (σ 49 6) = (-1000000 : Int32)) then (some (some (.int x3), σ)) else (hb_ci (hb_ev hbSH 68 [.ref 49, .int x1, .int x5] σ) (fun y37 σ37 => hb_g [hb_in y37 1024] (if (¬ (σ37 11 (Int32.toNatClampNeg y37)) = (0 : Int32)) then (hb_run hbSH 67 (18, [.ref 49, .int x1, .int x2, .int x3, .int x4, .int (x5 + (1 : Int32)), .int y37], [], σ37)) else (hb_ci (hb_ev hbSH 28 [.ref 44, .int y37, .int 0] σ37) (fun y62 σ62 => if (y62 = (0 : Int32)) then (hb_run hbSH 67 (18, [.ref 49, .int x1, .int x2, .int x3, .int x4, .int (x5 + (1 : Int32)), .int y37], [], σ62)) else (if ((1024 : Int32) ≤ x3) then (hb_run hbSH 67 (18, [.ref 49, .int x1, .int x2, .int x3, .int x4, .int (x5 + (1 : Int32)), .int y37], [], σ62)) else (hb_g [hb_in x3 17408, hb_in y37 17408] (if (¬ x4 = (1 : Int32)) then (hb_g [hb_in x1 17408] (hb_run hbSH 67 (130, [.ref 49, .int x1, .int x2, .int (x3 + (1 : Int32)), .int x4, .int x5, .int y37], [.int (σ62 47 (Int32.toNatClampNeg x1)), .int y37, .ref 47], (hb_up (hb_up σ62 45 (Int32.toNatClampNeg x3) y37) 46 (Int32.toNatClampNeg y37) x4)))) else (hb_run hbSH 67 (130, [.ref 49, .int x1, .int x2, .int (x3 + (1 : Int32)), .int x4, .int x5, .int y37], [.int x5, .int y37, .ref 47], (hb_up (hb_up σ62 45 (Int32.toNatClampNeg x3) y37) 46 (Int32.toNatClampNeg y37) x4)))))))))))) := by
  refine (hb_blk [(.iload 5, 2, 5, 0, 0, 0, 0), (.iconst 4, 1, 0, 0, 0, 4, 0)] (pe := 21) (gs := []) (loc' := [.ref 49, .int x1, .int x2, .int x3, .int x4, .int x5, v6]) (stk' := [.int 4, .int x5]) (σ' := σ) (by decide +kernel) rfl).trans ?_
  refine hb_br (hb_fe_ok (r := (.if_icmp .gt 172, 3, 193, 0, 0, 0, 0)) (by decide +kernel)) rfl ?_ ?_
  · refine (hb_blk [(.iload_n 3, 1, 3, 0, 0, 0, 0)] (pe := 194) (gs := []) (loc' := [.ref 49, .int x1, .int x2, .int x3, .int x4, .int x5, v6]) (stk' := [.int x3]) (σ' := σ) (by decide +kernel) rfl).trans ?_
    exact hb_r_iret (hb_fe_ok (r := (.ireturn, 1, 0, 0, 0, 0, 0)) (by decide +kernel))
  · refine (hb_blk [(.aload_n 0, 1, 0, 0, 0, 0, 0), (.getfield 79, 3, 9, 6, 0, 0, 0), (.ldc 35, 2, 0, 0, 0, (-1000000), 0)] (pe := 30) (gs := []) (loc' := [.ref 49, .int x1, .int x2, .int x3, .int x4, .int x5, v6]) (stk' := [.int (-1000000), .int (σ 49 6)]) (σ' := σ) (by decide +kernel) rfl).trans ?_
    refine hb_br (hb_fe_ok (r := (.if_icmp .ne 163, 3, 193, 0, 0, 0, 0)) (by decide +kernel)) rfl ?_ ?_
    · refine (hb_blk [(.iload_n 3, 1, 3, 0, 0, 0, 0)] (pe := 194) (gs := []) (loc' := [.ref 49, .int x1, .int x2, .int x3, .int x4, .int x5, v6]) (stk' := [.int x3]) (σ' := σ) (by decide +kernel) rfl).trans ?_
      exact hb_r_iret (hb_fe_ok (r := (.ireturn, 1, 0, 0, 0, 0, 0)) (by decide +kernel))
    · refine (hb_blk [(.aload_n 0, 1, 0, 0, 0, 0, 0), (.iload_n 1, 1, 1, 0, 0, 0, 0), (.iload 5, 2, 5, 0, 0, 0, 0)] (pe := 37) (gs := []) (loc' := [.ref 49, .int x1, .int x2, .int x3, .int x4, .int x5, v6]) (stk' := [.int x5, .int x1, .ref 49]) (σ' := σ) (by decide +kernel) rfl).trans ?_
      refine hb_Vi (hb_fe_ok (r := (.invokevirtual 98, 3, 68, 2, 0, 0, 0)) (by decide +kernel)) (by decide +kernel) (as := [.int x1, .int x5]) (v := .ref 49) (rest := []) rfl rfl (Nat.le_of_ble_eq_true rfl) (fun y37 σ37 => ?_)
      refine (hb_blk [(.istore 6, 2, 6, 0, 0, 0, 0), (.aload_n 0, 1, 0, 0, 0, 0, 0), (.getfield 21, 3, 9, 1, 0, 0, 0), (.getfield 44, 3, 10, 6, 0, 0, 0), (.iload 6, 2, 6, 0, 0, 0, 0), (.baload, 1, 0, 0, 0, 0, 0)] (pe := 52) (gs := [hb_in y37 1024]) (loc' := [.ref 49, .int x1, .int x2, .int x3, .int x4, .int x5, .int y37]) (stk' := [.int (σ37 11 (Int32.toNatClampNeg y37))]) (σ' := σ37) (by decide +kernel) rfl).trans ?_
      refine congrArg (hb_g _) ?_
      refine hb_br0 (hb_fe_ok (r := (.ifCond .ne 135, 3, 187, 0, 0, 0, 0)) (by decide +kernel)) rfl ?_ ?_
      · refine (hb_blk [(.iinc 5 1, 3, 5, 0, 0, 1, 0)] (pe := 190) (gs := []) (loc' := [.ref 49, .int x1, .int x2, .int x3, .int x4, .int (x5 + (1 : Int32)), .int y37]) (stk' := []) (σ' := σ37) (by decide +kernel) rfl).trans ?_
        refine (hb_r_goto (hb_fe_ok (r := (.goto (-172), 3, 18, 0, 0, 0, 0)) (by decide +kernel))).trans ?_
        exact rfl
      · refine (hb_blk [(.aload_n 0, 1, 0, 0, 0, 0, 0), (.getfield 22, 3, 9, 2, 0, 0, 0), (.iload 6, 2, 6, 0, 0, 0, 0), (.iconst 0, 1, 0, 0, 0, 0, 0)] (pe := 62) (gs := []) (loc' := [.ref 49, .int x1, .int x2, .int x3, .int x4, .int x5, .int y37]) (stk' := [.int 0, .int y37, .ref 44]) (σ' := σ37) (by decide +kernel) rfl).trans ?_
        refine hb_Vi (hb_fe_ok (r := (.invokevirtual 40, 3, 28, 2, 0, 0, 0)) (by decide +kernel)) (by decide +kernel) (as := [.int y37, .int 0]) (v := .ref 44) (rest := []) rfl rfl (Nat.le_of_ble_eq_true rfl) (fun y62 σ62 => ?_)
        refine hb_br0 (hb_fe_ok (r := (.ifCond .eq 122, 3, 187, 0, 0, 0, 0)) (by decide +kernel)) rfl ?_ ?_
        · refine (hb_blk [(.iinc 5 1, 3, 5, 0, 0, 1, 0)] (pe := 190) (gs := []) (loc' := [.ref 49, .int x1, .int x2, .int x3, .int x4, .int (x5 + (1 : Int32)), .int y37]) (stk' := []) (σ' := σ62) (by decide +kernel) rfl).trans ?_
          refine (hb_r_goto (hb_fe_ok (r := (.goto (-172), 3, 18, 0, 0, 0, 0)) (by decide +kernel))).trans ?_
          exact rfl
        · refine (hb_blk [(.iload_n 3, 1, 3, 0, 0, 0, 0), (.sipush 1024, 3, 0, 0, 0, 1024, 0)] (pe := 72) (gs := []) (loc' := [.ref 49, .int x1, .int x2, .int x3, .int x4, .int x5, .int y37]) (stk' := [.int 1024, .int x3]) (σ' := σ62) (by decide +kernel) rfl).trans ?_
          refine hb_br (hb_fe_ok (r := (.if_icmp .ge 115, 3, 187, 0, 0, 0, 0)) (by decide +kernel)) rfl ?_ ?_
          · refine (hb_blk [(.iinc 5 1, 3, 5, 0, 0, 1, 0)] (pe := 190) (gs := []) (loc' := [.ref 49, .int x1, .int x2, .int x3, .int x4, .int (x5 + (1 : Int32)), .int y37]) (stk' := []) (σ' := σ62) (by decide +kernel) rfl).trans ?_
            refine (hb_r_goto (hb_fe_ok (r := (.goto (-172), 3, 18, 0, 0, 0, 0)) (by decide +kernel))).trans ?_
            exact rfl
          · refine (hb_blk [(.aload_n 0, 1, 0, 0, 0, 0, 0), (.getfield 22, 3, 9, 2, 0, 0, 0), (.getfield 88, 3, 4, 0, 0, 0, 0), (.iload_n 3, 1, 3, 0, 0, 0, 0), (.iload 6, 2, 6, 0, 0, 0, 0), (.iastore, 1, 0, 0, 0, 0, 0), (.iinc 3 1, 3, 3, 0, 0, 1, 0), (.aload_n 0, 1, 0, 0, 0, 0, 0), (.getfield 22, 3, 9, 2, 0, 0, 0), (.getfield 92, 3, 4, 1, 0, 0, 0), (.iload 6, 2, 6, 0, 0, 0, 0), (.iload 4, 2, 4, 0, 0, 0, 0), (.iastore, 1, 0, 0, 0, 0, 0), (.aload_n 0, 1, 0, 0, 0, 0, 0), (.getfield 22, 3, 9, 2, 0, 0, 0), (.getfield 101, 3, 4, 2, 0, 0, 0), (.iload 6, 2, 6, 0, 0, 0, 0), (.iload 4, 2, 4, 0, 0, 0, 0), (.iconst 1, 1, 0, 0, 0, 1, 0)] (pe := 113) (gs := [hb_in x3 17408, hb_in y37 17408]) (loc' := [.ref 49, .int x1, .int x2, .int (x3 + (1 : Int32)), .int x4, .int x5, .int y37]) (stk' := [.int 1, .int x4, .int y37, .ref 47]) (σ' := (hb_up (hb_up σ62 45 (Int32.toNatClampNeg x3) y37) 46 (Int32.toNatClampNeg y37) x4)) (by decide +kernel) rfl).trans ?_
            refine congrArg (hb_g _) ?_
            refine hb_br (hb_fe_ok (r := (.if_icmp .ne 8, 3, 121, 0, 0, 0, 0)) (by decide +kernel)) rfl ?_ ?_
            · refine (hb_blk [(.aload_n 0, 1, 0, 0, 0, 0, 0), (.getfield 22, 3, 9, 2, 0, 0, 0), (.getfield 101, 3, 4, 2, 0, 0, 0), (.iload_n 1, 1, 1, 0, 0, 0, 0), (.iaload, 1, 0, 0, 0, 0, 0)] (pe := 130) (gs := [hb_in x1 17408]) (loc' := [.ref 49, .int x1, .int x2, .int (x3 + (1 : Int32)), .int x4, .int x5, .int y37]) (stk' := [.int (σ62 47 (Int32.toNatClampNeg x1)), .int y37, .ref 47]) (σ' := (hb_up (hb_up σ62 45 (Int32.toNatClampNeg x3) y37) 46 (Int32.toNatClampNeg y37) x4)) (by decide +kernel) rfl).trans ?_
              refine congrArg (hb_g _) ?_
              exact rfl
            · refine (hb_blk [(.iload 5, 2, 5, 0, 0, 0, 0)] (pe := 118) (gs := []) (loc' := [.ref 49, .int x1, .int x2, .int (x3 + (1 : Int32)), .int x4, .int x5, .int y37]) (stk' := [.int x5, .int y37, .ref 47]) (σ' := (hb_up (hb_up σ62 45 (Int32.toNatClampNeg x3) y37) 46 (Int32.toNatClampNeg y37) x4)) (by decide +kernel) rfl).trans ?_
              refine (hb_r_goto (hb_fe_ok (r := (.goto 12, 3, 130, 0, 0, 0, 0)) (by decide +kernel))).trans ?_
              exact rfl
set_option maxRecDepth 8000 in
theorem e67_130  (σ : hbM) (x1 : Int32) (x2 : Int32) (x3 : Int32) (x4 : Int32) (x5 : Int32) (x6 : Int32) (s0 : Int32) (s1 : Int32) : hb_run hbSH 67 (130, [.ref 49, .int x1, .int x2, .int x3, .int x4, .int x5, .int x6], [.int s0, .int s1, .ref 47], σ) = hb_g [hb_in s1 17408, hb_in x6 1024] (if ((σ 12 (Int32.toNatClampNeg x6)) = (0 : Int32)) then (hb_run hbSH 67 (152, [.ref 49, .int x1, .int x2, .int x3, .int x4, .int x5, .int x6], [.int (-1000000), .ref 49], (hb_up σ 47 (Int32.toNatClampNeg s1) s0))) else (hb_run hbSH 67 (152, [.ref 49, .int x1, .int x2, .int x3, .int x4, .int x5, .int x6], [.int x4, .ref 49], (hb_up σ 47 (Int32.toNatClampNeg s1) s0)))) := by
  refine (hb_blk [(.iastore, 1, 0, 0, 0, 0, 0), (.aload_n 0, 1, 0, 0, 0, 0, 0), (.aload_n 0, 1, 0, 0, 0, 0, 0), (.getfield 21, 3, 9, 1, 0, 0, 0), (.getfield 85, 3, 10, 7, 0, 0, 0), (.iload 6, 2, 6, 0, 0, 0, 0), (.baload, 1, 0, 0, 0, 0, 0)] (pe := 142) (gs := [hb_in s1 17408, hb_in x6 1024]) (loc' := [.ref 49, .int x1, .int x2, .int x3, .int x4, .int x5, .int x6]) (stk' := [.int (σ 12 (Int32.toNatClampNeg x6)), .ref 49]) (σ' := (hb_up σ 47 (Int32.toNatClampNeg s1) s0)) (by decide +kernel) rfl).trans ?_
  refine congrArg (hb_g _) ?_
  refine hb_br0 (hb_fe_ok (r := (.ifCond .eq 8, 3, 150, 0, 0, 0, 0)) (by decide +kernel)) rfl ?_ ?_
  · refine (hb_blk [(.ldc 35, 2, 0, 0, 0, (-1000000), 0)] (pe := 152) (gs := []) (loc' := [.ref 49, .int x1, .int x2, .int x3, .int x4, .int x5, .int x6]) (stk' := [.int (-1000000), .ref 49]) (σ' := (hb_up σ 47 (Int32.toNatClampNeg s1) s0)) (by decide +kernel) rfl).trans ?_
    exact rfl
  · refine (hb_blk [(.iload 4, 2, 4, 0, 0, 0, 0)] (pe := 147) (gs := []) (loc' := [.ref 49, .int x1, .int x2, .int x3, .int x4, .int x5, .int x6]) (stk' := [.int x4, .ref 49]) (σ' := (hb_up σ 47 (Int32.toNatClampNeg s1) s0)) (by decide +kernel) rfl).trans ?_
    refine (hb_r_goto (hb_fe_ok (r := (.goto 5, 3, 152, 0, 0, 0, 0)) (by decide +kernel))).trans ?_
    exact rfl
set_option maxRecDepth 8000 in
theorem e67_152  (σ : hbM) (x1 : Int32) (x2 : Int32) (x3 : Int32) (x4 : Int32) (x5 : Int32) (x6 : Int32) (s0 : Int32) : hb_run hbSH 67 (152, [.ref 49, .int x1, .int x2, .int x3, .int x4, .int x5, .int x6], [.int s0, .ref 49], σ) = hb_g [hb_in x6 1024] (if ((σ 12 (Int32.toNatClampNeg x6)) = (0 : Int32)) then (hb_run hbSH 67 (18, [.ref 49, .int x1, .int x2, .int x3, .int x4, .int (x5 + (1 : Int32)), .int x6], [], (hb_up (hb_up σ 49 6 s0) 49 7 (-1000000)))) else (hb_g [hb_in x6 17408] (hb_run hbSH 67 (18, [.ref 49, .int x1, .int x2, .int x3, .int x4, .int (x5 + (1 : Int32)), .int x6], [], (hb_up (hb_up σ 49 6 s0) 49 7 (σ 47 (Int32.toNatClampNeg x6))))))) := by
  refine (hb_blk [(.putfield 79, 3, 9, 6, 0, 0, 0), (.aload_n 0, 1, 0, 0, 0, 0, 0), (.aload_n 0, 1, 0, 0, 0, 0, 0), (.getfield 21, 3, 9, 1, 0, 0, 0), (.getfield 85, 3, 10, 7, 0, 0, 0), (.iload 6, 2, 6, 0, 0, 0, 0), (.baload, 1, 0, 0, 0, 0, 0)] (pe := 166) (gs := [hb_in x6 1024]) (loc' := [.ref 49, .int x1, .int x2, .int x3, .int x4, .int x5, .int x6]) (stk' := [.int (σ 12 (Int32.toNatClampNeg x6)), .ref 49]) (σ' := (hb_up σ 49 6 s0)) (by decide +kernel) rfl).trans ?_
  refine congrArg (hb_g _) ?_
  refine hb_br0 (hb_fe_ok (r := (.ifCond .eq 16, 3, 182, 0, 0, 0, 0)) (by decide +kernel)) rfl ?_ ?_
  · refine (hb_blk [(.ldc 35, 2, 0, 0, 0, (-1000000), 0)] (pe := 184) (gs := []) (loc' := [.ref 49, .int x1, .int x2, .int x3, .int x4, .int x5, .int x6]) (stk' := [.int (-1000000), .ref 49]) (σ' := (hb_up σ 49 6 s0)) (by decide +kernel) rfl).trans ?_
    refine (hb_blk [(.putfield 82, 3, 9, 7, 0, 0, 0)] (pe := 187) (gs := []) (loc' := [.ref 49, .int x1, .int x2, .int x3, .int x4, .int x5, .int x6]) (stk' := []) (σ' := (hb_up (hb_up σ 49 6 s0) 49 7 (-1000000))) (by decide +kernel) rfl).trans ?_
    refine (hb_blk [(.iinc 5 1, 3, 5, 0, 0, 1, 0)] (pe := 190) (gs := []) (loc' := [.ref 49, .int x1, .int x2, .int x3, .int x4, .int (x5 + (1 : Int32)), .int x6]) (stk' := []) (σ' := (hb_up (hb_up σ 49 6 s0) 49 7 (-1000000))) (by decide +kernel) rfl).trans ?_
    refine (hb_r_goto (hb_fe_ok (r := (.goto (-172), 3, 18, 0, 0, 0, 0)) (by decide +kernel))).trans ?_
    exact rfl
  · refine (hb_blk [(.aload_n 0, 1, 0, 0, 0, 0, 0), (.getfield 22, 3, 9, 2, 0, 0, 0), (.getfield 101, 3, 4, 2, 0, 0, 0), (.iload 6, 2, 6, 0, 0, 0, 0), (.iaload, 1, 0, 0, 0, 0, 0)] (pe := 179) (gs := [hb_in x6 17408]) (loc' := [.ref 49, .int x1, .int x2, .int x3, .int x4, .int x5, .int x6]) (stk' := [.int (σ 47 (Int32.toNatClampNeg x6)), .ref 49]) (σ' := (hb_up σ 49 6 s0)) (by decide +kernel) rfl).trans ?_
    refine congrArg (hb_g _) ?_
    refine (hb_r_goto (hb_fe_ok (r := (.goto 5, 3, 184, 0, 0, 0, 0)) (by decide +kernel))).trans ?_
    refine (hb_blk [(.putfield 82, 3, 9, 7, 0, 0, 0)] (pe := 187) (gs := []) (loc' := [.ref 49, .int x1, .int x2, .int x3, .int x4, .int x5, .int x6]) (stk' := []) (σ' := (hb_up (hb_up σ 49 6 s0) 49 7 (σ 47 (Int32.toNatClampNeg x6)))) (by decide +kernel) rfl).trans ?_
    refine (hb_blk [(.iinc 5 1, 3, 5, 0, 0, 1, 0)] (pe := 190) (gs := []) (loc' := [.ref 49, .int x1, .int x2, .int x3, .int x4, .int (x5 + (1 : Int32)), .int x6]) (stk' := []) (σ' := (hb_up (hb_up σ 49 6 s0) 49 7 (σ 47 (Int32.toNatClampNeg x6)))) (by decide +kernel) rfl).trans ?_
    refine (hb_r_goto (hb_fe_ok (r := (.goto (-172), 3, 18, 0, 0, 0, 0)) (by decide +kernel))).trans ?_
    exact rfl
set_option maxRecDepth 8000 in
theorem e68_0  (σ : hbM) (x1 : Int32) (x2 : Int32) : hb_run hbSH 68 (0, [.ref 49, .int x1, .int x2, .null], [], σ) = if (¬ x2 = (0 : Int32)) then (if (¬ ((x1 >>> ((x2 - (1 : Int32)) &&& 31)) &&& (1 : Int32)) = (0 : Int32)) then (hb_run hbSH 68 (37, [.ref 49, .int x1, .int x2, .int (x2 - (1 : Int32))], [.int 0, .int (x2 - (1 : Int32)), .int x1, .ref 0], σ)) else (hb_run hbSH 68 (37, [.ref 49, .int x1, .int x2, .int (x2 - (1 : Int32))], [.int 1, .int (x2 - (1 : Int32)), .int x1, .ref 0], σ))) else (hb_g [hb_in x1 1024] (some (some (.int (σ 10 (Int32.toNatClampNeg x1))), σ))) := by
  refine (hb_blk [(.iload_n 2, 1, 2, 0, 0, 0, 0)] (pe := 1) (gs := []) (loc' := [.ref 49, .int x1, .int x2, .null]) (stk' := [.int x2]) (σ' := σ) (by decide +kernel) rfl).trans ?_
  refine hb_br0 (hb_fe_ok (r := (.ifCond .ne 13, 3, 14, 0, 0, 0, 0)) (by decide +kernel)) rfl ?_ ?_
  · refine (hb_blk [(.iload_n 2, 1, 2, 0, 0, 0, 0), (.iconst 1, 1, 0, 0, 0, 1, 0), (.isub, 1, 0, 0, 0, 0, 0), (.istore_n 3, 1, 3, 0, 0, 0, 0), (.aload_n 0, 1, 0, 0, 0, 0, 0), (.getfield 21, 3, 9, 1, 0, 0, 0), (.iload_n 1, 1, 1, 0, 0, 0, 0), (.iload_n 3, 1, 3, 0, 0, 0, 0), (.iload_n 1, 1, 1, 0, 0, 0, 0), (.iload_n 3, 1, 3, 0, 0, 0, 0), (.ishr, 1, 0, 0, 0, 0, 0), (.iconst 1, 1, 0, 0, 0, 1, 0), (.iand, 1, 0, 0, 0, 0, 0)] (pe := 29) (gs := []) (loc' := [.ref 49, .int x1, .int x2, .int (x2 - (1 : Int32))]) (stk' := [.int ((x1 >>> ((x2 - (1 : Int32)) &&& 31)) &&& (1 : Int32)), .int (x2 - (1 : Int32)), .int x1, .ref 0]) (σ' := σ) (by decide +kernel) rfl).trans ?_
    refine hb_br0 (hb_fe_ok (r := (.ifCond .ne 7, 3, 36, 0, 0, 0, 0)) (by decide +kernel)) rfl ?_ ?_
    · refine (hb_blk [(.iconst 0, 1, 0, 0, 0, 0, 0)] (pe := 37) (gs := []) (loc' := [.ref 49, .int x1, .int x2, .int (x2 - (1 : Int32))]) (stk' := [.int 0, .int (x2 - (1 : Int32)), .int x1, .ref 0]) (σ' := σ) (by decide +kernel) rfl).trans ?_
      exact rfl
    · refine (hb_blk [(.iconst 1, 1, 0, 0, 0, 1, 0)] (pe := 33) (gs := []) (loc' := [.ref 49, .int x1, .int x2, .int (x2 - (1 : Int32))]) (stk' := [.int 1, .int (x2 - (1 : Int32)), .int x1, .ref 0]) (σ' := σ) (by decide +kernel) rfl).trans ?_
      refine (hb_r_goto (hb_fe_ok (r := (.goto 4, 3, 37, 0, 0, 0, 0)) (by decide +kernel))).trans ?_
      exact rfl
  · refine (hb_blk [(.aload_n 0, 1, 0, 0, 0, 0, 0), (.getfield 21, 3, 9, 1, 0, 0, 0), (.getfield 104, 3, 10, 5, 0, 0, 0), (.iload_n 1, 1, 1, 0, 0, 0, 0), (.iaload, 1, 0, 0, 0, 0, 0)] (pe := 13) (gs := [hb_in x1 1024]) (loc' := [.ref 49, .int x1, .int x2, .null]) (stk' := [.int (σ 10 (Int32.toNatClampNeg x1))]) (σ' := σ) (by decide +kernel) rfl).trans ?_
    refine congrArg (hb_g _) ?_
    exact hb_r_iret (hb_fe_ok (r := (.ireturn, 1, 0, 0, 0, 0, 0)) (by decide +kernel))
set_option maxRecDepth 8000 in
theorem e68_37  (σ : hbM) (x1 : Int32) (x2 : Int32) (x3 : Int32) (s0 : Int32) (s1 : Int32) (s2 : Int32) : hb_run hbSH 68 (37, [.ref 49, .int x1, .int x2, .int x3], [.int s0, .int s1, .int s2, .ref 0], σ) = hb_ci (hb_ev hbSH 71 [.ref 0, .int s2, .int s1, .int s0] σ) (fun y37 σ37 => some (some (.int y37), σ37)) := by
  refine hb_Vi (hb_fe_ok (r := (.invokevirtual 107, 3, 71, 3, 0, 0, 0)) (by decide +kernel)) (by decide +kernel) (as := [.int s2, .int s1, .int s0]) (v := .ref 0) (rest := []) rfl rfl (Nat.le_of_ble_eq_true rfl) (fun y37 σ37 => ?_)
  exact hb_r_iret (hb_fe_ok (r := (.ireturn, 1, 0, 0, 0, 0, 0)) (by decide +kernel))
set_option maxRecDepth 8000 in
theorem e69_0  (σ : hbM) (x0 : Int32) (x1 : Int32) (x2 : Int32) : hb_run hbSH 69 (0, [.int x0, .int x1, .int x2], [], σ) = some (some (.int (((x0 <<< (6 : Int32)) ||| (x1 <<< (3 : Int32))) ||| x2)), σ) := by
  refine (hb_blk [(.iload_n 0, 1, 0, 0, 0, 0, 0), (.bipush 6, 2, 0, 0, 0, 6, 0), (.ishl, 1, 0, 0, 0, 0, 0), (.iload_n 1, 1, 1, 0, 0, 0, 0), (.iconst 3, 1, 0, 0, 0, 3, 0), (.ishl, 1, 0, 0, 0, 0, 0), (.ior, 1, 0, 0, 0, 0, 0), (.iload_n 2, 1, 2, 0, 0, 0, 0), (.ior, 1, 0, 0, 0, 0, 0)] (pe := 10) (gs := []) (loc' := [.int x0, .int x1, .int x2]) (stk' := [.int (((x0 <<< (6 : Int32)) ||| (x1 <<< (3 : Int32))) ||| x2)]) (σ' := σ) (by decide +kernel) rfl).trans ?_
  exact hb_r_iret (hb_fe_ok (r := (.ireturn, 1, 0, 0, 0, 0, 0)) (by decide +kernel))
set_option maxRecDepth 8000 in
theorem e71_0  (σ : hbM) (x1 : Int32) (x2 : Int32) (x3 : Int32) : hb_run hbSH 71 (0, [.ref 0, .int x1, .int x2, .int x3, .null, .null], [], σ) = if (¬ x3 = (0 : Int32)) then (if (((((σ 0 10) >>> (((4 : Int32) * x2) &&& 31)) &&& (15 : Int32)) &&& x1) = (0 : Int32)) then (hb_g [hb_in (x1 ||| ((1 : Int32) <<< (x2 &&& 31))) 1024] (some (some (.int (σ 10 (Int32.toNatClampNeg (x1 ||| ((1 : Int32) <<< (x2 &&& 31)))))), σ))) else (hb_g [hb_in x1 1024] (some (some (.int (σ 10 (Int32.toNatClampNeg x1))), σ)))) else (hb_g [hb_in (x1 &&& (((1 : Int32) <<< (x2 &&& 31)) ^^^ (-1 : Int32))) 1024] (some (some (.int (σ 10 (Int32.toNatClampNeg (x1 &&& (((1 : Int32) <<< (x2 &&& 31)) ^^^ (-1 : Int32)))))), σ))) := by
  refine (hb_blk [(.iconst 1, 1, 0, 0, 0, 1, 0), (.iload_n 2, 1, 2, 0, 0, 0, 0), (.ishl, 1, 0, 0, 0, 0, 0), (.istore 4, 2, 4, 0, 0, 0, 0), (.iload_n 3, 1, 3, 0, 0, 0, 0)] (pe := 6) (gs := []) (loc' := [.ref 0, .int x1, .int x2, .int x3, .int ((1 : Int32) <<< (x2 &&& 31)), .null]) (stk' := [.int x3]) (σ' := σ) (by decide +kernel) rfl).trans ?_
  refine hb_br0 (hb_fe_ok (r := (.ifCond .ne 15, 3, 21, 0, 0, 0, 0)) (by decide +kernel)) rfl ?_ ?_
  · refine (hb_blk [(.aload_n 0, 1, 0, 0, 0, 0, 0), (.getfield 44, 3, 10, 10, 0, 0, 0), (.iconst 4, 1, 0, 0, 0, 4, 0), (.iload_n 2, 1, 2, 0, 0, 0, 0), (.imul, 1, 0, 0, 0, 0, 0), (.ishr, 1, 0, 0, 0, 0, 0), (.bipush 15, 2, 0, 0, 0, 15, 0), (.iand, 1, 0, 0, 0, 0, 0), (.iload_n 1, 1, 1, 0, 0, 0, 0), (.iand, 1, 0, 0, 0, 0, 0)] (pe := 34) (gs := []) (loc' := [.ref 0, .int x1, .int x2, .int x3, .int ((1 : Int32) <<< (x2 &&& 31)), .null]) (stk' := [.int ((((σ 0 10) >>> (((4 : Int32) * x2) &&& 31)) &&& (15 : Int32)) &&& x1)]) (σ' := σ) (by decide +kernel) rfl).trans ?_
    refine hb_br0 (hb_fe_ok (r := (.ifCond .eq 7, 3, 41, 0, 0, 0, 0)) (by decide +kernel)) rfl ?_ ?_
    · refine (hb_blk [(.iconst 0, 1, 0, 0, 0, 0, 0)] (pe := 42) (gs := []) (loc' := [.ref 0, .int x1, .int x2, .int x3, .int ((1 : Int32) <<< (x2 &&& 31)), .null]) (stk' := [.int 0]) (σ' := σ) (by decide +kernel) rfl).trans ?_
      refine (hb_blk [(.istore 5, 2, 5, 0, 0, 0, 0), (.aload_n 0, 1, 0, 0, 0, 0, 0), (.getfield 31, 3, 10, 5, 0, 0, 0), (.iload 5, 2, 5, 0, 0, 0, 0)] (pe := 50) (gs := []) (loc' := [.ref 0, .int x1, .int x2, .int x3, .int ((1 : Int32) <<< (x2 &&& 31)), .int 0]) (stk' := [.int 0, .ref 10]) (σ' := σ) (by decide +kernel) rfl).trans ?_
      refine hb_br0T (hb_fe_ok (r := (.ifCond .eq 7, 3, 57, 0, 0, 0, 0)) (by decide +kernel)) (by decide) ?_
      refine (hb_blk [(.iload_n 1, 1, 1, 0, 0, 0, 0), (.iload 4, 2, 4, 0, 0, 0, 0), (.ior, 1, 0, 0, 0, 0, 0)] (pe := 61) (gs := []) (loc' := [.ref 0, .int x1, .int x2, .int x3, .int ((1 : Int32) <<< (x2 &&& 31)), .int 0]) (stk' := [.int (x1 ||| ((1 : Int32) <<< (x2 &&& 31))), .ref 10]) (σ' := σ) (by decide +kernel) rfl).trans ?_
      refine (hb_blk [(.iaload, 1, 0, 0, 0, 0, 0)] (pe := 62) (gs := [hb_in (x1 ||| ((1 : Int32) <<< (x2 &&& 31))) 1024]) (loc' := [.ref 0, .int x1, .int x2, .int x3, .int ((1 : Int32) <<< (x2 &&& 31)), .int 0]) (stk' := [.int (σ 10 (Int32.toNatClampNeg (x1 ||| ((1 : Int32) <<< (x2 &&& 31)))))]) (σ' := σ) (by decide +kernel) rfl).trans ?_
      refine congrArg (hb_g _) ?_
      exact hb_r_iret (hb_fe_ok (r := (.ireturn, 1, 0, 0, 0, 0, 0)) (by decide +kernel))
    · refine (hb_blk [(.iconst 1, 1, 0, 0, 0, 1, 0)] (pe := 38) (gs := []) (loc' := [.ref 0, .int x1, .int x2, .int x3, .int ((1 : Int32) <<< (x2 &&& 31)), .null]) (stk' := [.int 1]) (σ' := σ) (by decide +kernel) rfl).trans ?_
      refine (hb_r_goto (hb_fe_ok (r := (.goto 4, 3, 42, 0, 0, 0, 0)) (by decide +kernel))).trans ?_
      refine (hb_blk [(.istore 5, 2, 5, 0, 0, 0, 0), (.aload_n 0, 1, 0, 0, 0, 0, 0), (.getfield 31, 3, 10, 5, 0, 0, 0), (.iload 5, 2, 5, 0, 0, 0, 0)] (pe := 50) (gs := []) (loc' := [.ref 0, .int x1, .int x2, .int x3, .int ((1 : Int32) <<< (x2 &&& 31)), .int 1]) (stk' := [.int 1, .ref 10]) (σ' := σ) (by decide +kernel) rfl).trans ?_
      refine hb_br0F (hb_fe_ok (r := (.ifCond .eq 7, 3, 57, 0, 0, 0, 0)) (by decide +kernel)) (by decide) ?_
      refine (hb_blk [(.iload_n 1, 1, 1, 0, 0, 0, 0)] (pe := 54) (gs := []) (loc' := [.ref 0, .int x1, .int x2, .int x3, .int ((1 : Int32) <<< (x2 &&& 31)), .int 1]) (stk' := [.int x1, .ref 10]) (σ' := σ) (by decide +kernel) rfl).trans ?_
      refine (hb_r_goto (hb_fe_ok (r := (.goto 7, 3, 61, 0, 0, 0, 0)) (by decide +kernel))).trans ?_
      refine (hb_blk [(.iaload, 1, 0, 0, 0, 0, 0)] (pe := 62) (gs := [hb_in x1 1024]) (loc' := [.ref 0, .int x1, .int x2, .int x3, .int ((1 : Int32) <<< (x2 &&& 31)), .int 1]) (stk' := [.int (σ 10 (Int32.toNatClampNeg x1))]) (σ' := σ) (by decide +kernel) rfl).trans ?_
      refine congrArg (hb_g _) ?_
      exact hb_r_iret (hb_fe_ok (r := (.ireturn, 1, 0, 0, 0, 0, 0)) (by decide +kernel))
  · refine (hb_blk [(.aload_n 0, 1, 0, 0, 0, 0, 0), (.getfield 31, 3, 10, 5, 0, 0, 0), (.iload_n 1, 1, 1, 0, 0, 0, 0), (.iload 4, 2, 4, 0, 0, 0, 0), (.iconst (-1), 1, 0, 0, 0, (-1), 0), (.ixor, 1, 0, 0, 0, 0, 0), (.iand, 1, 0, 0, 0, 0, 0), (.iaload, 1, 0, 0, 0, 0, 0)] (pe := 20) (gs := [hb_in (x1 &&& (((1 : Int32) <<< (x2 &&& 31)) ^^^ (-1 : Int32))) 1024]) (loc' := [.ref 0, .int x1, .int x2, .int x3, .int ((1 : Int32) <<< (x2 &&& 31)), .null]) (stk' := [.int (σ 10 (Int32.toNatClampNeg (x1 &&& (((1 : Int32) <<< (x2 &&& 31)) ^^^ (-1 : Int32)))))]) (σ' := σ) (by decide +kernel) rfl).trans ?_
    refine congrArg (hb_g _) ?_
    exact hb_r_iret (hb_fe_ok (r := (.ireturn, 1, 0, 0, 0, 0, 0)) (by decide +kernel))
set_option maxRecDepth 8000 in
theorem e72_0  (σ : hbM) (x1 : Int32) (x2 : Int32) (x3 : Int32) : hb_run hbSH 72 (0, [.ref 0, .int x1, .int x2, .int x3], [], σ) = if ((8 : Int32) ≤ (σ 0 9)) then (some (none, σ)) else (hb_g [hb_in (σ 0 9) 8, hb_in (σ 0 9) 8, hb_in (σ 0 9) 8] (some (none, (hb_up (hb_up (hb_up (hb_up σ 7 (Int32.toNatClampNeg (σ 0 9)) x1) 8 (Int32.toNatClampNeg (σ 0 9)) x2) 9 (Int32.toNatClampNeg (σ 0 9)) x3) 0 9 ((σ 0 9) + (1 : Int32)))))) := by
  refine (hb_blk [(.aload_n 0, 1, 0, 0, 0, 0, 0), (.getfield 48, 3, 10, 9, 0, 0, 0), (.bipush 8, 2, 0, 0, 0, 8, 0)] (pe := 6) (gs := []) (loc' := [.ref 0, .int x1, .int x2, .int x3]) (stk' := [.int 8, .int (σ 0 9)]) (σ' := σ) (by decide +kernel) rfl).trans ?_
  refine hb_br (hb_fe_ok (r := (.if_icmp .ge 43, 3, 49, 0, 0, 0, 0)) (by decide +kernel)) rfl ?_ ?_
  · exact hb_r_vret (hb_fe_ok (r := (.return_, 1, 0, 0, 0, 0, 0)) (by decide +kernel))
  · refine (hb_blk [(.aload_n 0, 1, 0, 0, 0, 0, 0), (.getfield 21, 3, 10, 2, 0, 0, 0), (.aload_n 0, 1, 0, 0, 0, 0, 0), (.getfield 48, 3, 10, 9, 0, 0, 0), (.iload_n 1, 1, 1, 0, 0, 0, 0), (.iastore, 1, 0, 0, 0, 0, 0), (.aload_n 0, 1, 0, 0, 0, 0, 0), (.getfield 25, 3, 10, 3, 0, 0, 0), (.aload_n 0, 1, 0, 0, 0, 0, 0), (.getfield 48, 3, 10, 9, 0, 0, 0), (.iload_n 2, 1, 2, 0, 0, 0, 0), (.iastore, 1, 0, 0, 0, 0, 0), (.aload_n 0, 1, 0, 0, 0, 0, 0), (.getfield 28, 3, 10, 4, 0, 0, 0), (.aload_n 0, 1, 0, 0, 0, 0, 0), (.getfield 48, 3, 10, 9, 0, 0, 0), (.iload_n 3, 1, 3, 0, 0, 0, 0), (.iastore, 1, 0, 0, 0, 0, 0), (.aload_n 0, 1, 0, 0, 0, 0, 0), (.dup, 1, 0, 0, 0, 0, 0), (.getfield 48, 3, 10, 9, 0, 0, 0), (.iconst 1, 1, 0, 0, 0, 1, 0), (.iadd, 1, 0, 0, 0, 0, 0), (.putfield 48, 3, 10, 9, 0, 0, 0)] (pe := 49) (gs := [hb_in (σ 0 9) 8, hb_in (σ 0 9) 8, hb_in (σ 0 9) 8]) (loc' := [.ref 0, .int x1, .int x2, .int x3]) (stk' := []) (σ' := (hb_up (hb_up (hb_up (hb_up σ 7 (Int32.toNatClampNeg (σ 0 9)) x1) 8 (Int32.toNatClampNeg (σ 0 9)) x2) 9 (Int32.toNatClampNeg (σ 0 9)) x3) 0 9 ((σ 0 9) + (1 : Int32)))) (by decide +kernel) rfl).trans ?_
    refine congrArg (hb_g _) ?_
    exact hb_r_vret (hb_fe_ok (r := (.return_, 1, 0, 0, 0, 0, 0)) (by decide +kernel))
set_option maxRecDepth 8000 in
theorem e73_0  (σ : hbM) : hb_run hbSH 73 (0, [.ref 0], [], σ) = some (none, (hb_up (hb_up (hb_up σ 0 9 (σ 0 8)) 1 3 (σ 1 2)) 4 3 (σ 4 2))) := by
  refine (hb_blk [(.aload_n 0, 1, 0, 0, 0, 0, 0), (.aload_n 0, 1, 0, 0, 0, 0, 0), (.getfield 51, 3, 10, 8, 0, 0, 0), (.putfield 48, 3, 10, 9, 0, 0, 0), (.aload_n 0, 1, 0, 0, 0, 0, 0), (.getfield 12, 3, 10, 0, 0, 0, 0), (.aload_n 0, 1, 0, 0, 0, 0, 0), (.getfield 12, 3, 10, 0, 0, 0, 0), (.getfield 54, 3, 2, 2, 0, 0, 0), (.putfield 57, 3, 2, 3, 0, 0, 0), (.aload_n 0, 1, 0, 0, 0, 0, 0), (.getfield 18, 3, 10, 1, 0, 0, 0), (.aload_n 0, 1, 0, 0, 0, 0, 0), (.getfield 18, 3, 10, 1, 0, 0, 0), (.getfield 54, 3, 2, 2, 0, 0, 0), (.putfield 57, 3, 2, 3, 0, 0, 0)] (pe := 36) (gs := []) (loc' := [.ref 0]) (stk' := []) (σ' := (hb_up (hb_up (hb_up σ 0 9 (σ 0 8)) 1 3 (σ 1 2)) 4 3 (σ 4 2))) (by decide +kernel) rfl).trans ?_
  exact hb_r_vret (hb_fe_ok (r := (.return_, 1, 0, 0, 0, 0, 0)) (by decide +kernel))
set_option maxRecDepth 8000 in
theorem e74_0  (σ : hbM) : hb_run hbSH 74 (0, [.ref 0], [], σ) = hb_cv (hb_ev hbSH 75 [.ref 0] (hb_up (hb_up (hb_up σ 0 8 (σ 0 9)) 1 2 (σ 1 3)) 4 2 (σ 4 3))) (fun σ37 => some (none, σ37)) := by
  refine (hb_blk [(.aload_n 0, 1, 0, 0, 0, 0, 0), (.aload_n 0, 1, 0, 0, 0, 0, 0), (.getfield 48, 3, 10, 9, 0, 0, 0), (.putfield 51, 3, 10, 8, 0, 0, 0), (.aload_n 0, 1, 0, 0, 0, 0, 0), (.getfield 12, 3, 10, 0, 0, 0, 0), (.aload_n 0, 1, 0, 0, 0, 0, 0), (.getfield 12, 3, 10, 0, 0, 0, 0), (.getfield 57, 3, 2, 3, 0, 0, 0), (.putfield 54, 3, 2, 2, 0, 0, 0), (.aload_n 0, 1, 0, 0, 0, 0, 0), (.getfield 18, 3, 10, 1, 0, 0, 0), (.aload_n 0, 1, 0, 0, 0, 0, 0), (.getfield 18, 3, 10, 1, 0, 0, 0), (.getfield 57, 3, 2, 3, 0, 0, 0), (.putfield 54, 3, 2, 2, 0, 0, 0), (.aload_n 0, 1, 0, 0, 0, 0, 0)] (pe := 37) (gs := []) (loc' := [.ref 0]) (stk' := [.ref 0]) (σ' := (hb_up (hb_up (hb_up σ 0 8 (σ 0 9)) 1 2 (σ 1 3)) 4 2 (σ 4 3))) (by decide +kernel) rfl).trans ?_
  refine hb_Vv (hb_fe_ok (r := (.invokevirtual 41, 3, 75, 0, 0, 0, 0)) (by decide +kernel)) (by decide +kernel) (as := []) (v := .ref 0) (rest := []) rfl rfl (Nat.le_of_ble_eq_true rfl) (fun σ37 => ?_)
  exact hb_r_vret (hb_fe_ok (r := (.return_, 1, 0, 0, 0, 0, 0)) (by decide +kernel))
set_option maxRecDepth 8000 in
theorem e199_0  (σ : hbM) (x1 : Int32) : hb_run hbSH 199 (0, [.ref 39, .int x1, .null], [], σ) = if (¬ x1 = (0 : Int32)) then (hb_g [hb_in (x1 - (1 : Int32)) 400] (hb_ci (hb_ev hbSH 48 [.int (σ 40 (Int32.toNatClampNeg (x1 - (1 : Int32))))] σ) (fun y14 σ14 => if (y14 = (0 : Int32)) then (hb_g [hb_in (x1 - (1 : Int32)) 400] (hb_ci (hb_ev hbSH 49 [.int (σ14 40 (Int32.toNatClampNeg (x1 - (1 : Int32))))] σ14) (fun y50 σ50 => if (y50 = (0 : Int32)) then (some (some (.int 0), σ50)) else (hb_g [hb_in x1 400] (hb_ci (hb_ev hbSH 49 [.int (σ50 40 (Int32.toNatClampNeg x1))] σ50) (fun y62 σ62 => if (y62 = (0 : Int32)) then (some (some (.int 0), σ62)) else (some (some (.int 1), σ62)))))))) else (hb_g [hb_in x1 400] (hb_ci (hb_ev hbSH 48 [.int (σ14 40 (Int32.toNatClampNeg x1))] σ14) (fun y26 σ26 => if (y26 = (0 : Int32)) then (hb_g [hb_in (x1 - (1 : Int32)) 400] (hb_ci (hb_ev hbSH 49 [.int (σ26 40 (Int32.toNatClampNeg (x1 - (1 : Int32))))] σ26) (fun y50 σ50 => if (y50 = (0 : Int32)) then (some (some (.int 0), σ50)) else (hb_g [hb_in x1 400] (hb_ci (hb_ev hbSH 49 [.int (σ50 40 (Int32.toNatClampNeg x1))] σ50) (fun y62 σ62 => if (y62 = (0 : Int32)) then (some (some (.int 0), σ62)) else (some (some (.int 1), σ62)))))))) else (some (some (.int 1), σ26)))))))) else (some (some (.int 0), σ)) := by
  refine (hb_blk [(.iload_n 1, 1, 1, 0, 0, 0, 0)] (pe := 1) (gs := []) (loc' := [.ref 39, .int x1, .null]) (stk' := [.int x1]) (σ' := σ) (by decide +kernel) rfl).trans ?_
  refine hb_br0 (hb_fe_ok (r := (.ifCond .ne 5, 3, 6, 0, 0, 0, 0)) (by decide +kernel)) rfl ?_ ?_
  · refine (hb_blk [(.aload_n 0, 1, 0, 0, 0, 0, 0), (.getfield 9, 3, 7, 0, 0, 0, 0), (.iload_n 1, 1, 1, 0, 0, 0, 0), (.iconst 1, 1, 0, 0, 0, 1, 0), (.isub, 1, 0, 0, 0, 0, 0), (.iaload, 1, 0, 0, 0, 0, 0)] (pe := 14) (gs := [hb_in (x1 - (1 : Int32)) 400]) (loc' := [.ref 39, .int x1, .null]) (stk' := [.int (σ 40 (Int32.toNatClampNeg (x1 - (1 : Int32))))]) (σ' := σ) (by decide +kernel) rfl).trans ?_
    refine congrArg (hb_g _) ?_
    refine hb_Si (hb_fe_ok (r := (.invokestatic 37, 3, 48, 1, 0, 0, 0)) (by decide +kernel)) (by decide) (by decide +kernel) (as := [.int (σ 40 (Int32.toNatClampNeg (x1 - (1 : Int32))))]) (rest := []) rfl (Nat.le_of_ble_eq_true rfl) (fun y14 σ14 => ?_)
    refine hb_br0 (hb_fe_ok (r := (.ifCond .eq 19, 3, 36, 0, 0, 0, 0)) (by decide +kernel)) rfl ?_ ?_
    · refine (hb_blk [(.iconst 0, 1, 0, 0, 0, 0, 0)] (pe := 37) (gs := []) (loc' := [.ref 39, .int x1, .null]) (stk' := [.int 0]) (σ' := σ14) (by decide +kernel) rfl).trans ?_
      refine (hb_blk [(.istore_n 2, 1, 2, 0, 0, 0, 0), (.iload_n 2, 1, 2, 0, 0, 0, 0)] (pe := 39) (gs := []) (loc' := [.ref 39, .int x1, .int 0]) (stk' := [.int 0]) (σ' := σ14) (by decide +kernel) rfl).trans ?_
      refine hb_br0F (hb_fe_ok (r := (.ifCond .ne 29, 3, 68, 0, 0, 0, 0)) (by decide +kernel)) (by decide) ?_
      refine (hb_blk [(.aload_n 0, 1, 0, 0, 0, 0, 0), (.getfield 9, 3, 7, 0, 0, 0, 0), (.iload_n 1, 1, 1, 0, 0, 0, 0), (.iconst 1, 1, 0, 0, 0, 1, 0), (.isub, 1, 0, 0, 0, 0, 0), (.iaload, 1, 0, 0, 0, 0, 0)] (pe := 50) (gs := [hb_in (x1 - (1 : Int32)) 400]) (loc' := [.ref 39, .int x1, .int 0]) (stk' := [.int (σ14 40 (Int32.toNatClampNeg (x1 - (1 : Int32))))]) (σ' := σ14) (by decide +kernel) rfl).trans ?_
      refine congrArg (hb_g _) ?_
      refine hb_Si (hb_fe_ok (r := (.invokestatic 40, 3, 49, 1, 0, 0, 0)) (by decide +kernel)) (by decide) (by decide +kernel) (as := [.int (σ14 40 (Int32.toNatClampNeg (x1 - (1 : Int32))))]) (rest := []) rfl (Nat.le_of_ble_eq_true rfl) (fun y50 σ50 => ?_)
      refine hb_br0 (hb_fe_ok (r := (.ifCond .eq 19, 3, 72, 0, 0, 0, 0)) (by decide +kernel)) rfl ?_ ?_
      · refine (hb_blk [(.iconst 0, 1, 0, 0, 0, 0, 0)] (pe := 73) (gs := []) (loc' := [.ref 39, .int x1, .int 0]) (stk' := [.int 0]) (σ' := σ50) (by decide +kernel) rfl).trans ?_
        exact hb_r_zret1 (hb_fe_ok (r := (.ireturn, 1, 0, 0, 1, 0, 0)) (by decide +kernel)) (by decide)
      · refine (hb_blk [(.aload_n 0, 1, 0, 0, 0, 0, 0), (.getfield 9, 3, 7, 0, 0, 0, 0), (.iload_n 1, 1, 1, 0, 0, 0, 0), (.iaload, 1, 0, 0, 0, 0, 0)] (pe := 62) (gs := [hb_in x1 400]) (loc' := [.ref 39, .int x1, .int 0]) (stk' := [.int (σ50 40 (Int32.toNatClampNeg x1))]) (σ' := σ50) (by decide +kernel) rfl).trans ?_
        refine congrArg (hb_g _) ?_
        refine hb_Si (hb_fe_ok (r := (.invokestatic 40, 3, 49, 1, 0, 0, 0)) (by decide +kernel)) (by decide) (by decide +kernel) (as := [.int (σ50 40 (Int32.toNatClampNeg x1))]) (rest := []) rfl (Nat.le_of_ble_eq_true rfl) (fun y62 σ62 => ?_)
        refine hb_br0 (hb_fe_ok (r := (.ifCond .eq 7, 3, 72, 0, 0, 0, 0)) (by decide +kernel)) rfl ?_ ?_
        · refine (hb_blk [(.iconst 0, 1, 0, 0, 0, 0, 0)] (pe := 73) (gs := []) (loc' := [.ref 39, .int x1, .int 0]) (stk' := [.int 0]) (σ' := σ62) (by decide +kernel) rfl).trans ?_
          exact hb_r_zret1 (hb_fe_ok (r := (.ireturn, 1, 0, 0, 1, 0, 0)) (by decide +kernel)) (by decide)
        · refine (hb_blk [(.iconst 1, 1, 0, 0, 0, 1, 0)] (pe := 69) (gs := []) (loc' := [.ref 39, .int x1, .int 0]) (stk' := [.int 1]) (σ' := σ62) (by decide +kernel) rfl).trans ?_
          refine (hb_r_goto (hb_fe_ok (r := (.goto 4, 3, 73, 0, 0, 0, 0)) (by decide +kernel))).trans ?_
          exact hb_r_zret1 (hb_fe_ok (r := (.ireturn, 1, 0, 0, 1, 0, 0)) (by decide +kernel)) (by decide)
    · refine (hb_blk [(.aload_n 0, 1, 0, 0, 0, 0, 0), (.getfield 9, 3, 7, 0, 0, 0, 0), (.iload_n 1, 1, 1, 0, 0, 0, 0), (.iaload, 1, 0, 0, 0, 0, 0)] (pe := 26) (gs := [hb_in x1 400]) (loc' := [.ref 39, .int x1, .null]) (stk' := [.int (σ14 40 (Int32.toNatClampNeg x1))]) (σ' := σ14) (by decide +kernel) rfl).trans ?_
      refine congrArg (hb_g _) ?_
      refine hb_Si (hb_fe_ok (r := (.invokestatic 37, 3, 48, 1, 0, 0, 0)) (by decide +kernel)) (by decide) (by decide +kernel) (as := [.int (σ14 40 (Int32.toNatClampNeg x1))]) (rest := []) rfl (Nat.le_of_ble_eq_true rfl) (fun y26 σ26 => ?_)
      refine hb_br0 (hb_fe_ok (r := (.ifCond .eq 7, 3, 36, 0, 0, 0, 0)) (by decide +kernel)) rfl ?_ ?_
      · refine (hb_blk [(.iconst 0, 1, 0, 0, 0, 0, 0)] (pe := 37) (gs := []) (loc' := [.ref 39, .int x1, .null]) (stk' := [.int 0]) (σ' := σ26) (by decide +kernel) rfl).trans ?_
        refine (hb_blk [(.istore_n 2, 1, 2, 0, 0, 0, 0), (.iload_n 2, 1, 2, 0, 0, 0, 0)] (pe := 39) (gs := []) (loc' := [.ref 39, .int x1, .int 0]) (stk' := [.int 0]) (σ' := σ26) (by decide +kernel) rfl).trans ?_
        refine hb_br0F (hb_fe_ok (r := (.ifCond .ne 29, 3, 68, 0, 0, 0, 0)) (by decide +kernel)) (by decide) ?_
        refine (hb_blk [(.aload_n 0, 1, 0, 0, 0, 0, 0), (.getfield 9, 3, 7, 0, 0, 0, 0), (.iload_n 1, 1, 1, 0, 0, 0, 0), (.iconst 1, 1, 0, 0, 0, 1, 0), (.isub, 1, 0, 0, 0, 0, 0), (.iaload, 1, 0, 0, 0, 0, 0)] (pe := 50) (gs := [hb_in (x1 - (1 : Int32)) 400]) (loc' := [.ref 39, .int x1, .int 0]) (stk' := [.int (σ26 40 (Int32.toNatClampNeg (x1 - (1 : Int32))))]) (σ' := σ26) (by decide +kernel) rfl).trans ?_
        refine congrArg (hb_g _) ?_
        refine hb_Si (hb_fe_ok (r := (.invokestatic 40, 3, 49, 1, 0, 0, 0)) (by decide +kernel)) (by decide) (by decide +kernel) (as := [.int (σ26 40 (Int32.toNatClampNeg (x1 - (1 : Int32))))]) (rest := []) rfl (Nat.le_of_ble_eq_true rfl) (fun y50 σ50 => ?_)
        refine hb_br0 (hb_fe_ok (r := (.ifCond .eq 19, 3, 72, 0, 0, 0, 0)) (by decide +kernel)) rfl ?_ ?_
        · refine (hb_blk [(.iconst 0, 1, 0, 0, 0, 0, 0)] (pe := 73) (gs := []) (loc' := [.ref 39, .int x1, .int 0]) (stk' := [.int 0]) (σ' := σ50) (by decide +kernel) rfl).trans ?_
          exact hb_r_zret1 (hb_fe_ok (r := (.ireturn, 1, 0, 0, 1, 0, 0)) (by decide +kernel)) (by decide)
        · refine (hb_blk [(.aload_n 0, 1, 0, 0, 0, 0, 0), (.getfield 9, 3, 7, 0, 0, 0, 0), (.iload_n 1, 1, 1, 0, 0, 0, 0), (.iaload, 1, 0, 0, 0, 0, 0)] (pe := 62) (gs := [hb_in x1 400]) (loc' := [.ref 39, .int x1, .int 0]) (stk' := [.int (σ50 40 (Int32.toNatClampNeg x1))]) (σ' := σ50) (by decide +kernel) rfl).trans ?_
          refine congrArg (hb_g _) ?_
          refine hb_Si (hb_fe_ok (r := (.invokestatic 40, 3, 49, 1, 0, 0, 0)) (by decide +kernel)) (by decide) (by decide +kernel) (as := [.int (σ50 40 (Int32.toNatClampNeg x1))]) (rest := []) rfl (Nat.le_of_ble_eq_true rfl) (fun y62 σ62 => ?_)
          refine hb_br0 (hb_fe_ok (r := (.ifCond .eq 7, 3, 72, 0, 0, 0, 0)) (by decide +kernel)) rfl ?_ ?_
          · refine (hb_blk [(.iconst 0, 1, 0, 0, 0, 0, 0)] (pe := 73) (gs := []) (loc' := [.ref 39, .int x1, .int 0]) (stk' := [.int 0]) (σ' := σ62) (by decide +kernel) rfl).trans ?_
            exact hb_r_zret1 (hb_fe_ok (r := (.ireturn, 1, 0, 0, 1, 0, 0)) (by decide +kernel)) (by decide)
          · refine (hb_blk [(.iconst 1, 1, 0, 0, 0, 1, 0)] (pe := 69) (gs := []) (loc' := [.ref 39, .int x1, .int 0]) (stk' := [.int 1]) (σ' := σ62) (by decide +kernel) rfl).trans ?_
            refine (hb_r_goto (hb_fe_ok (r := (.goto 4, 3, 73, 0, 0, 0, 0)) (by decide +kernel))).trans ?_
            exact hb_r_zret1 (hb_fe_ok (r := (.ireturn, 1, 0, 0, 1, 0, 0)) (by decide +kernel)) (by decide)
      · refine (hb_blk [(.iconst 1, 1, 0, 0, 0, 1, 0)] (pe := 33) (gs := []) (loc' := [.ref 39, .int x1, .null]) (stk' := [.int 1]) (σ' := σ26) (by decide +kernel) rfl).trans ?_
        refine (hb_r_goto (hb_fe_ok (r := (.goto 4, 3, 37, 0, 0, 0, 0)) (by decide +kernel))).trans ?_
        refine (hb_blk [(.istore_n 2, 1, 2, 0, 0, 0, 0), (.iload_n 2, 1, 2, 0, 0, 0, 0)] (pe := 39) (gs := []) (loc' := [.ref 39, .int x1, .int 1]) (stk' := [.int 1]) (σ' := σ26) (by decide +kernel) rfl).trans ?_
        refine hb_br0T (hb_fe_ok (r := (.ifCond .ne 29, 3, 68, 0, 0, 0, 0)) (by decide +kernel)) (by decide) ?_
        refine (hb_blk [(.iconst 1, 1, 0, 0, 0, 1, 0)] (pe := 69) (gs := []) (loc' := [.ref 39, .int x1, .int 1]) (stk' := [.int 1]) (σ' := σ26) (by decide +kernel) rfl).trans ?_
        refine (hb_r_goto (hb_fe_ok (r := (.goto 4, 3, 73, 0, 0, 0, 0)) (by decide +kernel))).trans ?_
        exact hb_r_zret1 (hb_fe_ok (r := (.ireturn, 1, 0, 0, 1, 0, 0)) (by decide +kernel)) (by decide)
  · refine (hb_blk [(.iconst 0, 1, 0, 0, 0, 0, 0)] (pe := 5) (gs := []) (loc' := [.ref 39, .int x1, .null]) (stk' := [.int 0]) (σ' := σ) (by decide +kernel) rfl).trans ?_
    exact hb_r_zret1 (hb_fe_ok (r := (.ireturn, 1, 0, 0, 1, 0, 0)) (by decide +kernel)) (by decide)
set_option maxRecDepth 8000 in
theorem e200_0  (σ : hbM) (x1 : Int32) (x2 : Int32) (x3 : Int32) : hb_run hbSH 200 (0, [.ref 31, .int x1, .int x2, .int x3, .null], [], σ) = if (x3 < (8 : Int32)) then (hb_cv (hb_ev hbSH 42 [.ref 31, .int x1] σ) (fun σ10 => if (x1 = 10) then (hb_ci (hb_ev hbSH 37 [.ref 31, .int x2] σ10) (fun y90 σ90 => some (some (.int y90), σ90))) else (if (x1 = 11) then (hb_ci (hb_ev hbSH 201 [.ref 31, .int 10, .int x2, .int (x3 + (1 : Int32))] σ10) (fun y100 σ100 => hb_ci (hb_ev hbSH 40 [.ref 31, .int x2] σ100) (fun y106 σ106 => hb_ci (hb_ev hbSH 201 [.ref 31, .int y106, .int x2, .int (x3 + (1 : Int32))] σ106) (fun y112 σ112 => some (some (.int (y100 + y112)), σ112))))) else (if (x1 = 12) then (hb_ci (hb_ev hbSH 201 [.ref 31, .int 11, .int x2, .int (x3 + (1 : Int32))] σ10) (fun y124 σ124 => some (some (.int ((2 : Int32) * y124)), σ124))) else (if (x1 = 13) then (hb_ci (hb_ev hbSH 201 [.ref 31, .int 10, .int x2, .int (x3 + (1 : Int32))] σ10) (fun y135 σ135 => some (some (.int (y135 + (50 : Int32))), σ135))) else (if (x1 = 14) then (hb_ci (hb_ev hbSH 201 [.ref 31, .int 10, .int x2, .int (x3 + (1 : Int32))] σ10) (fun y148 σ148 => hb_ci (hb_ev hbSH 40 [.ref 31, .int x2] σ148) (fun y154 σ154 => hb_ci (hb_ev hbSH 201 [.ref 31, .int y154, .int x2, .int (x3 + (1 : Int32))] σ154) (fun y160 σ160 => some (some (.int (y148 - y160)), σ160))))) else (if (x1 = 15) then (hb_ci (hb_ev hbSH 201 [.ref 31, .int 14, .int x2, .int (x3 + (1 : Int32))] σ10) (fun y172 σ172 => some (some (.int ((2 : Int32) * y172)), σ172))) else (if (x1 = 16) then (some (some (.int x2), σ10)) else (if (x1 = 17) then (some (some (.int x2), σ10)) else (if (x1 = 18) then (some (some (.int x2), σ10)) else (if (x1 = 19) then (some (some (.int x2), σ10)) else (if (x1 = 20) then (some (some (.int x2), σ10)) else (if (x1 = 21) then (hb_ci (hb_ev hbSH 201 [.ref 31, .int 20, .int x2, .int (x3 + (1 : Int32))] σ10) (fun y183 σ183 => hb_g [hb_in x2 16] (some (some (.int (y183 + ((100 : Int32) * (σ183 33 (Int32.toNatClampNeg x2))))), σ183)))) else (if (x1 = 22) then (hb_ci (hb_ev hbSH 201 [.ref 31, .int 20, .int x2, .int (x3 + (1 : Int32))] σ10) (fun y203 σ203 => hb_ci (hb_ev hbSH 39 [.ref 31, .int x2] σ203) (fun y209 σ209 => hb_ci (hb_ev hbSH 201 [.ref 31, .int y209, .int x2, .int (x3 + (1 : Int32))] σ209) (fun y215 σ215 => some (some (.int (y203 + y215)), σ215))))) else (if (x1 = 23) then (hb_ci (hb_ev hbSH 201 [.ref 31, .int 20, .int x2, .int (x3 + (1 : Int32))] σ10) (fun y226 σ226 => some (some (.int (y226 + (σ226 31 4))), σ226))) else (some (some (.int x2), σ10))))))))))))))))) else (some (some (.int 0), σ)) := by
  refine (hb_blk [(.iload_n 3, 1, 3, 0, 0, 0, 0), (.bipush 8, 2, 0, 0, 0, 8, 0)] (pe := 3) (gs := []) (loc' := [.ref 31, .int x1, .int x2, .int x3, .null]) (stk' := [.int 8, .int x3]) (σ' := σ) (by decide +kernel) rfl).trans ?_
  refine hb_br (hb_fe_ok (r := (.if_icmp .lt 5, 3, 8, 0, 0, 0, 0)) (by decide +kernel)) rfl ?_ ?_
  · refine (hb_blk [(.aload_n 0, 1, 0, 0, 0, 0, 0), (.iload_n 1, 1, 1, 0, 0, 0, 0)] (pe := 10) (gs := []) (loc' := [.ref 31, .int x1, .int x2, .int x3, .null]) (stk' := [.int x1, .ref 31]) (σ' := σ) (by decide +kernel) rfl).trans ?_
    refine hb_Vv (hb_fe_ok (r := (.invokevirtual 48, 3, 42, 1, 0, 0, 0)) (by decide +kernel)) (by decide +kernel) (as := [.int x1]) (v := .ref 31) (rest := []) rfl rfl (Nat.le_of_ble_eq_true rfl) (fun σ10 => ?_)
    refine (hb_blk [(.iload_n 3, 1, 3, 0, 0, 0, 0), (.iconst 1, 1, 0, 0, 0, 1, 0), (.iadd, 1, 0, 0, 0, 0, 0), (.istore 4, 2, 4, 0, 0, 0, 0), (.iload_n 1, 1, 1, 0, 0, 0, 0)] (pe := 19) (gs := []) (loc' := [.ref 31, .int x1, .int x2, .int x3, .int (x3 + (1 : Int32))]) (stk' := [.int x1]) (σ' := σ10) (by decide +kernel) rfl).trans ?_
    refine hb_r_sw (hb_fe_ok (r := (.tableswitch 216 10 23 #[69, 75, 98, 110, 123, 146, 216, 216, 216, 216, 216, 158, 178, 201], 69, 0, 0, 0, 0, 0)) (by decide +kernel)) ?_
    refine hb_swc (z := 10) (q := 88) ?_ ?_
    · refine (hb_blk [(.aload_n 0, 1, 0, 0, 0, 0, 0), (.iload_n 2, 1, 2, 0, 0, 0, 0)] (pe := 90) (gs := []) (loc' := [.ref 31, .int x1, .int x2, .int x3, .int (x3 + (1 : Int32))]) (stk' := [.int x2, .ref 31]) (σ' := σ10) (by decide +kernel) rfl).trans ?_
      refine hb_Vi (hb_fe_ok (r := (.invokevirtual 52, 3, 37, 1, 0, 0, 0)) (by decide +kernel)) (by decide +kernel) (as := [.int x2]) (v := .ref 31) (rest := []) rfl rfl (Nat.le_of_ble_eq_true rfl) (fun y90 σ90 => ?_)
      exact hb_r_iret (hb_fe_ok (r := (.ireturn, 1, 0, 0, 0, 0, 0)) (by decide +kernel))
    refine hb_swc (z := 11) (q := 94) ?_ ?_
    · refine (hb_blk [(.aload_n 0, 1, 0, 0, 0, 0, 0), (.bipush 10, 2, 0, 0, 0, 10, 0), (.iload_n 2, 1, 2, 0, 0, 0, 0), (.iload 4, 2, 4, 0, 0, 0, 0)] (pe := 100) (gs := []) (loc' := [.ref 31, .int x1, .int x2, .int x3, .int (x3 + (1 : Int32))]) (stk' := [.int (x3 + (1 : Int32)), .int x2, .int 10, .ref 31]) (σ' := σ10) (by decide +kernel) rfl).trans ?_
      refine hb_Vi (hb_fe_ok (r := (.invokevirtual 44, 3, 201, 3, 0, 0, 0)) (by decide +kernel)) (by decide +kernel) (as := [.int 10, .int x2, .int (x3 + (1 : Int32))]) (v := .ref 31) (rest := []) rfl rfl (Nat.le_of_ble_eq_true rfl) (fun y100 σ100 => ?_)
      refine (hb_blk [(.aload_n 0, 1, 0, 0, 0, 0, 0), (.aload_n 0, 1, 0, 0, 0, 0, 0), (.iload_n 2, 1, 2, 0, 0, 0, 0)] (pe := 106) (gs := []) (loc' := [.ref 31, .int x1, .int x2, .int x3, .int (x3 + (1 : Int32))]) (stk' := [.int x2, .ref 31, .ref 31, .int y100]) (σ' := σ100) (by decide +kernel) rfl).trans ?_
      refine hb_Vi (hb_fe_ok (r := (.invokevirtual 41, 3, 40, 1, 0, 0, 0)) (by decide +kernel)) (by decide +kernel) (as := [.int x2]) (v := .ref 31) (rest := [.ref 31, .int y100]) rfl rfl (Nat.le_of_ble_eq_true rfl) (fun y106 σ106 => ?_)
      refine (hb_blk [(.iload_n 2, 1, 2, 0, 0, 0, 0), (.iload 4, 2, 4, 0, 0, 0, 0)] (pe := 112) (gs := []) (loc' := [.ref 31, .int x1, .int x2, .int x3, .int (x3 + (1 : Int32))]) (stk' := [.int (x3 + (1 : Int32)), .int x2, .int y106, .ref 31, .int y100]) (σ' := σ106) (by decide +kernel) rfl).trans ?_
      refine hb_Vi (hb_fe_ok (r := (.invokevirtual 44, 3, 201, 3, 0, 0, 0)) (by decide +kernel)) (by decide +kernel) (as := [.int y106, .int x2, .int (x3 + (1 : Int32))]) (v := .ref 31) (rest := [.int y100]) rfl rfl (Nat.le_of_ble_eq_true rfl) (fun y112 σ112 => ?_)
      refine (hb_blk [(.iadd, 1, 0, 0, 0, 0, 0)] (pe := 116) (gs := []) (loc' := [.ref 31, .int x1, .int x2, .int x3, .int (x3 + (1 : Int32))]) (stk' := [.int (y100 + y112)]) (σ' := σ112) (by decide +kernel) rfl).trans ?_
      exact hb_r_iret (hb_fe_ok (r := (.ireturn, 1, 0, 0, 0, 0, 0)) (by decide +kernel))
    refine hb_swc (z := 12) (q := 117) ?_ ?_
    · refine (hb_blk [(.iconst 2, 1, 0, 0, 0, 2, 0), (.aload_n 0, 1, 0, 0, 0, 0, 0), (.bipush 11, 2, 0, 0, 0, 11, 0), (.iload_n 2, 1, 2, 0, 0, 0, 0), (.iload 4, 2, 4, 0, 0, 0, 0)] (pe := 124) (gs := []) (loc' := [.ref 31, .int x1, .int x2, .int x3, .int (x3 + (1 : Int32))]) (stk' := [.int (x3 + (1 : Int32)), .int x2, .int 11, .ref 31, .int 2]) (σ' := σ10) (by decide +kernel) rfl).trans ?_
      refine hb_Vi (hb_fe_ok (r := (.invokevirtual 44, 3, 201, 3, 0, 0, 0)) (by decide +kernel)) (by decide +kernel) (as := [.int 11, .int x2, .int (x3 + (1 : Int32))]) (v := .ref 31) (rest := [.int 2]) rfl rfl (Nat.le_of_ble_eq_true rfl) (fun y124 σ124 => ?_)
      refine (hb_blk [(.imul, 1, 0, 0, 0, 0, 0)] (pe := 128) (gs := []) (loc' := [.ref 31, .int x1, .int x2, .int x3, .int (x3 + (1 : Int32))]) (stk' := [.int ((2 : Int32) * y124)]) (σ' := σ124) (by decide +kernel) rfl).trans ?_
      exact hb_r_iret (hb_fe_ok (r := (.ireturn, 1, 0, 0, 0, 0, 0)) (by decide +kernel))
    refine hb_swc (z := 13) (q := 129) ?_ ?_
    · refine (hb_blk [(.aload_n 0, 1, 0, 0, 0, 0, 0), (.bipush 10, 2, 0, 0, 0, 10, 0), (.iload_n 2, 1, 2, 0, 0, 0, 0), (.iload 4, 2, 4, 0, 0, 0, 0)] (pe := 135) (gs := []) (loc' := [.ref 31, .int x1, .int x2, .int x3, .int (x3 + (1 : Int32))]) (stk' := [.int (x3 + (1 : Int32)), .int x2, .int 10, .ref 31]) (σ' := σ10) (by decide +kernel) rfl).trans ?_
      refine hb_Vi (hb_fe_ok (r := (.invokevirtual 44, 3, 201, 3, 0, 0, 0)) (by decide +kernel)) (by decide +kernel) (as := [.int 10, .int x2, .int (x3 + (1 : Int32))]) (v := .ref 31) (rest := []) rfl rfl (Nat.le_of_ble_eq_true rfl) (fun y135 σ135 => ?_)
      refine (hb_blk [(.bipush 50, 2, 0, 0, 0, 50, 0), (.iadd, 1, 0, 0, 0, 0, 0)] (pe := 141) (gs := []) (loc' := [.ref 31, .int x1, .int x2, .int x3, .int (x3 + (1 : Int32))]) (stk' := [.int (y135 + (50 : Int32))]) (σ' := σ135) (by decide +kernel) rfl).trans ?_
      exact hb_r_iret (hb_fe_ok (r := (.ireturn, 1, 0, 0, 0, 0, 0)) (by decide +kernel))
    refine hb_swc (z := 14) (q := 142) ?_ ?_
    · refine (hb_blk [(.aload_n 0, 1, 0, 0, 0, 0, 0), (.bipush 10, 2, 0, 0, 0, 10, 0), (.iload_n 2, 1, 2, 0, 0, 0, 0), (.iload 4, 2, 4, 0, 0, 0, 0)] (pe := 148) (gs := []) (loc' := [.ref 31, .int x1, .int x2, .int x3, .int (x3 + (1 : Int32))]) (stk' := [.int (x3 + (1 : Int32)), .int x2, .int 10, .ref 31]) (σ' := σ10) (by decide +kernel) rfl).trans ?_
      refine hb_Vi (hb_fe_ok (r := (.invokevirtual 44, 3, 201, 3, 0, 0, 0)) (by decide +kernel)) (by decide +kernel) (as := [.int 10, .int x2, .int (x3 + (1 : Int32))]) (v := .ref 31) (rest := []) rfl rfl (Nat.le_of_ble_eq_true rfl) (fun y148 σ148 => ?_)
      refine (hb_blk [(.aload_n 0, 1, 0, 0, 0, 0, 0), (.aload_n 0, 1, 0, 0, 0, 0, 0), (.iload_n 2, 1, 2, 0, 0, 0, 0)] (pe := 154) (gs := []) (loc' := [.ref 31, .int x1, .int x2, .int x3, .int (x3 + (1 : Int32))]) (stk' := [.int x2, .ref 31, .ref 31, .int y148]) (σ' := σ148) (by decide +kernel) rfl).trans ?_
      refine hb_Vi (hb_fe_ok (r := (.invokevirtual 41, 3, 40, 1, 0, 0, 0)) (by decide +kernel)) (by decide +kernel) (as := [.int x2]) (v := .ref 31) (rest := [.ref 31, .int y148]) rfl rfl (Nat.le_of_ble_eq_true rfl) (fun y154 σ154 => ?_)
      refine (hb_blk [(.iload_n 2, 1, 2, 0, 0, 0, 0), (.iload 4, 2, 4, 0, 0, 0, 0)] (pe := 160) (gs := []) (loc' := [.ref 31, .int x1, .int x2, .int x3, .int (x3 + (1 : Int32))]) (stk' := [.int (x3 + (1 : Int32)), .int x2, .int y154, .ref 31, .int y148]) (σ' := σ154) (by decide +kernel) rfl).trans ?_
      refine hb_Vi (hb_fe_ok (r := (.invokevirtual 44, 3, 201, 3, 0, 0, 0)) (by decide +kernel)) (by decide +kernel) (as := [.int y154, .int x2, .int (x3 + (1 : Int32))]) (v := .ref 31) (rest := [.int y148]) rfl rfl (Nat.le_of_ble_eq_true rfl) (fun y160 σ160 => ?_)
      refine (hb_blk [(.isub, 1, 0, 0, 0, 0, 0)] (pe := 164) (gs := []) (loc' := [.ref 31, .int x1, .int x2, .int x3, .int (x3 + (1 : Int32))]) (stk' := [.int (y148 - y160)]) (σ' := σ160) (by decide +kernel) rfl).trans ?_
      exact hb_r_iret (hb_fe_ok (r := (.ireturn, 1, 0, 0, 0, 0, 0)) (by decide +kernel))
    refine hb_swc (z := 15) (q := 165) ?_ ?_
    · refine (hb_blk [(.iconst 2, 1, 0, 0, 0, 2, 0), (.aload_n 0, 1, 0, 0, 0, 0, 0), (.bipush 14, 2, 0, 0, 0, 14, 0), (.iload_n 2, 1, 2, 0, 0, 0, 0), (.iload 4, 2, 4, 0, 0, 0, 0)] (pe := 172) (gs := []) (loc' := [.ref 31, .int x1, .int x2, .int x3, .int (x3 + (1 : Int32))]) (stk' := [.int (x3 + (1 : Int32)), .int x2, .int 14, .ref 31, .int 2]) (σ' := σ10) (by decide +kernel) rfl).trans ?_
      refine hb_Vi (hb_fe_ok (r := (.invokevirtual 44, 3, 201, 3, 0, 0, 0)) (by decide +kernel)) (by decide +kernel) (as := [.int 14, .int x2, .int (x3 + (1 : Int32))]) (v := .ref 31) (rest := [.int 2]) rfl rfl (Nat.le_of_ble_eq_true rfl) (fun y172 σ172 => ?_)
      refine (hb_blk [(.imul, 1, 0, 0, 0, 0, 0)] (pe := 176) (gs := []) (loc' := [.ref 31, .int x1, .int x2, .int x3, .int (x3 + (1 : Int32))]) (stk' := [.int ((2 : Int32) * y172)]) (σ' := σ172) (by decide +kernel) rfl).trans ?_
      exact hb_r_iret (hb_fe_ok (r := (.ireturn, 1, 0, 0, 0, 0, 0)) (by decide +kernel))
    refine hb_swc (z := 16) (q := 235) ?_ ?_
    · refine (hb_blk [(.iload_n 2, 1, 2, 0, 0, 0, 0)] (pe := 236) (gs := []) (loc' := [.ref 31, .int x1, .int x2, .int x3, .int (x3 + (1 : Int32))]) (stk' := [.int x2]) (σ' := σ10) (by decide +kernel) rfl).trans ?_
      exact hb_r_iret (hb_fe_ok (r := (.ireturn, 1, 0, 0, 0, 0, 0)) (by decide +kernel))
    refine hb_swc (z := 17) (q := 235) ?_ ?_
    · refine (hb_blk [(.iload_n 2, 1, 2, 0, 0, 0, 0)] (pe := 236) (gs := []) (loc' := [.ref 31, .int x1, .int x2, .int x3, .int (x3 + (1 : Int32))]) (stk' := [.int x2]) (σ' := σ10) (by decide +kernel) rfl).trans ?_
      exact hb_r_iret (hb_fe_ok (r := (.ireturn, 1, 0, 0, 0, 0, 0)) (by decide +kernel))
    refine hb_swc (z := 18) (q := 235) ?_ ?_
    · refine (hb_blk [(.iload_n 2, 1, 2, 0, 0, 0, 0)] (pe := 236) (gs := []) (loc' := [.ref 31, .int x1, .int x2, .int x3, .int (x3 + (1 : Int32))]) (stk' := [.int x2]) (σ' := σ10) (by decide +kernel) rfl).trans ?_
      exact hb_r_iret (hb_fe_ok (r := (.ireturn, 1, 0, 0, 0, 0, 0)) (by decide +kernel))
    refine hb_swc (z := 19) (q := 235) ?_ ?_
    · refine (hb_blk [(.iload_n 2, 1, 2, 0, 0, 0, 0)] (pe := 236) (gs := []) (loc' := [.ref 31, .int x1, .int x2, .int x3, .int (x3 + (1 : Int32))]) (stk' := [.int x2]) (σ' := σ10) (by decide +kernel) rfl).trans ?_
      exact hb_r_iret (hb_fe_ok (r := (.ireturn, 1, 0, 0, 0, 0, 0)) (by decide +kernel))
    refine hb_swc (z := 20) (q := 235) ?_ ?_
    · refine (hb_blk [(.iload_n 2, 1, 2, 0, 0, 0, 0)] (pe := 236) (gs := []) (loc' := [.ref 31, .int x1, .int x2, .int x3, .int (x3 + (1 : Int32))]) (stk' := [.int x2]) (σ' := σ10) (by decide +kernel) rfl).trans ?_
      exact hb_r_iret (hb_fe_ok (r := (.ireturn, 1, 0, 0, 0, 0, 0)) (by decide +kernel))
    refine hb_swc (z := 21) (q := 177) ?_ ?_
    · refine (hb_blk [(.aload_n 0, 1, 0, 0, 0, 0, 0), (.bipush 20, 2, 0, 0, 0, 20, 0), (.iload_n 2, 1, 2, 0, 0, 0, 0), (.iload 4, 2, 4, 0, 0, 0, 0)] (pe := 183) (gs := []) (loc' := [.ref 31, .int x1, .int x2, .int x3, .int (x3 + (1 : Int32))]) (stk' := [.int (x3 + (1 : Int32)), .int x2, .int 20, .ref 31]) (σ' := σ10) (by decide +kernel) rfl).trans ?_
      refine hb_Vi (hb_fe_ok (r := (.invokevirtual 44, 3, 201, 3, 0, 0, 0)) (by decide +kernel)) (by decide +kernel) (as := [.int 20, .int x2, .int (x3 + (1 : Int32))]) (v := .ref 31) (rest := []) rfl rfl (Nat.le_of_ble_eq_true rfl) (fun y183 σ183 => ?_)
      refine (hb_blk [(.bipush 100, 2, 0, 0, 0, 100, 0), (.aload_n 0, 1, 0, 0, 0, 0, 0), (.getfield 15, 3, 6, 1, 0, 0, 0), (.iload_n 2, 1, 2, 0, 0, 0, 0), (.iaload, 1, 0, 0, 0, 0, 0), (.imul, 1, 0, 0, 0, 0, 0), (.iadd, 1, 0, 0, 0, 0, 0)] (pe := 196) (gs := [hb_in x2 16]) (loc' := [.ref 31, .int x1, .int x2, .int x3, .int (x3 + (1 : Int32))]) (stk' := [.int (y183 + ((100 : Int32) * (σ183 33 (Int32.toNatClampNeg x2))))]) (σ' := σ183) (by decide +kernel) rfl).trans ?_
      refine congrArg (hb_g _) ?_
      exact hb_r_iret (hb_fe_ok (r := (.ireturn, 1, 0, 0, 0, 0, 0)) (by decide +kernel))
    refine hb_swc (z := 22) (q := 197) ?_ ?_
    · refine (hb_blk [(.aload_n 0, 1, 0, 0, 0, 0, 0), (.bipush 20, 2, 0, 0, 0, 20, 0), (.iload_n 2, 1, 2, 0, 0, 0, 0), (.iload 4, 2, 4, 0, 0, 0, 0)] (pe := 203) (gs := []) (loc' := [.ref 31, .int x1, .int x2, .int x3, .int (x3 + (1 : Int32))]) (stk' := [.int (x3 + (1 : Int32)), .int x2, .int 20, .ref 31]) (σ' := σ10) (by decide +kernel) rfl).trans ?_
      refine hb_Vi (hb_fe_ok (r := (.invokevirtual 44, 3, 201, 3, 0, 0, 0)) (by decide +kernel)) (by decide +kernel) (as := [.int 20, .int x2, .int (x3 + (1 : Int32))]) (v := .ref 31) (rest := []) rfl rfl (Nat.le_of_ble_eq_true rfl) (fun y203 σ203 => ?_)
      refine (hb_blk [(.aload_n 0, 1, 0, 0, 0, 0, 0), (.aload_n 0, 1, 0, 0, 0, 0, 0), (.iload_n 2, 1, 2, 0, 0, 0, 0)] (pe := 209) (gs := []) (loc' := [.ref 31, .int x1, .int x2, .int x3, .int (x3 + (1 : Int32))]) (stk' := [.int x2, .ref 31, .ref 31, .int y203]) (σ' := σ203) (by decide +kernel) rfl).trans ?_
      refine hb_Vi (hb_fe_ok (r := (.invokevirtual 38, 3, 39, 1, 0, 0, 0)) (by decide +kernel)) (by decide +kernel) (as := [.int x2]) (v := .ref 31) (rest := [.ref 31, .int y203]) rfl rfl (Nat.le_of_ble_eq_true rfl) (fun y209 σ209 => ?_)
      refine (hb_blk [(.iload_n 2, 1, 2, 0, 0, 0, 0), (.iload 4, 2, 4, 0, 0, 0, 0)] (pe := 215) (gs := []) (loc' := [.ref 31, .int x1, .int x2, .int x3, .int (x3 + (1 : Int32))]) (stk' := [.int (x3 + (1 : Int32)), .int x2, .int y209, .ref 31, .int y203]) (σ' := σ209) (by decide +kernel) rfl).trans ?_
      refine hb_Vi (hb_fe_ok (r := (.invokevirtual 44, 3, 201, 3, 0, 0, 0)) (by decide +kernel)) (by decide +kernel) (as := [.int y209, .int x2, .int (x3 + (1 : Int32))]) (v := .ref 31) (rest := [.int y203]) rfl rfl (Nat.le_of_ble_eq_true rfl) (fun y215 σ215 => ?_)
      refine (hb_blk [(.iadd, 1, 0, 0, 0, 0, 0)] (pe := 219) (gs := []) (loc' := [.ref 31, .int x1, .int x2, .int x3, .int (x3 + (1 : Int32))]) (stk' := [.int (y203 + y215)]) (σ' := σ215) (by decide +kernel) rfl).trans ?_
      exact hb_r_iret (hb_fe_ok (r := (.ireturn, 1, 0, 0, 0, 0, 0)) (by decide +kernel))
    refine hb_swc (z := 23) (q := 220) ?_ ?_
    · refine (hb_blk [(.aload_n 0, 1, 0, 0, 0, 0, 0), (.bipush 20, 2, 0, 0, 0, 20, 0), (.iload_n 2, 1, 2, 0, 0, 0, 0), (.iload 4, 2, 4, 0, 0, 0, 0)] (pe := 226) (gs := []) (loc' := [.ref 31, .int x1, .int x2, .int x3, .int (x3 + (1 : Int32))]) (stk' := [.int (x3 + (1 : Int32)), .int x2, .int 20, .ref 31]) (σ' := σ10) (by decide +kernel) rfl).trans ?_
      refine hb_Vi (hb_fe_ok (r := (.invokevirtual 44, 3, 201, 3, 0, 0, 0)) (by decide +kernel)) (by decide +kernel) (as := [.int 20, .int x2, .int (x3 + (1 : Int32))]) (v := .ref 31) (rest := []) rfl rfl (Nat.le_of_ble_eq_true rfl) (fun y226 σ226 => ?_)
      refine (hb_blk [(.aload_n 0, 1, 0, 0, 0, 0, 0), (.getfield 24, 3, 6, 4, 0, 0, 0), (.iadd, 1, 0, 0, 0, 0, 0)] (pe := 234) (gs := []) (loc' := [.ref 31, .int x1, .int x2, .int x3, .int (x3 + (1 : Int32))]) (stk' := [.int (y226 + (σ226 31 4))]) (σ' := σ226) (by decide +kernel) rfl).trans ?_
      exact hb_r_iret (hb_fe_ok (r := (.ireturn, 1, 0, 0, 0, 0, 0)) (by decide +kernel))
    refine hb_swd 235 rfl ?_
    refine (hb_blk [(.iload_n 2, 1, 2, 0, 0, 0, 0)] (pe := 236) (gs := []) (loc' := [.ref 31, .int x1, .int x2, .int x3, .int (x3 + (1 : Int32))]) (stk' := [.int x2]) (σ' := σ10) (by decide +kernel) rfl).trans ?_
    exact hb_r_iret (hb_fe_ok (r := (.ireturn, 1, 0, 0, 0, 0, 0)) (by decide +kernel))
  · refine (hb_blk [(.iconst 0, 1, 0, 0, 0, 0, 0)] (pe := 7) (gs := []) (loc' := [.ref 31, .int x1, .int x2, .int x3, .null]) (stk' := [.int 0]) (σ' := σ) (by decide +kernel) rfl).trans ?_
    exact hb_r_iret (hb_fe_ok (r := (.ireturn, 1, 0, 0, 0, 0, 0)) (by decide +kernel))
set_option maxRecDepth 8000 in
theorem e201_0  (σ : hbM) (x1 : Int32) (x2 : Int32) (x3 : Int32) : hb_run hbSH 201 (0, [.ref 31, .int x1, .int x2, .int x3, .null], [], σ) = if (x3 < (8 : Int32)) then (hb_cv (hb_ev hbSH 42 [.ref 31, .int x1] σ) (fun σ10 => if (x1 = 10) then (hb_ci (hb_ev hbSH 37 [.ref 31, .int x2] σ10) (fun y90 σ90 => some (some (.int y90), σ90))) else (if (x1 = 11) then (hb_ci (hb_ev hbSH 202 [.ref 31, .int 10, .int x2, .int (x3 + (1 : Int32))] σ10) (fun y100 σ100 => hb_ci (hb_ev hbSH 40 [.ref 31, .int x2] σ100) (fun y106 σ106 => hb_ci (hb_ev hbSH 202 [.ref 31, .int y106, .int x2, .int (x3 + (1 : Int32))] σ106) (fun y112 σ112 => some (some (.int (y100 + y112)), σ112))))) else (if (x1 = 12) then (hb_ci (hb_ev hbSH 202 [.ref 31, .int 11, .int x2, .int (x3 + (1 : Int32))] σ10) (fun y124 σ124 => some (some (.int ((2 : Int32) * y124)), σ124))) else (if (x1 = 13) then (hb_ci (hb_ev hbSH 202 [.ref 31, .int 10, .int x2, .int (x3 + (1 : Int32))] σ10) (fun y135 σ135 => some (some (.int (y135 + (50 : Int32))), σ135))) else (if (x1 = 14) then (hb_ci (hb_ev hbSH 202 [.ref 31, .int 10, .int x2, .int (x3 + (1 : Int32))] σ10) (fun y148 σ148 => hb_ci (hb_ev hbSH 40 [.ref 31, .int x2] σ148) (fun y154 σ154 => hb_ci (hb_ev hbSH 202 [.ref 31, .int y154, .int x2, .int (x3 + (1 : Int32))] σ154) (fun y160 σ160 => some (some (.int (y148 - y160)), σ160))))) else (if (x1 = 15) then (hb_ci (hb_ev hbSH 202 [.ref 31, .int 14, .int x2, .int (x3 + (1 : Int32))] σ10) (fun y172 σ172 => some (some (.int ((2 : Int32) * y172)), σ172))) else (if (x1 = 16) then (some (some (.int x2), σ10)) else (if (x1 = 17) then (some (some (.int x2), σ10)) else (if (x1 = 18) then (some (some (.int x2), σ10)) else (if (x1 = 19) then (some (some (.int x2), σ10)) else (if (x1 = 20) then (some (some (.int x2), σ10)) else (if (x1 = 21) then (hb_ci (hb_ev hbSH 202 [.ref 31, .int 20, .int x2, .int (x3 + (1 : Int32))] σ10) (fun y183 σ183 => hb_g [hb_in x2 16] (some (some (.int (y183 + ((100 : Int32) * (σ183 33 (Int32.toNatClampNeg x2))))), σ183)))) else (if (x1 = 22) then (hb_ci (hb_ev hbSH 202 [.ref 31, .int 20, .int x2, .int (x3 + (1 : Int32))] σ10) (fun y203 σ203 => hb_ci (hb_ev hbSH 39 [.ref 31, .int x2] σ203) (fun y209 σ209 => hb_ci (hb_ev hbSH 202 [.ref 31, .int y209, .int x2, .int (x3 + (1 : Int32))] σ209) (fun y215 σ215 => some (some (.int (y203 + y215)), σ215))))) else (if (x1 = 23) then (hb_ci (hb_ev hbSH 202 [.ref 31, .int 20, .int x2, .int (x3 + (1 : Int32))] σ10) (fun y226 σ226 => some (some (.int (y226 + (σ226 31 4))), σ226))) else (some (some (.int x2), σ10))))))))))))))))) else (some (some (.int 0), σ)) := by
  refine (hb_blk [(.iload_n 3, 1, 3, 0, 0, 0, 0), (.bipush 8, 2, 0, 0, 0, 8, 0)] (pe := 3) (gs := []) (loc' := [.ref 31, .int x1, .int x2, .int x3, .null]) (stk' := [.int 8, .int x3]) (σ' := σ) (by decide +kernel) rfl).trans ?_
  refine hb_br (hb_fe_ok (r := (.if_icmp .lt 5, 3, 8, 0, 0, 0, 0)) (by decide +kernel)) rfl ?_ ?_
  · refine (hb_blk [(.aload_n 0, 1, 0, 0, 0, 0, 0), (.iload_n 1, 1, 1, 0, 0, 0, 0)] (pe := 10) (gs := []) (loc' := [.ref 31, .int x1, .int x2, .int x3, .null]) (stk' := [.int x1, .ref 31]) (σ' := σ) (by decide +kernel) rfl).trans ?_
    refine hb_Vv (hb_fe_ok (r := (.invokevirtual 48, 3, 42, 1, 0, 0, 0)) (by decide +kernel)) (by decide +kernel) (as := [.int x1]) (v := .ref 31) (rest := []) rfl rfl (Nat.le_of_ble_eq_true rfl) (fun σ10 => ?_)
    refine (hb_blk [(.iload_n 3, 1, 3, 0, 0, 0, 0), (.iconst 1, 1, 0, 0, 0, 1, 0), (.iadd, 1, 0, 0, 0, 0, 0), (.istore 4, 2, 4, 0, 0, 0, 0), (.iload_n 1, 1, 1, 0, 0, 0, 0)] (pe := 19) (gs := []) (loc' := [.ref 31, .int x1, .int x2, .int x3, .int (x3 + (1 : Int32))]) (stk' := [.int x1]) (σ' := σ10) (by decide +kernel) rfl).trans ?_
    refine hb_r_sw (hb_fe_ok (r := (.tableswitch 216 10 23 #[69, 75, 98, 110, 123, 146, 216, 216, 216, 216, 216, 158, 178, 201], 69, 0, 0, 0, 0, 0)) (by decide +kernel)) ?_
    refine hb_swc (z := 10) (q := 88) ?_ ?_
    · refine (hb_blk [(.aload_n 0, 1, 0, 0, 0, 0, 0), (.iload_n 2, 1, 2, 0, 0, 0, 0)] (pe := 90) (gs := []) (loc' := [.ref 31, .int x1, .int x2, .int x3, .int (x3 + (1 : Int32))]) (stk' := [.int x2, .ref 31]) (σ' := σ10) (by decide +kernel) rfl).trans ?_
      refine hb_Vi (hb_fe_ok (r := (.invokevirtual 52, 3, 37, 1, 0, 0, 0)) (by decide +kernel)) (by decide +kernel) (as := [.int x2]) (v := .ref 31) (rest := []) rfl rfl (Nat.le_of_ble_eq_true rfl) (fun y90 σ90 => ?_)
      exact hb_r_iret (hb_fe_ok (r := (.ireturn, 1, 0, 0, 0, 0, 0)) (by decide +kernel))
    refine hb_swc (z := 11) (q := 94) ?_ ?_
    · refine (hb_blk [(.aload_n 0, 1, 0, 0, 0, 0, 0), (.bipush 10, 2, 0, 0, 0, 10, 0), (.iload_n 2, 1, 2, 0, 0, 0, 0), (.iload 4, 2, 4, 0, 0, 0, 0)] (pe := 100) (gs := []) (loc' := [.ref 31, .int x1, .int x2, .int x3, .int (x3 + (1 : Int32))]) (stk' := [.int (x3 + (1 : Int32)), .int x2, .int 10, .ref 31]) (σ' := σ10) (by decide +kernel) rfl).trans ?_
      refine hb_Vi (hb_fe_ok (r := (.invokevirtual 44, 3, 202, 3, 0, 0, 0)) (by decide +kernel)) (by decide +kernel) (as := [.int 10, .int x2, .int (x3 + (1 : Int32))]) (v := .ref 31) (rest := []) rfl rfl (Nat.le_of_ble_eq_true rfl) (fun y100 σ100 => ?_)
      refine (hb_blk [(.aload_n 0, 1, 0, 0, 0, 0, 0), (.aload_n 0, 1, 0, 0, 0, 0, 0), (.iload_n 2, 1, 2, 0, 0, 0, 0)] (pe := 106) (gs := []) (loc' := [.ref 31, .int x1, .int x2, .int x3, .int (x3 + (1 : Int32))]) (stk' := [.int x2, .ref 31, .ref 31, .int y100]) (σ' := σ100) (by decide +kernel) rfl).trans ?_
      refine hb_Vi (hb_fe_ok (r := (.invokevirtual 41, 3, 40, 1, 0, 0, 0)) (by decide +kernel)) (by decide +kernel) (as := [.int x2]) (v := .ref 31) (rest := [.ref 31, .int y100]) rfl rfl (Nat.le_of_ble_eq_true rfl) (fun y106 σ106 => ?_)
      refine (hb_blk [(.iload_n 2, 1, 2, 0, 0, 0, 0), (.iload 4, 2, 4, 0, 0, 0, 0)] (pe := 112) (gs := []) (loc' := [.ref 31, .int x1, .int x2, .int x3, .int (x3 + (1 : Int32))]) (stk' := [.int (x3 + (1 : Int32)), .int x2, .int y106, .ref 31, .int y100]) (σ' := σ106) (by decide +kernel) rfl).trans ?_
      refine hb_Vi (hb_fe_ok (r := (.invokevirtual 44, 3, 202, 3, 0, 0, 0)) (by decide +kernel)) (by decide +kernel) (as := [.int y106, .int x2, .int (x3 + (1 : Int32))]) (v := .ref 31) (rest := [.int y100]) rfl rfl (Nat.le_of_ble_eq_true rfl) (fun y112 σ112 => ?_)
      refine (hb_blk [(.iadd, 1, 0, 0, 0, 0, 0)] (pe := 116) (gs := []) (loc' := [.ref 31, .int x1, .int x2, .int x3, .int (x3 + (1 : Int32))]) (stk' := [.int (y100 + y112)]) (σ' := σ112) (by decide +kernel) rfl).trans ?_
      exact hb_r_iret (hb_fe_ok (r := (.ireturn, 1, 0, 0, 0, 0, 0)) (by decide +kernel))
    refine hb_swc (z := 12) (q := 117) ?_ ?_
    · refine (hb_blk [(.iconst 2, 1, 0, 0, 0, 2, 0), (.aload_n 0, 1, 0, 0, 0, 0, 0), (.bipush 11, 2, 0, 0, 0, 11, 0), (.iload_n 2, 1, 2, 0, 0, 0, 0), (.iload 4, 2, 4, 0, 0, 0, 0)] (pe := 124) (gs := []) (loc' := [.ref 31, .int x1, .int x2, .int x3, .int (x3 + (1 : Int32))]) (stk' := [.int (x3 + (1 : Int32)), .int x2, .int 11, .ref 31, .int 2]) (σ' := σ10) (by decide +kernel) rfl).trans ?_
      refine hb_Vi (hb_fe_ok (r := (.invokevirtual 44, 3, 202, 3, 0, 0, 0)) (by decide +kernel)) (by decide +kernel) (as := [.int 11, .int x2, .int (x3 + (1 : Int32))]) (v := .ref 31) (rest := [.int 2]) rfl rfl (Nat.le_of_ble_eq_true rfl) (fun y124 σ124 => ?_)
      refine (hb_blk [(.imul, 1, 0, 0, 0, 0, 0)] (pe := 128) (gs := []) (loc' := [.ref 31, .int x1, .int x2, .int x3, .int (x3 + (1 : Int32))]) (stk' := [.int ((2 : Int32) * y124)]) (σ' := σ124) (by decide +kernel) rfl).trans ?_
      exact hb_r_iret (hb_fe_ok (r := (.ireturn, 1, 0, 0, 0, 0, 0)) (by decide +kernel))
    refine hb_swc (z := 13) (q := 129) ?_ ?_
    · refine (hb_blk [(.aload_n 0, 1, 0, 0, 0, 0, 0), (.bipush 10, 2, 0, 0, 0, 10, 0), (.iload_n 2, 1, 2, 0, 0, 0, 0), (.iload 4, 2, 4, 0, 0, 0, 0)] (pe := 135) (gs := []) (loc' := [.ref 31, .int x1, .int x2, .int x3, .int (x3 + (1 : Int32))]) (stk' := [.int (x3 + (1 : Int32)), .int x2, .int 10, .ref 31]) (σ' := σ10) (by decide +kernel) rfl).trans ?_
      refine hb_Vi (hb_fe_ok (r := (.invokevirtual 44, 3, 202, 3, 0, 0, 0)) (by decide +kernel)) (by decide +kernel) (as := [.int 10, .int x2, .int (x3 + (1 : Int32))]) (v := .ref 31) (rest := []) rfl rfl (Nat.le_of_ble_eq_true rfl) (fun y135 σ135 => ?_)
      refine (hb_blk [(.bipush 50, 2, 0, 0, 0, 50, 0), (.iadd, 1, 0, 0, 0, 0, 0)] (pe := 141) (gs := []) (loc' := [.ref 31, .int x1, .int x2, .int x3, .int (x3 + (1 : Int32))]) (stk' := [.int (y135 + (50 : Int32))]) (σ' := σ135) (by decide +kernel) rfl).trans ?_
      exact hb_r_iret (hb_fe_ok (r := (.ireturn, 1, 0, 0, 0, 0, 0)) (by decide +kernel))
    refine hb_swc (z := 14) (q := 142) ?_ ?_
    · refine (hb_blk [(.aload_n 0, 1, 0, 0, 0, 0, 0), (.bipush 10, 2, 0, 0, 0, 10, 0), (.iload_n 2, 1, 2, 0, 0, 0, 0), (.iload 4, 2, 4, 0, 0, 0, 0)] (pe := 148) (gs := []) (loc' := [.ref 31, .int x1, .int x2, .int x3, .int (x3 + (1 : Int32))]) (stk' := [.int (x3 + (1 : Int32)), .int x2, .int 10, .ref 31]) (σ' := σ10) (by decide +kernel) rfl).trans ?_
      refine hb_Vi (hb_fe_ok (r := (.invokevirtual 44, 3, 202, 3, 0, 0, 0)) (by decide +kernel)) (by decide +kernel) (as := [.int 10, .int x2, .int (x3 + (1 : Int32))]) (v := .ref 31) (rest := []) rfl rfl (Nat.le_of_ble_eq_true rfl) (fun y148 σ148 => ?_)
      refine (hb_blk [(.aload_n 0, 1, 0, 0, 0, 0, 0), (.aload_n 0, 1, 0, 0, 0, 0, 0), (.iload_n 2, 1, 2, 0, 0, 0, 0)] (pe := 154) (gs := []) (loc' := [.ref 31, .int x1, .int x2, .int x3, .int (x3 + (1 : Int32))]) (stk' := [.int x2, .ref 31, .ref 31, .int y148]) (σ' := σ148) (by decide +kernel) rfl).trans ?_
      refine hb_Vi (hb_fe_ok (r := (.invokevirtual 41, 3, 40, 1, 0, 0, 0)) (by decide +kernel)) (by decide +kernel) (as := [.int x2]) (v := .ref 31) (rest := [.ref 31, .int y148]) rfl rfl (Nat.le_of_ble_eq_true rfl) (fun y154 σ154 => ?_)
      refine (hb_blk [(.iload_n 2, 1, 2, 0, 0, 0, 0), (.iload 4, 2, 4, 0, 0, 0, 0)] (pe := 160) (gs := []) (loc' := [.ref 31, .int x1, .int x2, .int x3, .int (x3 + (1 : Int32))]) (stk' := [.int (x3 + (1 : Int32)), .int x2, .int y154, .ref 31, .int y148]) (σ' := σ154) (by decide +kernel) rfl).trans ?_
      refine hb_Vi (hb_fe_ok (r := (.invokevirtual 44, 3, 202, 3, 0, 0, 0)) (by decide +kernel)) (by decide +kernel) (as := [.int y154, .int x2, .int (x3 + (1 : Int32))]) (v := .ref 31) (rest := [.int y148]) rfl rfl (Nat.le_of_ble_eq_true rfl) (fun y160 σ160 => ?_)
      refine (hb_blk [(.isub, 1, 0, 0, 0, 0, 0)] (pe := 164) (gs := []) (loc' := [.ref 31, .int x1, .int x2, .int x3, .int (x3 + (1 : Int32))]) (stk' := [.int (y148 - y160)]) (σ' := σ160) (by decide +kernel) rfl).trans ?_
      exact hb_r_iret (hb_fe_ok (r := (.ireturn, 1, 0, 0, 0, 0, 0)) (by decide +kernel))
    refine hb_swc (z := 15) (q := 165) ?_ ?_
    · refine (hb_blk [(.iconst 2, 1, 0, 0, 0, 2, 0), (.aload_n 0, 1, 0, 0, 0, 0, 0), (.bipush 14, 2, 0, 0, 0, 14, 0), (.iload_n 2, 1, 2, 0, 0, 0, 0), (.iload 4, 2, 4, 0, 0, 0, 0)] (pe := 172) (gs := []) (loc' := [.ref 31, .int x1, .int x2, .int x3, .int (x3 + (1 : Int32))]) (stk' := [.int (x3 + (1 : Int32)), .int x2, .int 14, .ref 31, .int 2]) (σ' := σ10) (by decide +kernel) rfl).trans ?_
      refine hb_Vi (hb_fe_ok (r := (.invokevirtual 44, 3, 202, 3, 0, 0, 0)) (by decide +kernel)) (by decide +kernel) (as := [.int 14, .int x2, .int (x3 + (1 : Int32))]) (v := .ref 31) (rest := [.int 2]) rfl rfl (Nat.le_of_ble_eq_true rfl) (fun y172 σ172 => ?_)
      refine (hb_blk [(.imul, 1, 0, 0, 0, 0, 0)] (pe := 176) (gs := []) (loc' := [.ref 31, .int x1, .int x2, .int x3, .int (x3 + (1 : Int32))]) (stk' := [.int ((2 : Int32) * y172)]) (σ' := σ172) (by decide +kernel) rfl).trans ?_
      exact hb_r_iret (hb_fe_ok (r := (.ireturn, 1, 0, 0, 0, 0, 0)) (by decide +kernel))
    refine hb_swc (z := 16) (q := 235) ?_ ?_
    · refine (hb_blk [(.iload_n 2, 1, 2, 0, 0, 0, 0)] (pe := 236) (gs := []) (loc' := [.ref 31, .int x1, .int x2, .int x3, .int (x3 + (1 : Int32))]) (stk' := [.int x2]) (σ' := σ10) (by decide +kernel) rfl).trans ?_
      exact hb_r_iret (hb_fe_ok (r := (.ireturn, 1, 0, 0, 0, 0, 0)) (by decide +kernel))
    refine hb_swc (z := 17) (q := 235) ?_ ?_
    · refine (hb_blk [(.iload_n 2, 1, 2, 0, 0, 0, 0)] (pe := 236) (gs := []) (loc' := [.ref 31, .int x1, .int x2, .int x3, .int (x3 + (1 : Int32))]) (stk' := [.int x2]) (σ' := σ10) (by decide +kernel) rfl).trans ?_
      exact hb_r_iret (hb_fe_ok (r := (.ireturn, 1, 0, 0, 0, 0, 0)) (by decide +kernel))
    refine hb_swc (z := 18) (q := 235) ?_ ?_
    · refine (hb_blk [(.iload_n 2, 1, 2, 0, 0, 0, 0)] (pe := 236) (gs := []) (loc' := [.ref 31, .int x1, .int x2, .int x3, .int (x3 + (1 : Int32))]) (stk' := [.int x2]) (σ' := σ10) (by decide +kernel) rfl).trans ?_
      exact hb_r_iret (hb_fe_ok (r := (.ireturn, 1, 0, 0, 0, 0, 0)) (by decide +kernel))
    refine hb_swc (z := 19) (q := 235) ?_ ?_
    · refine (hb_blk [(.iload_n 2, 1, 2, 0, 0, 0, 0)] (pe := 236) (gs := []) (loc' := [.ref 31, .int x1, .int x2, .int x3, .int (x3 + (1 : Int32))]) (stk' := [.int x2]) (σ' := σ10) (by decide +kernel) rfl).trans ?_
      exact hb_r_iret (hb_fe_ok (r := (.ireturn, 1, 0, 0, 0, 0, 0)) (by decide +kernel))
    refine hb_swc (z := 20) (q := 235) ?_ ?_
    · refine (hb_blk [(.iload_n 2, 1, 2, 0, 0, 0, 0)] (pe := 236) (gs := []) (loc' := [.ref 31, .int x1, .int x2, .int x3, .int (x3 + (1 : Int32))]) (stk' := [.int x2]) (σ' := σ10) (by decide +kernel) rfl).trans ?_
      exact hb_r_iret (hb_fe_ok (r := (.ireturn, 1, 0, 0, 0, 0, 0)) (by decide +kernel))
    refine hb_swc (z := 21) (q := 177) ?_ ?_
    · refine (hb_blk [(.aload_n 0, 1, 0, 0, 0, 0, 0), (.bipush 20, 2, 0, 0, 0, 20, 0), (.iload_n 2, 1, 2, 0, 0, 0, 0), (.iload 4, 2, 4, 0, 0, 0, 0)] (pe := 183) (gs := []) (loc' := [.ref 31, .int x1, .int x2, .int x3, .int (x3 + (1 : Int32))]) (stk' := [.int (x3 + (1 : Int32)), .int x2, .int 20, .ref 31]) (σ' := σ10) (by decide +kernel) rfl).trans ?_
      refine hb_Vi (hb_fe_ok (r := (.invokevirtual 44, 3, 202, 3, 0, 0, 0)) (by decide +kernel)) (by decide +kernel) (as := [.int 20, .int x2, .int (x3 + (1 : Int32))]) (v := .ref 31) (rest := []) rfl rfl (Nat.le_of_ble_eq_true rfl) (fun y183 σ183 => ?_)
      refine (hb_blk [(.bipush 100, 2, 0, 0, 0, 100, 0), (.aload_n 0, 1, 0, 0, 0, 0, 0), (.getfield 15, 3, 6, 1, 0, 0, 0), (.iload_n 2, 1, 2, 0, 0, 0, 0), (.iaload, 1, 0, 0, 0, 0, 0), (.imul, 1, 0, 0, 0, 0, 0), (.iadd, 1, 0, 0, 0, 0, 0)] (pe := 196) (gs := [hb_in x2 16]) (loc' := [.ref 31, .int x1, .int x2, .int x3, .int (x3 + (1 : Int32))]) (stk' := [.int (y183 + ((100 : Int32) * (σ183 33 (Int32.toNatClampNeg x2))))]) (σ' := σ183) (by decide +kernel) rfl).trans ?_
      refine congrArg (hb_g _) ?_
      exact hb_r_iret (hb_fe_ok (r := (.ireturn, 1, 0, 0, 0, 0, 0)) (by decide +kernel))
    refine hb_swc (z := 22) (q := 197) ?_ ?_
    · refine (hb_blk [(.aload_n 0, 1, 0, 0, 0, 0, 0), (.bipush 20, 2, 0, 0, 0, 20, 0), (.iload_n 2, 1, 2, 0, 0, 0, 0), (.iload 4, 2, 4, 0, 0, 0, 0)] (pe := 203) (gs := []) (loc' := [.ref 31, .int x1, .int x2, .int x3, .int (x3 + (1 : Int32))]) (stk' := [.int (x3 + (1 : Int32)), .int x2, .int 20, .ref 31]) (σ' := σ10) (by decide +kernel) rfl).trans ?_
      refine hb_Vi (hb_fe_ok (r := (.invokevirtual 44, 3, 202, 3, 0, 0, 0)) (by decide +kernel)) (by decide +kernel) (as := [.int 20, .int x2, .int (x3 + (1 : Int32))]) (v := .ref 31) (rest := []) rfl rfl (Nat.le_of_ble_eq_true rfl) (fun y203 σ203 => ?_)
      refine (hb_blk [(.aload_n 0, 1, 0, 0, 0, 0, 0), (.aload_n 0, 1, 0, 0, 0, 0, 0), (.iload_n 2, 1, 2, 0, 0, 0, 0)] (pe := 209) (gs := []) (loc' := [.ref 31, .int x1, .int x2, .int x3, .int (x3 + (1 : Int32))]) (stk' := [.int x2, .ref 31, .ref 31, .int y203]) (σ' := σ203) (by decide +kernel) rfl).trans ?_
      refine hb_Vi (hb_fe_ok (r := (.invokevirtual 38, 3, 39, 1, 0, 0, 0)) (by decide +kernel)) (by decide +kernel) (as := [.int x2]) (v := .ref 31) (rest := [.ref 31, .int y203]) rfl rfl (Nat.le_of_ble_eq_true rfl) (fun y209 σ209 => ?_)
      refine (hb_blk [(.iload_n 2, 1, 2, 0, 0, 0, 0), (.iload 4, 2, 4, 0, 0, 0, 0)] (pe := 215) (gs := []) (loc' := [.ref 31, .int x1, .int x2, .int x3, .int (x3 + (1 : Int32))]) (stk' := [.int (x3 + (1 : Int32)), .int x2, .int y209, .ref 31, .int y203]) (σ' := σ209) (by decide +kernel) rfl).trans ?_
      refine hb_Vi (hb_fe_ok (r := (.invokevirtual 44, 3, 202, 3, 0, 0, 0)) (by decide +kernel)) (by decide +kernel) (as := [.int y209, .int x2, .int (x3 + (1 : Int32))]) (v := .ref 31) (rest := [.int y203]) rfl rfl (Nat.le_of_ble_eq_true rfl) (fun y215 σ215 => ?_)
      refine (hb_blk [(.iadd, 1, 0, 0, 0, 0, 0)] (pe := 219) (gs := []) (loc' := [.ref 31, .int x1, .int x2, .int x3, .int (x3 + (1 : Int32))]) (stk' := [.int (y203 + y215)]) (σ' := σ215) (by decide +kernel) rfl).trans ?_
      exact hb_r_iret (hb_fe_ok (r := (.ireturn, 1, 0, 0, 0, 0, 0)) (by decide +kernel))
    refine hb_swc (z := 23) (q := 220) ?_ ?_
    · refine (hb_blk [(.aload_n 0, 1, 0, 0, 0, 0, 0), (.bipush 20, 2, 0, 0, 0, 20, 0), (.iload_n 2, 1, 2, 0, 0, 0, 0), (.iload 4, 2, 4, 0, 0, 0, 0)] (pe := 226) (gs := []) (loc' := [.ref 31, .int x1, .int x2, .int x3, .int (x3 + (1 : Int32))]) (stk' := [.int (x3 + (1 : Int32)), .int x2, .int 20, .ref 31]) (σ' := σ10) (by decide +kernel) rfl).trans ?_
      refine hb_Vi (hb_fe_ok (r := (.invokevirtual 44, 3, 202, 3, 0, 0, 0)) (by decide +kernel)) (by decide +kernel) (as := [.int 20, .int x2, .int (x3 + (1 : Int32))]) (v := .ref 31) (rest := []) rfl rfl (Nat.le_of_ble_eq_true rfl) (fun y226 σ226 => ?_)
      refine (hb_blk [(.aload_n 0, 1, 0, 0, 0, 0, 0), (.getfield 24, 3, 6, 4, 0, 0, 0), (.iadd, 1, 0, 0, 0, 0, 0)] (pe := 234) (gs := []) (loc' := [.ref 31, .int x1, .int x2, .int x3, .int (x3 + (1 : Int32))]) (stk' := [.int (y226 + (σ226 31 4))]) (σ' := σ226) (by decide +kernel) rfl).trans ?_
      exact hb_r_iret (hb_fe_ok (r := (.ireturn, 1, 0, 0, 0, 0, 0)) (by decide +kernel))
    refine hb_swd 235 rfl ?_
    refine (hb_blk [(.iload_n 2, 1, 2, 0, 0, 0, 0)] (pe := 236) (gs := []) (loc' := [.ref 31, .int x1, .int x2, .int x3, .int (x3 + (1 : Int32))]) (stk' := [.int x2]) (σ' := σ10) (by decide +kernel) rfl).trans ?_
    exact hb_r_iret (hb_fe_ok (r := (.ireturn, 1, 0, 0, 0, 0, 0)) (by decide +kernel))
  · refine (hb_blk [(.iconst 0, 1, 0, 0, 0, 0, 0)] (pe := 7) (gs := []) (loc' := [.ref 31, .int x1, .int x2, .int x3, .null]) (stk' := [.int 0]) (σ' := σ) (by decide +kernel) rfl).trans ?_
    exact hb_r_iret (hb_fe_ok (r := (.ireturn, 1, 0, 0, 0, 0, 0)) (by decide +kernel))
set_option maxRecDepth 8000 in
theorem e202_0  (σ : hbM) (x1 : Int32) (x2 : Int32) (x3 : Int32) : hb_run hbSH 202 (0, [.ref 31, .int x1, .int x2, .int x3, .null], [], σ) = if (x3 < (8 : Int32)) then (hb_cv (hb_ev hbSH 42 [.ref 31, .int x1] σ) (fun σ10 => if (x1 = 10) then (hb_ci (hb_ev hbSH 37 [.ref 31, .int x2] σ10) (fun y90 σ90 => some (some (.int y90), σ90))) else (if (x1 = 11) then (hb_ci (hb_ev hbSH 203 [.ref 31, .int 10, .int x2, .int (x3 + (1 : Int32))] σ10) (fun y100 σ100 => hb_ci (hb_ev hbSH 40 [.ref 31, .int x2] σ100) (fun y106 σ106 => hb_ci (hb_ev hbSH 203 [.ref 31, .int y106, .int x2, .int (x3 + (1 : Int32))] σ106) (fun y112 σ112 => some (some (.int (y100 + y112)), σ112))))) else (if (x1 = 12) then (hb_ci (hb_ev hbSH 203 [.ref 31, .int 11, .int x2, .int (x3 + (1 : Int32))] σ10) (fun y124 σ124 => some (some (.int ((2 : Int32) * y124)), σ124))) else (if (x1 = 13) then (hb_ci (hb_ev hbSH 203 [.ref 31, .int 10, .int x2, .int (x3 + (1 : Int32))] σ10) (fun y135 σ135 => some (some (.int (y135 + (50 : Int32))), σ135))) else (if (x1 = 14) then (hb_ci (hb_ev hbSH 203 [.ref 31, .int 10, .int x2, .int (x3 + (1 : Int32))] σ10) (fun y148 σ148 => hb_ci (hb_ev hbSH 40 [.ref 31, .int x2] σ148) (fun y154 σ154 => hb_ci (hb_ev hbSH 203 [.ref 31, .int y154, .int x2, .int (x3 + (1 : Int32))] σ154) (fun y160 σ160 => some (some (.int (y148 - y160)), σ160))))) else (if (x1 = 15) then (hb_ci (hb_ev hbSH 203 [.ref 31, .int 14, .int x2, .int (x3 + (1 : Int32))] σ10) (fun y172 σ172 => some (some (.int ((2 : Int32) * y172)), σ172))) else (if (x1 = 16) then (some (some (.int x2), σ10)) else (if (x1 = 17) then (some (some (.int x2), σ10)) else (if (x1 = 18) then (some (some (.int x2), σ10)) else (if (x1 = 19) then (some (some (.int x2), σ10)) else (if (x1 = 20) then (some (some (.int x2), σ10)) else (if (x1 = 21) then (hb_ci (hb_ev hbSH 203 [.ref 31, .int 20, .int x2, .int (x3 + (1 : Int32))] σ10) (fun y183 σ183 => hb_g [hb_in x2 16] (some (some (.int (y183 + ((100 : Int32) * (σ183 33 (Int32.toNatClampNeg x2))))), σ183)))) else (if (x1 = 22) then (hb_ci (hb_ev hbSH 203 [.ref 31, .int 20, .int x2, .int (x3 + (1 : Int32))] σ10) (fun y203 σ203 => hb_ci (hb_ev hbSH 39 [.ref 31, .int x2] σ203) (fun y209 σ209 => hb_ci (hb_ev hbSH 203 [.ref 31, .int y209, .int x2, .int (x3 + (1 : Int32))] σ209) (fun y215 σ215 => some (some (.int (y203 + y215)), σ215))))) else (if (x1 = 23) then (hb_ci (hb_ev hbSH 203 [.ref 31, .int 20, .int x2, .int (x3 + (1 : Int32))] σ10) (fun y226 σ226 => some (some (.int (y226 + (σ226 31 4))), σ226))) else (some (some (.int x2), σ10))))))))))))))))) else (some (some (.int 0), σ)) := by
  refine (hb_blk [(.iload_n 3, 1, 3, 0, 0, 0, 0), (.bipush 8, 2, 0, 0, 0, 8, 0)] (pe := 3) (gs := []) (loc' := [.ref 31, .int x1, .int x2, .int x3, .null]) (stk' := [.int 8, .int x3]) (σ' := σ) (by decide +kernel) rfl).trans ?_
  refine hb_br (hb_fe_ok (r := (.if_icmp .lt 5, 3, 8, 0, 0, 0, 0)) (by decide +kernel)) rfl ?_ ?_
  · refine (hb_blk [(.aload_n 0, 1, 0, 0, 0, 0, 0), (.iload_n 1, 1, 1, 0, 0, 0, 0)] (pe := 10) (gs := []) (loc' := [.ref 31, .int x1, .int x2, .int x3, .null]) (stk' := [.int x1, .ref 31]) (σ' := σ) (by decide +kernel) rfl).trans ?_
    refine hb_Vv (hb_fe_ok (r := (.invokevirtual 48, 3, 42, 1, 0, 0, 0)) (by decide +kernel)) (by decide +kernel) (as := [.int x1]) (v := .ref 31) (rest := []) rfl rfl (Nat.le_of_ble_eq_true rfl) (fun σ10 => ?_)
    refine (hb_blk [(.iload_n 3, 1, 3, 0, 0, 0, 0), (.iconst 1, 1, 0, 0, 0, 1, 0), (.iadd, 1, 0, 0, 0, 0, 0), (.istore 4, 2, 4, 0, 0, 0, 0), (.iload_n 1, 1, 1, 0, 0, 0, 0)] (pe := 19) (gs := []) (loc' := [.ref 31, .int x1, .int x2, .int x3, .int (x3 + (1 : Int32))]) (stk' := [.int x1]) (σ' := σ10) (by decide +kernel) rfl).trans ?_
    refine hb_r_sw (hb_fe_ok (r := (.tableswitch 216 10 23 #[69, 75, 98, 110, 123, 146, 216, 216, 216, 216, 216, 158, 178, 201], 69, 0, 0, 0, 0, 0)) (by decide +kernel)) ?_
    refine hb_swc (z := 10) (q := 88) ?_ ?_
    · refine (hb_blk [(.aload_n 0, 1, 0, 0, 0, 0, 0), (.iload_n 2, 1, 2, 0, 0, 0, 0)] (pe := 90) (gs := []) (loc' := [.ref 31, .int x1, .int x2, .int x3, .int (x3 + (1 : Int32))]) (stk' := [.int x2, .ref 31]) (σ' := σ10) (by decide +kernel) rfl).trans ?_
      refine hb_Vi (hb_fe_ok (r := (.invokevirtual 52, 3, 37, 1, 0, 0, 0)) (by decide +kernel)) (by decide +kernel) (as := [.int x2]) (v := .ref 31) (rest := []) rfl rfl (Nat.le_of_ble_eq_true rfl) (fun y90 σ90 => ?_)
      exact hb_r_iret (hb_fe_ok (r := (.ireturn, 1, 0, 0, 0, 0, 0)) (by decide +kernel))
    refine hb_swc (z := 11) (q := 94) ?_ ?_
    · refine (hb_blk [(.aload_n 0, 1, 0, 0, 0, 0, 0), (.bipush 10, 2, 0, 0, 0, 10, 0), (.iload_n 2, 1, 2, 0, 0, 0, 0), (.iload 4, 2, 4, 0, 0, 0, 0)] (pe := 100) (gs := []) (loc' := [.ref 31, .int x1, .int x2, .int x3, .int (x3 + (1 : Int32))]) (stk' := [.int (x3 + (1 : Int32)), .int x2, .int 10, .ref 31]) (σ' := σ10) (by decide +kernel) rfl).trans ?_
      refine hb_Vi (hb_fe_ok (r := (.invokevirtual 44, 3, 203, 3, 0, 0, 0)) (by decide +kernel)) (by decide +kernel) (as := [.int 10, .int x2, .int (x3 + (1 : Int32))]) (v := .ref 31) (rest := []) rfl rfl (Nat.le_of_ble_eq_true rfl) (fun y100 σ100 => ?_)
      refine (hb_blk [(.aload_n 0, 1, 0, 0, 0, 0, 0), (.aload_n 0, 1, 0, 0, 0, 0, 0), (.iload_n 2, 1, 2, 0, 0, 0, 0)] (pe := 106) (gs := []) (loc' := [.ref 31, .int x1, .int x2, .int x3, .int (x3 + (1 : Int32))]) (stk' := [.int x2, .ref 31, .ref 31, .int y100]) (σ' := σ100) (by decide +kernel) rfl).trans ?_
      refine hb_Vi (hb_fe_ok (r := (.invokevirtual 41, 3, 40, 1, 0, 0, 0)) (by decide +kernel)) (by decide +kernel) (as := [.int x2]) (v := .ref 31) (rest := [.ref 31, .int y100]) rfl rfl (Nat.le_of_ble_eq_true rfl) (fun y106 σ106 => ?_)
      refine (hb_blk [(.iload_n 2, 1, 2, 0, 0, 0, 0), (.iload 4, 2, 4, 0, 0, 0, 0)] (pe := 112) (gs := []) (loc' := [.ref 31, .int x1, .int x2, .int x3, .int (x3 + (1 : Int32))]) (stk' := [.int (x3 + (1 : Int32)), .int x2, .int y106, .ref 31, .int y100]) (σ' := σ106) (by decide +kernel) rfl).trans ?_
      refine hb_Vi (hb_fe_ok (r := (.invokevirtual 44, 3, 203, 3, 0, 0, 0)) (by decide +kernel)) (by decide +kernel) (as := [.int y106, .int x2, .int (x3 + (1 : Int32))]) (v := .ref 31) (rest := [.int y100]) rfl rfl (Nat.le_of_ble_eq_true rfl) (fun y112 σ112 => ?_)
      refine (hb_blk [(.iadd, 1, 0, 0, 0, 0, 0)] (pe := 116) (gs := []) (loc' := [.ref 31, .int x1, .int x2, .int x3, .int (x3 + (1 : Int32))]) (stk' := [.int (y100 + y112)]) (σ' := σ112) (by decide +kernel) rfl).trans ?_
      exact hb_r_iret (hb_fe_ok (r := (.ireturn, 1, 0, 0, 0, 0, 0)) (by decide +kernel))
    refine hb_swc (z := 12) (q := 117) ?_ ?_
    · refine (hb_blk [(.iconst 2, 1, 0, 0, 0, 2, 0), (.aload_n 0, 1, 0, 0, 0, 0, 0), (.bipush 11, 2, 0, 0, 0, 11, 0), (.iload_n 2, 1, 2, 0, 0, 0, 0), (.iload 4, 2, 4, 0, 0, 0, 0)] (pe := 124) (gs := []) (loc' := [.ref 31, .int x1, .int x2, .int x3, .int (x3 + (1 : Int32))]) (stk' := [.int (x3 + (1 : Int32)), .int x2, .int 11, .ref 31, .int 2]) (σ' := σ10) (by decide +kernel) rfl).trans ?_
      refine hb_Vi (hb_fe_ok (r := (.invokevirtual 44, 3, 203, 3, 0, 0, 0)) (by decide +kernel)) (by decide +kernel) (as := [.int 11, .int x2, .int (x3 + (1 : Int32))]) (v := .ref 31) (rest := [.int 2]) rfl rfl (Nat.le_of_ble_eq_true rfl) (fun y124 σ124 => ?_)
      refine (hb_blk [(.imul, 1, 0, 0, 0, 0, 0)] (pe := 128) (gs := []) (loc' := [.ref 31, .int x1, .int x2, .int x3, .int (x3 + (1 : Int32))]) (stk' := [.int ((2 : Int32) * y124)]) (σ' := σ124) (by decide +kernel) rfl).trans ?_
      exact hb_r_iret (hb_fe_ok (r := (.ireturn, 1, 0, 0, 0, 0, 0)) (by decide +kernel))
    refine hb_swc (z := 13) (q := 129) ?_ ?_
    · refine (hb_blk [(.aload_n 0, 1, 0, 0, 0, 0, 0), (.bipush 10, 2, 0, 0, 0, 10, 0), (.iload_n 2, 1, 2, 0, 0, 0, 0), (.iload 4, 2, 4, 0, 0, 0, 0)] (pe := 135) (gs := []) (loc' := [.ref 31, .int x1, .int x2, .int x3, .int (x3 + (1 : Int32))]) (stk' := [.int (x3 + (1 : Int32)), .int x2, .int 10, .ref 31]) (σ' := σ10) (by decide +kernel) rfl).trans ?_
      refine hb_Vi (hb_fe_ok (r := (.invokevirtual 44, 3, 203, 3, 0, 0, 0)) (by decide +kernel)) (by decide +kernel) (as := [.int 10, .int x2, .int (x3 + (1 : Int32))]) (v := .ref 31) (rest := []) rfl rfl (Nat.le_of_ble_eq_true rfl) (fun y135 σ135 => ?_)
      refine (hb_blk [(.bipush 50, 2, 0, 0, 0, 50, 0), (.iadd, 1, 0, 0, 0, 0, 0)] (pe := 141) (gs := []) (loc' := [.ref 31, .int x1, .int x2, .int x3, .int (x3 + (1 : Int32))]) (stk' := [.int (y135 + (50 : Int32))]) (σ' := σ135) (by decide +kernel) rfl).trans ?_
      exact hb_r_iret (hb_fe_ok (r := (.ireturn, 1, 0, 0, 0, 0, 0)) (by decide +kernel))
    refine hb_swc (z := 14) (q := 142) ?_ ?_
    · refine (hb_blk [(.aload_n 0, 1, 0, 0, 0, 0, 0), (.bipush 10, 2, 0, 0, 0, 10, 0), (.iload_n 2, 1, 2, 0, 0, 0, 0), (.iload 4, 2, 4, 0, 0, 0, 0)] (pe := 148) (gs := []) (loc' := [.ref 31, .int x1, .int x2, .int x3, .int (x3 + (1 : Int32))]) (stk' := [.int (x3 + (1 : Int32)), .int x2, .int 10, .ref 31]) (σ' := σ10) (by decide +kernel) rfl).trans ?_
      refine hb_Vi (hb_fe_ok (r := (.invokevirtual 44, 3, 203, 3, 0, 0, 0)) (by decide +kernel)) (by decide +kernel) (as := [.int 10, .int x2, .int (x3 + (1 : Int32))]) (v := .ref 31) (rest := []) rfl rfl (Nat.le_of_ble_eq_true rfl) (fun y148 σ148 => ?_)
      refine (hb_blk [(.aload_n 0, 1, 0, 0, 0, 0, 0), (.aload_n 0, 1, 0, 0, 0, 0, 0), (.iload_n 2, 1, 2, 0, 0, 0, 0)] (pe := 154) (gs := []) (loc' := [.ref 31, .int x1, .int x2, .int x3, .int (x3 + (1 : Int32))]) (stk' := [.int x2, .ref 31, .ref 31, .int y148]) (σ' := σ148) (by decide +kernel) rfl).trans ?_
      refine hb_Vi (hb_fe_ok (r := (.invokevirtual 41, 3, 40, 1, 0, 0, 0)) (by decide +kernel)) (by decide +kernel) (as := [.int x2]) (v := .ref 31) (rest := [.ref 31, .int y148]) rfl rfl (Nat.le_of_ble_eq_true rfl) (fun y154 σ154 => ?_)
      refine (hb_blk [(.iload_n 2, 1, 2, 0, 0, 0, 0), (.iload 4, 2, 4, 0, 0, 0, 0)] (pe := 160) (gs := []) (loc' := [.ref 31, .int x1, .int x2, .int x3, .int (x3 + (1 : Int32))]) (stk' := [.int (x3 + (1 : Int32)), .int x2, .int y154, .ref 31, .int y148]) (σ' := σ154) (by decide +kernel) rfl).trans ?_
      refine hb_Vi (hb_fe_ok (r := (.invokevirtual 44, 3, 203, 3, 0, 0, 0)) (by decide +kernel)) (by decide +kernel) (as := [.int y154, .int x2, .int (x3 + (1 : Int32))]) (v := .ref 31) (rest := [.int y148]) rfl rfl (Nat.le_of_ble_eq_true rfl) (fun y160 σ160 => ?_)
      refine (hb_blk [(.isub, 1, 0, 0, 0, 0, 0)] (pe := 164) (gs := []) (loc' := [.ref 31, .int x1, .int x2, .int x3, .int (x3 + (1 : Int32))]) (stk' := [.int (y148 - y160)]) (σ' := σ160) (by decide +kernel) rfl).trans ?_
      exact hb_r_iret (hb_fe_ok (r := (.ireturn, 1, 0, 0, 0, 0, 0)) (by decide +kernel))
    refine hb_swc (z := 15) (q := 165) ?_ ?_
    · refine (hb_blk [(.iconst 2, 1, 0, 0, 0, 2, 0), (.aload_n 0, 1, 0, 0, 0, 0, 0), (.bipush 14, 2, 0, 0, 0, 14, 0), (.iload_n 2, 1, 2, 0, 0, 0, 0), (.iload 4, 2, 4, 0, 0, 0, 0)] (pe := 172) (gs := []) (loc' := [.ref 31, .int x1, .int x2, .int x3, .int (x3 + (1 : Int32))]) (stk' := [.int (x3 + (1 : Int32)), .int x2, .int 14, .ref 31, .int 2]) (σ' := σ10) (by decide +kernel) rfl).trans ?_
      refine hb_Vi (hb_fe_ok (r := (.invokevirtual 44, 3, 203, 3, 0, 0, 0)) (by decide +kernel)) (by decide +kernel) (as := [.int 14, .int x2, .int (x3 + (1 : Int32))]) (v := .ref 31) (rest := [.int 2]) rfl rfl (Nat.le_of_ble_eq_true rfl) (fun y172 σ172 => ?_)
      refine (hb_blk [(.imul, 1, 0, 0, 0, 0, 0)] (pe := 176) (gs := []) (loc' := [.ref 31, .int x1, .int x2, .int x3, .int (x3 + (1 : Int32))]) (stk' := [.int ((2 : Int32) * y172)]) (σ' := σ172) (by decide +kernel) rfl).trans ?_
      exact hb_r_iret (hb_fe_ok (r := (.ireturn, 1, 0, 0, 0, 0, 0)) (by decide +kernel))
    refine hb_swc (z := 16) (q := 235) ?_ ?_
    · refine (hb_blk [(.iload_n 2, 1, 2, 0, 0, 0, 0)] (pe := 236) (gs := []) (loc' := [.ref 31, .int x1, .int x2, .int x3, .int (x3 + (1 : Int32))]) (stk' := [.int x2]) (σ' := σ10) (by decide +kernel) rfl).trans ?_
      exact hb_r_iret (hb_fe_ok (r := (.ireturn, 1, 0, 0, 0, 0, 0)) (by decide +kernel))
    refine hb_swc (z := 17) (q := 235) ?_ ?_
    · refine (hb_blk [(.iload_n 2, 1, 2, 0, 0, 0, 0)] (pe := 236) (gs := []) (loc' := [.ref 31, .int x1, .int x2, .int x3, .int (x3 + (1 : Int32))]) (stk' := [.int x2]) (σ' := σ10) (by decide +kernel) rfl).trans ?_
      exact hb_r_iret (hb_fe_ok (r := (.ireturn, 1, 0, 0, 0, 0, 0)) (by decide +kernel))
    refine hb_swc (z := 18) (q := 235) ?_ ?_
    · refine (hb_blk [(.iload_n 2, 1, 2, 0, 0, 0, 0)] (pe := 236) (gs := []) (loc' := [.ref 31, .int x1, .int x2, .int x3, .int (x3 + (1 : Int32))]) (stk' := [.int x2]) (σ' := σ10) (by decide +kernel) rfl).trans ?_
      exact hb_r_iret (hb_fe_ok (r := (.ireturn, 1, 0, 0, 0, 0, 0)) (by decide +kernel))
    refine hb_swc (z := 19) (q := 235) ?_ ?_
    · refine (hb_blk [(.iload_n 2, 1, 2, 0, 0, 0, 0)] (pe := 236) (gs := []) (loc' := [.ref 31, .int x1, .int x2, .int x3, .int (x3 + (1 : Int32))]) (stk' := [.int x2]) (σ' := σ10) (by decide +kernel) rfl).trans ?_
      exact hb_r_iret (hb_fe_ok (r := (.ireturn, 1, 0, 0, 0, 0, 0)) (by decide +kernel))
    refine hb_swc (z := 20) (q := 235) ?_ ?_
    · refine (hb_blk [(.iload_n 2, 1, 2, 0, 0, 0, 0)] (pe := 236) (gs := []) (loc' := [.ref 31, .int x1, .int x2, .int x3, .int (x3 + (1 : Int32))]) (stk' := [.int x2]) (σ' := σ10) (by decide +kernel) rfl).trans ?_
      exact hb_r_iret (hb_fe_ok (r := (.ireturn, 1, 0, 0, 0, 0, 0)) (by decide +kernel))
    refine hb_swc (z := 21) (q := 177) ?_ ?_
    · refine (hb_blk [(.aload_n 0, 1, 0, 0, 0, 0, 0), (.bipush 20, 2, 0, 0, 0, 20, 0), (.iload_n 2, 1, 2, 0, 0, 0, 0), (.iload 4, 2, 4, 0, 0, 0, 0)] (pe := 183) (gs := []) (loc' := [.ref 31, .int x1, .int x2, .int x3, .int (x3 + (1 : Int32))]) (stk' := [.int (x3 + (1 : Int32)), .int x2, .int 20, .ref 31]) (σ' := σ10) (by decide +kernel) rfl).trans ?_
      refine hb_Vi (hb_fe_ok (r := (.invokevirtual 44, 3, 203, 3, 0, 0, 0)) (by decide +kernel)) (by decide +kernel) (as := [.int 20, .int x2, .int (x3 + (1 : Int32))]) (v := .ref 31) (rest := []) rfl rfl (Nat.le_of_ble_eq_true rfl) (fun y183 σ183 => ?_)
      refine (hb_blk [(.bipush 100, 2, 0, 0, 0, 100, 0), (.aload_n 0, 1, 0, 0, 0, 0, 0), (.getfield 15, 3, 6, 1, 0, 0, 0), (.iload_n 2, 1, 2, 0, 0, 0, 0), (.iaload, 1, 0, 0, 0, 0, 0), (.imul, 1, 0, 0, 0, 0, 0), (.iadd, 1, 0, 0, 0, 0, 0)] (pe := 196) (gs := [hb_in x2 16]) (loc' := [.ref 31, .int x1, .int x2, .int x3, .int (x3 + (1 : Int32))]) (stk' := [.int (y183 + ((100 : Int32) * (σ183 33 (Int32.toNatClampNeg x2))))]) (σ' := σ183) (by decide +kernel) rfl).trans ?_
      refine congrArg (hb_g _) ?_
      exact hb_r_iret (hb_fe_ok (r := (.ireturn, 1, 0, 0, 0, 0, 0)) (by decide +kernel))
    refine hb_swc (z := 22) (q := 197) ?_ ?_
    · refine (hb_blk [(.aload_n 0, 1, 0, 0, 0, 0, 0), (.bipush 20, 2, 0, 0, 0, 20, 0), (.iload_n 2, 1, 2, 0, 0, 0, 0), (.iload 4, 2, 4, 0, 0, 0, 0)] (pe := 203) (gs := []) (loc' := [.ref 31, .int x1, .int x2, .int x3, .int (x3 + (1 : Int32))]) (stk' := [.int (x3 + (1 : Int32)), .int x2, .int 20, .ref 31]) (σ' := σ10) (by decide +kernel) rfl).trans ?_
      refine hb_Vi (hb_fe_ok (r := (.invokevirtual 44, 3, 203, 3, 0, 0, 0)) (by decide +kernel)) (by decide +kernel) (as := [.int 20, .int x2, .int (x3 + (1 : Int32))]) (v := .ref 31) (rest := []) rfl rfl (Nat.le_of_ble_eq_true rfl) (fun y203 σ203 => ?_)
      refine (hb_blk [(.aload_n 0, 1, 0, 0, 0, 0, 0), (.aload_n 0, 1, 0, 0, 0, 0, 0), (.iload_n 2, 1, 2, 0, 0, 0, 0)] (pe := 209) (gs := []) (loc' := [.ref 31, .int x1, .int x2, .int x3, .int (x3 + (1 : Int32))]) (stk' := [.int x2, .ref 31, .ref 31, .int y203]) (σ' := σ203) (by decide +kernel) rfl).trans ?_
      refine hb_Vi (hb_fe_ok (r := (.invokevirtual 38, 3, 39, 1, 0, 0, 0)) (by decide +kernel)) (by decide +kernel) (as := [.int x2]) (v := .ref 31) (rest := [.ref 31, .int y203]) rfl rfl (Nat.le_of_ble_eq_true rfl) (fun y209 σ209 => ?_)
      refine (hb_blk [(.iload_n 2, 1, 2, 0, 0, 0, 0), (.iload 4, 2, 4, 0, 0, 0, 0)] (pe := 215) (gs := []) (loc' := [.ref 31, .int x1, .int x2, .int x3, .int (x3 + (1 : Int32))]) (stk' := [.int (x3 + (1 : Int32)), .int x2, .int y209, .ref 31, .int y203]) (σ' := σ209) (by decide +kernel) rfl).trans ?_
      refine hb_Vi (hb_fe_ok (r := (.invokevirtual 44, 3, 203, 3, 0, 0, 0)) (by decide +kernel)) (by decide +kernel) (as := [.int y209, .int x2, .int (x3 + (1 : Int32))]) (v := .ref 31) (rest := [.int y203]) rfl rfl (Nat.le_of_ble_eq_true rfl) (fun y215 σ215 => ?_)
      refine (hb_blk [(.iadd, 1, 0, 0, 0, 0, 0)] (pe := 219) (gs := []) (loc' := [.ref 31, .int x1, .int x2, .int x3, .int (x3 + (1 : Int32))]) (stk' := [.int (y203 + y215)]) (σ' := σ215) (by decide +kernel) rfl).trans ?_
      exact hb_r_iret (hb_fe_ok (r := (.ireturn, 1, 0, 0, 0, 0, 0)) (by decide +kernel))
    refine hb_swc (z := 23) (q := 220) ?_ ?_
    · refine (hb_blk [(.aload_n 0, 1, 0, 0, 0, 0, 0), (.bipush 20, 2, 0, 0, 0, 20, 0), (.iload_n 2, 1, 2, 0, 0, 0, 0), (.iload 4, 2, 4, 0, 0, 0, 0)] (pe := 226) (gs := []) (loc' := [.ref 31, .int x1, .int x2, .int x3, .int (x3 + (1 : Int32))]) (stk' := [.int (x3 + (1 : Int32)), .int x2, .int 20, .ref 31]) (σ' := σ10) (by decide +kernel) rfl).trans ?_
      refine hb_Vi (hb_fe_ok (r := (.invokevirtual 44, 3, 203, 3, 0, 0, 0)) (by decide +kernel)) (by decide +kernel) (as := [.int 20, .int x2, .int (x3 + (1 : Int32))]) (v := .ref 31) (rest := []) rfl rfl (Nat.le_of_ble_eq_true rfl) (fun y226 σ226 => ?_)
      refine (hb_blk [(.aload_n 0, 1, 0, 0, 0, 0, 0), (.getfield 24, 3, 6, 4, 0, 0, 0), (.iadd, 1, 0, 0, 0, 0, 0)] (pe := 234) (gs := []) (loc' := [.ref 31, .int x1, .int x2, .int x3, .int (x3 + (1 : Int32))]) (stk' := [.int (y226 + (σ226 31 4))]) (σ' := σ226) (by decide +kernel) rfl).trans ?_
      exact hb_r_iret (hb_fe_ok (r := (.ireturn, 1, 0, 0, 0, 0, 0)) (by decide +kernel))
    refine hb_swd 235 rfl ?_
    refine (hb_blk [(.iload_n 2, 1, 2, 0, 0, 0, 0)] (pe := 236) (gs := []) (loc' := [.ref 31, .int x1, .int x2, .int x3, .int (x3 + (1 : Int32))]) (stk' := [.int x2]) (σ' := σ10) (by decide +kernel) rfl).trans ?_
    exact hb_r_iret (hb_fe_ok (r := (.ireturn, 1, 0, 0, 0, 0, 0)) (by decide +kernel))
  · refine (hb_blk [(.iconst 0, 1, 0, 0, 0, 0, 0)] (pe := 7) (gs := []) (loc' := [.ref 31, .int x1, .int x2, .int x3, .null]) (stk' := [.int 0]) (σ' := σ) (by decide +kernel) rfl).trans ?_
    exact hb_r_iret (hb_fe_ok (r := (.ireturn, 1, 0, 0, 0, 0, 0)) (by decide +kernel))
set_option maxRecDepth 8000 in
theorem e203_0  (σ : hbM) (x1 : Int32) (x2 : Int32) (x3 : Int32) : hb_run hbSH 203 (0, [.ref 31, .int x1, .int x2, .int x3, .null], [], σ) = if (x3 < (8 : Int32)) then (hb_cv (hb_ev hbSH 42 [.ref 31, .int x1] σ) (fun σ10 => if (x1 = 10) then (hb_ci (hb_ev hbSH 37 [.ref 31, .int x2] σ10) (fun y90 σ90 => some (some (.int y90), σ90))) else (if (x1 = 11) then (hb_ci (hb_ev hbSH 204 [.ref 31, .int 10, .int x2, .int (x3 + (1 : Int32))] σ10) (fun y100 σ100 => hb_ci (hb_ev hbSH 40 [.ref 31, .int x2] σ100) (fun y106 σ106 => hb_ci (hb_ev hbSH 204 [.ref 31, .int y106, .int x2, .int (x3 + (1 : Int32))] σ106) (fun y112 σ112 => some (some (.int (y100 + y112)), σ112))))) else (if (x1 = 12) then (hb_ci (hb_ev hbSH 204 [.ref 31, .int 11, .int x2, .int (x3 + (1 : Int32))] σ10) (fun y124 σ124 => some (some (.int ((2 : Int32) * y124)), σ124))) else (if (x1 = 13) then (hb_ci (hb_ev hbSH 204 [.ref 31, .int 10, .int x2, .int (x3 + (1 : Int32))] σ10) (fun y135 σ135 => some (some (.int (y135 + (50 : Int32))), σ135))) else (if (x1 = 14) then (hb_ci (hb_ev hbSH 204 [.ref 31, .int 10, .int x2, .int (x3 + (1 : Int32))] σ10) (fun y148 σ148 => hb_ci (hb_ev hbSH 40 [.ref 31, .int x2] σ148) (fun y154 σ154 => hb_ci (hb_ev hbSH 204 [.ref 31, .int y154, .int x2, .int (x3 + (1 : Int32))] σ154) (fun y160 σ160 => some (some (.int (y148 - y160)), σ160))))) else (if (x1 = 15) then (hb_ci (hb_ev hbSH 204 [.ref 31, .int 14, .int x2, .int (x3 + (1 : Int32))] σ10) (fun y172 σ172 => some (some (.int ((2 : Int32) * y172)), σ172))) else (if (x1 = 16) then (some (some (.int x2), σ10)) else (if (x1 = 17) then (some (some (.int x2), σ10)) else (if (x1 = 18) then (some (some (.int x2), σ10)) else (if (x1 = 19) then (some (some (.int x2), σ10)) else (if (x1 = 20) then (some (some (.int x2), σ10)) else (if (x1 = 21) then (hb_ci (hb_ev hbSH 204 [.ref 31, .int 20, .int x2, .int (x3 + (1 : Int32))] σ10) (fun y183 σ183 => hb_g [hb_in x2 16] (some (some (.int (y183 + ((100 : Int32) * (σ183 33 (Int32.toNatClampNeg x2))))), σ183)))) else (if (x1 = 22) then (hb_ci (hb_ev hbSH 204 [.ref 31, .int 20, .int x2, .int (x3 + (1 : Int32))] σ10) (fun y203 σ203 => hb_ci (hb_ev hbSH 39 [.ref 31, .int x2] σ203) (fun y209 σ209 => hb_ci (hb_ev hbSH 204 [.ref 31, .int y209, .int x2, .int (x3 + (1 : Int32))] σ209) (fun y215 σ215 => some (some (.int (y203 + y215)), σ215))))) else (if (x1 = 23) then (hb_ci (hb_ev hbSH 204 [.ref 31, .int 20, .int x2, .int (x3 + (1 : Int32))] σ10) (fun y226 σ226 => some (some (.int (y226 + (σ226 31 4))), σ226))) else (some (some (.int x2), σ10))))))))))))))))) else (some (some (.int 0), σ)) := by
  refine (hb_blk [(.iload_n 3, 1, 3, 0, 0, 0, 0), (.bipush 8, 2, 0, 0, 0, 8, 0)] (pe := 3) (gs := []) (loc' := [.ref 31, .int x1, .int x2, .int x3, .null]) (stk' := [.int 8, .int x3]) (σ' := σ) (by decide +kernel) rfl).trans ?_
  refine hb_br (hb_fe_ok (r := (.if_icmp .lt 5, 3, 8, 0, 0, 0, 0)) (by decide +kernel)) rfl ?_ ?_
  · refine (hb_blk [(.aload_n 0, 1, 0, 0, 0, 0, 0), (.iload_n 1, 1, 1, 0, 0, 0, 0)] (pe := 10) (gs := []) (loc' := [.ref 31, .int x1, .int x2, .int x3, .null]) (stk' := [.int x1, .ref 31]) (σ' := σ) (by decide +kernel) rfl).trans ?_
    refine hb_Vv (hb_fe_ok (r := (.invokevirtual 48, 3, 42, 1, 0, 0, 0)) (by decide +kernel)) (by decide +kernel) (as := [.int x1]) (v := .ref 31) (rest := []) rfl rfl (Nat.le_of_ble_eq_true rfl) (fun σ10 => ?_)
    refine (hb_blk [(.iload_n 3, 1, 3, 0, 0, 0, 0), (.iconst 1, 1, 0, 0, 0, 1, 0), (.iadd, 1, 0, 0, 0, 0, 0), (.istore 4, 2, 4, 0, 0, 0, 0), (.iload_n 1, 1, 1, 0, 0, 0, 0)] (pe := 19) (gs := []) (loc' := [.ref 31, .int x1, .int x2, .int x3, .int (x3 + (1 : Int32))]) (stk' := [.int x1]) (σ' := σ10) (by decide +kernel) rfl).trans ?_
    refine hb_r_sw (hb_fe_ok (r := (.tableswitch 216 10 23 #[69, 75, 98, 110, 123, 146, 216, 216, 216, 216, 216, 158, 178, 201], 69, 0, 0, 0, 0, 0)) (by decide +kernel)) ?_
    refine hb_swc (z := 10) (q := 88) ?_ ?_
    · refine (hb_blk [(.aload_n 0, 1, 0, 0, 0, 0, 0), (.iload_n 2, 1, 2, 0, 0, 0, 0)] (pe := 90) (gs := []) (loc' := [.ref 31, .int x1, .int x2, .int x3, .int (x3 + (1 : Int32))]) (stk' := [.int x2, .ref 31]) (σ' := σ10) (by decide +kernel) rfl).trans ?_
      refine hb_Vi (hb_fe_ok (r := (.invokevirtual 52, 3, 37, 1, 0, 0, 0)) (by decide +kernel)) (by decide +kernel) (as := [.int x2]) (v := .ref 31) (rest := []) rfl rfl (Nat.le_of_ble_eq_true rfl) (fun y90 σ90 => ?_)
      exact hb_r_iret (hb_fe_ok (r := (.ireturn, 1, 0, 0, 0, 0, 0)) (by decide +kernel))
    refine hb_swc (z := 11) (q := 94) ?_ ?_
    · refine (hb_blk [(.aload_n 0, 1, 0, 0, 0, 0, 0), (.bipush 10, 2, 0, 0, 0, 10, 0), (.iload_n 2, 1, 2, 0, 0, 0, 0), (.iload 4, 2, 4, 0, 0, 0, 0)] (pe := 100) (gs := []) (loc' := [.ref 31, .int x1, .int x2, .int x3, .int (x3 + (1 : Int32))]) (stk' := [.int (x3 + (1 : Int32)), .int x2, .int 10, .ref 31]) (σ' := σ10) (by decide +kernel) rfl).trans ?_
      refine hb_Vi (hb_fe_ok (r := (.invokevirtual 44, 3, 204, 3, 0, 0, 0)) (by decide +kernel)) (by decide +kernel) (as := [.int 10, .int x2, .int (x3 + (1 : Int32))]) (v := .ref 31) (rest := []) rfl rfl (Nat.le_of_ble_eq_true rfl) (fun y100 σ100 => ?_)
      refine (hb_blk [(.aload_n 0, 1, 0, 0, 0, 0, 0), (.aload_n 0, 1, 0, 0, 0, 0, 0), (.iload_n 2, 1, 2, 0, 0, 0, 0)] (pe := 106) (gs := []) (loc' := [.ref 31, .int x1, .int x2, .int x3, .int (x3 + (1 : Int32))]) (stk' := [.int x2, .ref 31, .ref 31, .int y100]) (σ' := σ100) (by decide +kernel) rfl).trans ?_
      refine hb_Vi (hb_fe_ok (r := (.invokevirtual 41, 3, 40, 1, 0, 0, 0)) (by decide +kernel)) (by decide +kernel) (as := [.int x2]) (v := .ref 31) (rest := [.ref 31, .int y100]) rfl rfl (Nat.le_of_ble_eq_true rfl) (fun y106 σ106 => ?_)
      refine (hb_blk [(.iload_n 2, 1, 2, 0, 0, 0, 0), (.iload 4, 2, 4, 0, 0, 0, 0)] (pe := 112) (gs := []) (loc' := [.ref 31, .int x1, .int x2, .int x3, .int (x3 + (1 : Int32))]) (stk' := [.int (x3 + (1 : Int32)), .int x2, .int y106, .ref 31, .int y100]) (σ' := σ106) (by decide +kernel) rfl).trans ?_
      refine hb_Vi (hb_fe_ok (r := (.invokevirtual 44, 3, 204, 3, 0, 0, 0)) (by decide +kernel)) (by decide +kernel) (as := [.int y106, .int x2, .int (x3 + (1 : Int32))]) (v := .ref 31) (rest := [.int y100]) rfl rfl (Nat.le_of_ble_eq_true rfl) (fun y112 σ112 => ?_)
      refine (hb_blk [(.iadd, 1, 0, 0, 0, 0, 0)] (pe := 116) (gs := []) (loc' := [.ref 31, .int x1, .int x2, .int x3, .int (x3 + (1 : Int32))]) (stk' := [.int (y100 + y112)]) (σ' := σ112) (by decide +kernel) rfl).trans ?_
      exact hb_r_iret (hb_fe_ok (r := (.ireturn, 1, 0, 0, 0, 0, 0)) (by decide +kernel))
    refine hb_swc (z := 12) (q := 117) ?_ ?_
    · refine (hb_blk [(.iconst 2, 1, 0, 0, 0, 2, 0), (.aload_n 0, 1, 0, 0, 0, 0, 0), (.bipush 11, 2, 0, 0, 0, 11, 0), (.iload_n 2, 1, 2, 0, 0, 0, 0), (.iload 4, 2, 4, 0, 0, 0, 0)] (pe := 124) (gs := []) (loc' := [.ref 31, .int x1, .int x2, .int x3, .int (x3 + (1 : Int32))]) (stk' := [.int (x3 + (1 : Int32)), .int x2, .int 11, .ref 31, .int 2]) (σ' := σ10) (by decide +kernel) rfl).trans ?_
      refine hb_Vi (hb_fe_ok (r := (.invokevirtual 44, 3, 204, 3, 0, 0, 0)) (by decide +kernel)) (by decide +kernel) (as := [.int 11, .int x2, .int (x3 + (1 : Int32))]) (v := .ref 31) (rest := [.int 2]) rfl rfl (Nat.le_of_ble_eq_true rfl) (fun y124 σ124 => ?_)
      refine (hb_blk [(.imul, 1, 0, 0, 0, 0, 0)] (pe := 128) (gs := []) (loc' := [.ref 31, .int x1, .int x2, .int x3, .int (x3 + (1 : Int32))]) (stk' := [.int ((2 : Int32) * y124)]) (σ' := σ124) (by decide +kernel) rfl).trans ?_
      exact hb_r_iret (hb_fe_ok (r := (.ireturn, 1, 0, 0, 0, 0, 0)) (by decide +kernel))
    refine hb_swc (z := 13) (q := 129) ?_ ?_
    · refine (hb_blk [(.aload_n 0, 1, 0, 0, 0, 0, 0), (.bipush 10, 2, 0, 0, 0, 10, 0), (.iload_n 2, 1, 2, 0, 0, 0, 0), (.iload 4, 2, 4, 0, 0, 0, 0)] (pe := 135) (gs := []) (loc' := [.ref 31, .int x1, .int x2, .int x3, .int (x3 + (1 : Int32))]) (stk' := [.int (x3 + (1 : Int32)), .int x2, .int 10, .ref 31]) (σ' := σ10) (by decide +kernel) rfl).trans ?_
      refine hb_Vi (hb_fe_ok (r := (.invokevirtual 44, 3, 204, 3, 0, 0, 0)) (by decide +kernel)) (by decide +kernel) (as := [.int 10, .int x2, .int (x3 + (1 : Int32))]) (v := .ref 31) (rest := []) rfl rfl (Nat.le_of_ble_eq_true rfl) (fun y135 σ135 => ?_)
      refine (hb_blk [(.bipush 50, 2, 0, 0, 0, 50, 0), (.iadd, 1, 0, 0, 0, 0, 0)] (pe := 141) (gs := []) (loc' := [.ref 31, .int x1, .int x2, .int x3, .int (x3 + (1 : Int32))]) (stk' := [.int (y135 + (50 : Int32))]) (σ' := σ135) (by decide +kernel) rfl).trans ?_
      exact hb_r_iret (hb_fe_ok (r := (.ireturn, 1, 0, 0, 0, 0, 0)) (by decide +kernel))
    refine hb_swc (z := 14) (q := 142) ?_ ?_
    · refine (hb_blk [(.aload_n 0, 1, 0, 0, 0, 0, 0), (.bipush 10, 2, 0, 0, 0, 10, 0), (.iload_n 2, 1, 2, 0, 0, 0, 0), (.iload 4, 2, 4, 0, 0, 0, 0)] (pe := 148) (gs := []) (loc' := [.ref 31, .int x1, .int x2, .int x3, .int (x3 + (1 : Int32))]) (stk' := [.int (x3 + (1 : Int32)), .int x2, .int 10, .ref 31]) (σ' := σ10) (by decide +kernel) rfl).trans ?_
      refine hb_Vi (hb_fe_ok (r := (.invokevirtual 44, 3, 204, 3, 0, 0, 0)) (by decide +kernel)) (by decide +kernel) (as := [.int 10, .int x2, .int (x3 + (1 : Int32))]) (v := .ref 31) (rest := []) rfl rfl (Nat.le_of_ble_eq_true rfl) (fun y148 σ148 => ?_)
      refine (hb_blk [(.aload_n 0, 1, 0, 0, 0, 0, 0), (.aload_n 0, 1, 0, 0, 0, 0, 0), (.iload_n 2, 1, 2, 0, 0, 0, 0)] (pe := 154) (gs := []) (loc' := [.ref 31, .int x1, .int x2, .int x3, .int (x3 + (1 : Int32))]) (stk' := [.int x2, .ref 31, .ref 31, .int y148]) (σ' := σ148) (by decide +kernel) rfl).trans ?_
      refine hb_Vi (hb_fe_ok (r := (.invokevirtual 41, 3, 40, 1, 0, 0, 0)) (by decide +kernel)) (by decide +kernel) (as := [.int x2]) (v := .ref 31) (rest := [.ref 31, .int y148]) rfl rfl (Nat.le_of_ble_eq_true rfl) (fun y154 σ154 => ?_)
      refine (hb_blk [(.iload_n 2, 1, 2, 0, 0, 0, 0), (.iload 4, 2, 4, 0, 0, 0, 0)] (pe := 160) (gs := []) (loc' := [.ref 31, .int x1, .int x2, .int x3, .int (x3 + (1 : Int32))]) (stk' := [.int (x3 + (1 : Int32)), .int x2, .int y154, .ref 31, .int y148]) (σ' := σ154) (by decide +kernel) rfl).trans ?_
      refine hb_Vi (hb_fe_ok (r := (.invokevirtual 44, 3, 204, 3, 0, 0, 0)) (by decide +kernel)) (by decide +kernel) (as := [.int y154, .int x2, .int (x3 + (1 : Int32))]) (v := .ref 31) (rest := [.int y148]) rfl rfl (Nat.le_of_ble_eq_true rfl) (fun y160 σ160 => ?_)
      refine (hb_blk [(.isub, 1, 0, 0, 0, 0, 0)] (pe := 164) (gs := []) (loc' := [.ref 31, .int x1, .int x2, .int x3, .int (x3 + (1 : Int32))]) (stk' := [.int (y148 - y160)]) (σ' := σ160) (by decide +kernel) rfl).trans ?_
      exact hb_r_iret (hb_fe_ok (r := (.ireturn, 1, 0, 0, 0, 0, 0)) (by decide +kernel))
    refine hb_swc (z := 15) (q := 165) ?_ ?_
    · refine (hb_blk [(.iconst 2, 1, 0, 0, 0, 2, 0), (.aload_n 0, 1, 0, 0, 0, 0, 0), (.bipush 14, 2, 0, 0, 0, 14, 0), (.iload_n 2, 1, 2, 0, 0, 0, 0), (.iload 4, 2, 4, 0, 0, 0, 0)] (pe := 172) (gs := []) (loc' := [.ref 31, .int x1, .int x2, .int x3, .int (x3 + (1 : Int32))]) (stk' := [.int (x3 + (1 : Int32)), .int x2, .int 14, .ref 31, .int 2]) (σ' := σ10) (by decide +kernel) rfl).trans ?_
      refine hb_Vi (hb_fe_ok (r := (.invokevirtual 44, 3, 204, 3, 0, 0, 0)) (by decide +kernel)) (by decide +kernel) (as := [.int 14, .int x2, .int (x3 + (1 : Int32))]) (v := .ref 31) (rest := [.int 2]) rfl rfl (Nat.le_of_ble_eq_true rfl) (fun y172 σ172 => ?_)
      refine (hb_blk [(.imul, 1, 0, 0, 0, 0, 0)] (pe := 176) (gs := []) (loc' := [.ref 31, .int x1, .int x2, .int x3, .int (x3 + (1 : Int32))]) (stk' := [.int ((2 : Int32) * y172)]) (σ' := σ172) (by decide +kernel) rfl).trans ?_
      exact hb_r_iret (hb_fe_ok (r := (.ireturn, 1, 0, 0, 0, 0, 0)) (by decide +kernel))
    refine hb_swc (z := 16) (q := 235) ?_ ?_
    · refine (hb_blk [(.iload_n 2, 1, 2, 0, 0, 0, 0)] (pe := 236) (gs := []) (loc' := [.ref 31, .int x1, .int x2, .int x3, .int (x3 + (1 : Int32))]) (stk' := [.int x2]) (σ' := σ10) (by decide +kernel) rfl).trans ?_
      exact hb_r_iret (hb_fe_ok (r := (.ireturn, 1, 0, 0, 0, 0, 0)) (by decide +kernel))
    refine hb_swc (z := 17) (q := 235) ?_ ?_
    · refine (hb_blk [(.iload_n 2, 1, 2, 0, 0, 0, 0)] (pe := 236) (gs := []) (loc' := [.ref 31, .int x1, .int x2, .int x3, .int (x3 + (1 : Int32))]) (stk' := [.int x2]) (σ' := σ10) (by decide +kernel) rfl).trans ?_
      exact hb_r_iret (hb_fe_ok (r := (.ireturn, 1, 0, 0, 0, 0, 0)) (by decide +kernel))
    refine hb_swc (z := 18) (q := 235) ?_ ?_
    · refine (hb_blk [(.iload_n 2, 1, 2, 0, 0, 0, 0)] (pe := 236) (gs := []) (loc' := [.ref 31, .int x1, .int x2, .int x3, .int (x3 + (1 : Int32))]) (stk' := [.int x2]) (σ' := σ10) (by decide +kernel) rfl).trans ?_
      exact hb_r_iret (hb_fe_ok (r := (.ireturn, 1, 0, 0, 0, 0, 0)) (by decide +kernel))
    refine hb_swc (z := 19) (q := 235) ?_ ?_
    · refine (hb_blk [(.iload_n 2, 1, 2, 0, 0, 0, 0)] (pe := 236) (gs := []) (loc' := [.ref 31, .int x1, .int x2, .int x3, .int (x3 + (1 : Int32))]) (stk' := [.int x2]) (σ' := σ10) (by decide +kernel) rfl).trans ?_
      exact hb_r_iret (hb_fe_ok (r := (.ireturn, 1, 0, 0, 0, 0, 0)) (by decide +kernel))
    refine hb_swc (z := 20) (q := 235) ?_ ?_
    · refine (hb_blk [(.iload_n 2, 1, 2, 0, 0, 0, 0)] (pe := 236) (gs := []) (loc' := [.ref 31, .int x1, .int x2, .int x3, .int (x3 + (1 : Int32))]) (stk' := [.int x2]) (σ' := σ10) (by decide +kernel) rfl).trans ?_
      exact hb_r_iret (hb_fe_ok (r := (.ireturn, 1, 0, 0, 0, 0, 0)) (by decide +kernel))
    refine hb_swc (z := 21) (q := 177) ?_ ?_
    · refine (hb_blk [(.aload_n 0, 1, 0, 0, 0, 0, 0), (.bipush 20, 2, 0, 0, 0, 20, 0), (.iload_n 2, 1, 2, 0, 0, 0, 0), (.iload 4, 2, 4, 0, 0, 0, 0)] (pe := 183) (gs := []) (loc' := [.ref 31, .int x1, .int x2, .int x3, .int (x3 + (1 : Int32))]) (stk' := [.int (x3 + (1 : Int32)), .int x2, .int 20, .ref 31]) (σ' := σ10) (by decide +kernel) rfl).trans ?_
      refine hb_Vi (hb_fe_ok (r := (.invokevirtual 44, 3, 204, 3, 0, 0, 0)) (by decide +kernel)) (by decide +kernel) (as := [.int 20, .int x2, .int (x3 + (1 : Int32))]) (v := .ref 31) (rest := []) rfl rfl (Nat.le_of_ble_eq_true rfl) (fun y183 σ183 => ?_)
      refine (hb_blk [(.bipush 100, 2, 0, 0, 0, 100, 0), (.aload_n 0, 1, 0, 0, 0, 0, 0), (.getfield 15, 3, 6, 1, 0, 0, 0), (.iload_n 2, 1, 2, 0, 0, 0, 0), (.iaload, 1, 0, 0, 0, 0, 0), (.imul, 1, 0, 0, 0, 0, 0), (.iadd, 1, 0, 0, 0, 0, 0)] (pe := 196) (gs := [hb_in x2 16]) (loc' := [.ref 31, .int x1, .int x2, .int x3, .int (x3 + (1 : Int32))]) (stk' := [.int (y183 + ((100 : Int32) * (σ183 33 (Int32.toNatClampNeg x2))))]) (σ' := σ183) (by decide +kernel) rfl).trans ?_
      refine congrArg (hb_g _) ?_
      exact hb_r_iret (hb_fe_ok (r := (.ireturn, 1, 0, 0, 0, 0, 0)) (by decide +kernel))
    refine hb_swc (z := 22) (q := 197) ?_ ?_
    · refine (hb_blk [(.aload_n 0, 1, 0, 0, 0, 0, 0), (.bipush 20, 2, 0, 0, 0, 20, 0), (.iload_n 2, 1, 2, 0, 0, 0, 0), (.iload 4, 2, 4, 0, 0, 0, 0)] (pe := 203) (gs := []) (loc' := [.ref 31, .int x1, .int x2, .int x3, .int (x3 + (1 : Int32))]) (stk' := [.int (x3 + (1 : Int32)), .int x2, .int 20, .ref 31]) (σ' := σ10) (by decide +kernel) rfl).trans ?_
      refine hb_Vi (hb_fe_ok (r := (.invokevirtual 44, 3, 204, 3, 0, 0, 0)) (by decide +kernel)) (by decide +kernel) (as := [.int 20, .int x2, .int (x3 + (1 : Int32))]) (v := .ref 31) (rest := []) rfl rfl (Nat.le_of_ble_eq_true rfl) (fun y203 σ203 => ?_)
      refine (hb_blk [(.aload_n 0, 1, 0, 0, 0, 0, 0), (.aload_n 0, 1, 0, 0, 0, 0, 0), (.iload_n 2, 1, 2, 0, 0, 0, 0)] (pe := 209) (gs := []) (loc' := [.ref 31, .int x1, .int x2, .int x3, .int (x3 + (1 : Int32))]) (stk' := [.int x2, .ref 31, .ref 31, .int y203]) (σ' := σ203) (by decide +kernel) rfl).trans ?_
      refine hb_Vi (hb_fe_ok (r := (.invokevirtual 38, 3, 39, 1, 0, 0, 0)) (by decide +kernel)) (by decide +kernel) (as := [.int x2]) (v := .ref 31) (rest := [.ref 31, .int y203]) rfl rfl (Nat.le_of_ble_eq_true rfl) (fun y209 σ209 => ?_)
      refine (hb_blk [(.iload_n 2, 1, 2, 0, 0, 0, 0), (.iload 4, 2, 4, 0, 0, 0, 0)] (pe := 215) (gs := []) (loc' := [.ref 31, .int x1, .int x2, .int x3, .int (x3 + (1 : Int32))]) (stk' := [.int (x3 + (1 : Int32)), .int x2, .int y209, .ref 31, .int y203]) (σ' := σ209) (by decide +kernel) rfl).trans ?_
      refine hb_Vi (hb_fe_ok (r := (.invokevirtual 44, 3, 204, 3, 0, 0, 0)) (by decide +kernel)) (by decide +kernel) (as := [.int y209, .int x2, .int (x3 + (1 : Int32))]) (v := .ref 31) (rest := [.int y203]) rfl rfl (Nat.le_of_ble_eq_true rfl) (fun y215 σ215 => ?_)
      refine (hb_blk [(.iadd, 1, 0, 0, 0, 0, 0)] (pe := 219) (gs := []) (loc' := [.ref 31, .int x1, .int x2, .int x3, .int (x3 + (1 : Int32))]) (stk' := [.int (y203 + y215)]) (σ' := σ215) (by decide +kernel) rfl).trans ?_
      exact hb_r_iret (hb_fe_ok (r := (.ireturn, 1, 0, 0, 0, 0, 0)) (by decide +kernel))
    refine hb_swc (z := 23) (q := 220) ?_ ?_
    · refine (hb_blk [(.aload_n 0, 1, 0, 0, 0, 0, 0), (.bipush 20, 2, 0, 0, 0, 20, 0), (.iload_n 2, 1, 2, 0, 0, 0, 0), (.iload 4, 2, 4, 0, 0, 0, 0)] (pe := 226) (gs := []) (loc' := [.ref 31, .int x1, .int x2, .int x3, .int (x3 + (1 : Int32))]) (stk' := [.int (x3 + (1 : Int32)), .int x2, .int 20, .ref 31]) (σ' := σ10) (by decide +kernel) rfl).trans ?_
      refine hb_Vi (hb_fe_ok (r := (.invokevirtual 44, 3, 204, 3, 0, 0, 0)) (by decide +kernel)) (by decide +kernel) (as := [.int 20, .int x2, .int (x3 + (1 : Int32))]) (v := .ref 31) (rest := []) rfl rfl (Nat.le_of_ble_eq_true rfl) (fun y226 σ226 => ?_)
      refine (hb_blk [(.aload_n 0, 1, 0, 0, 0, 0, 0), (.getfield 24, 3, 6, 4, 0, 0, 0), (.iadd, 1, 0, 0, 0, 0, 0)] (pe := 234) (gs := []) (loc' := [.ref 31, .int x1, .int x2, .int x3, .int (x3 + (1 : Int32))]) (stk' := [.int (y226 + (σ226 31 4))]) (σ' := σ226) (by decide +kernel) rfl).trans ?_
      exact hb_r_iret (hb_fe_ok (r := (.ireturn, 1, 0, 0, 0, 0, 0)) (by decide +kernel))
    refine hb_swd 235 rfl ?_
    refine (hb_blk [(.iload_n 2, 1, 2, 0, 0, 0, 0)] (pe := 236) (gs := []) (loc' := [.ref 31, .int x1, .int x2, .int x3, .int (x3 + (1 : Int32))]) (stk' := [.int x2]) (σ' := σ10) (by decide +kernel) rfl).trans ?_
    exact hb_r_iret (hb_fe_ok (r := (.ireturn, 1, 0, 0, 0, 0, 0)) (by decide +kernel))
  · refine (hb_blk [(.iconst 0, 1, 0, 0, 0, 0, 0)] (pe := 7) (gs := []) (loc' := [.ref 31, .int x1, .int x2, .int x3, .null]) (stk' := [.int 0]) (σ' := σ) (by decide +kernel) rfl).trans ?_
    exact hb_r_iret (hb_fe_ok (r := (.ireturn, 1, 0, 0, 0, 0, 0)) (by decide +kernel))
