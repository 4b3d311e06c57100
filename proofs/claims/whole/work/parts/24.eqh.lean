/-! equations of the small machine, printed by wip/whole/gen_eqs.py -/
set_option maxRecDepth 8000 in
theorem e82_0  (σ : hbM) (x1 : Int64) (x3 : Int32) : hb_run hbSH 82 (0, [.ref 13, .long x1, .null, .int x3], [], σ) = if (x3 < (1 : Int32)) then (some (some (.int (-1000001)), σ)) else (if (x3 ≤ (8 : Int32)) then (hb_ci (hb_ev hbSH 43 [.ref 39, .long x1, .int x3] σ) (fun y20 σ20 => if (y20 = (0 : Int32)) then (some (some (.int (-1000003)), σ20)) else (some (some (.int (σ20 39 3)), σ20)))) else (some (some (.int (-1000001)), σ))) := by
  refine (hb_blk [(.iload_n 3, 1, 3, 0, 0, 0, 0), (.iconst 1, 1, 0, 0, 0, 1, 0)] (pe := 2) (gs := []) (loc' := [.ref 13, .long x1, .null, .int x3]) (stk' := [.int 1, .int x3]) (σ' := σ) (by decide +kernel) rfl).trans ?_
  refine hb_br (hb_fe_ok (r := (.if_icmp .lt 9, 3, 11, 0, 0, 0, 0)) (by decide +kernel)) rfl ?_ ?_
  · refine (hb_blk [(.ldc 89, 2, 0, 0, 0, (-1000001), 0)] (pe := 13) (gs := []) (loc' := [.ref 13, .long x1, .null, .int x3]) (stk' := [.int (-1000001)]) (σ' := σ) (by decide +kernel) rfl).trans ?_
    exact hb_r_iret (hb_fe_ok (r := (.ireturn, 1, 0, 0, 0, 0, 0)) (by decide +kernel))
  · refine (hb_blk [(.iload_n 3, 1, 3, 0, 0, 0, 0), (.bipush 8, 2, 0, 0, 0, 8, 0)] (pe := 8) (gs := []) (loc' := [.ref 13, .long x1, .null, .int x3]) (stk' := [.int 8, .int x3]) (σ' := σ) (by decide +kernel) rfl).trans ?_
    refine hb_br (hb_fe_ok (r := (.if_icmp .le 6, 3, 14, 0, 0, 0, 0)) (by decide +kernel)) rfl ?_ ?_
    · refine (hb_blk [(.aload_n 0, 1, 0, 0, 0, 0, 0), (.getfield 41, 3, 11, 4, 0, 0, 0), (.lload_n 1, 1, 1, 0, 0, 0, 0), (.iload_n 3, 1, 3, 0, 0, 0, 0)] (pe := 20) (gs := []) (loc' := [.ref 13, .long x1, .null, .int x3]) (stk' := [.int x3, .long x1, .ref 39]) (σ' := σ) (by decide +kernel) rfl).trans ?_
      refine hb_Vi (hb_fe_ok (r := (.invokevirtual 128, 3, 43, 2, 0, 0, 0)) (by decide +kernel)) (by decide +kernel) (as := [.long x1, .int x3]) (v := .ref 39) (rest := []) rfl rfl (Nat.le_of_ble_eq_true rfl) (fun y20 σ20 => ?_)
      refine hb_br0 (hb_fe_ok (r := (.ifCond .eq 13, 3, 36, 0, 0, 0, 0)) (by decide +kernel)) rfl ?_ ?_
      · refine (hb_blk [(.ldc 135, 2, 0, 0, 0, (-1000003), 0)] (pe := 38) (gs := []) (loc' := [.ref 13, .long x1, .null, .int x3]) (stk' := [.int (-1000003)]) (σ' := σ20) (by decide +kernel) rfl).trans ?_
        exact hb_r_iret (hb_fe_ok (r := (.ireturn, 1, 0, 0, 0, 0, 0)) (by decide +kernel))
      · refine (hb_blk [(.aload_n 0, 1, 0, 0, 0, 0, 0), (.getfield 41, 3, 11, 4, 0, 0, 0), (.getfield 132, 3, 7, 3, 0, 0, 0)] (pe := 33) (gs := []) (loc' := [.ref 13, .long x1, .null, .int x3]) (stk' := [.int (σ20 39 3)]) (σ' := σ20) (by decide +kernel) rfl).trans ?_
        refine (hb_r_goto (hb_fe_ok (r := (.goto 5, 3, 38, 0, 0, 0, 0)) (by decide +kernel))).trans ?_
        exact hb_r_iret (hb_fe_ok (r := (.ireturn, 1, 0, 0, 0, 0, 0)) (by decide +kernel))
    · refine (hb_blk [(.ldc 89, 2, 0, 0, 0, (-1000001), 0)] (pe := 13) (gs := []) (loc' := [.ref 13, .long x1, .null, .int x3]) (stk' := [.int (-1000001)]) (σ' := σ) (by decide +kernel) rfl).trans ?_
      exact hb_r_iret (hb_fe_ok (r := (.ireturn, 1, 0, 0, 0, 0, 0)) (by decide +kernel))
set_option maxRecDepth 8000 in
theorem e83_0  (σ : hbM) : hb_run hbSH 83 (0, [.ref 13], [], σ) = hb_ci (hb_ev hbSH 14 [.ref 43] σ) (fun y4 σ4 => if (y4 = (0 : Int32)) then (some (some (.int ((-1000100 : Int32) - (σ4 43 4))), (hb_up σ4 13 10 (σ4 43 3)))) else (some (some (.int (σ4 31 4)), σ4))) := by
  refine (hb_blk [(.aload_n 0, 1, 0, 0, 0, 0, 0), (.getfield 50, 3, 11, 5, 0, 0, 0)] (pe := 4) (gs := []) (loc' := [.ref 13]) (stk' := [.ref 43]) (σ' := σ) (by decide +kernel) rfl).trans ?_
  refine hb_Vi (hb_fe_ok (r := (.invokevirtual 136, 3, 14, 0, 0, 0, 0)) (by decide +kernel)) (by decide +kernel) (as := []) (v := .ref 43) (rest := []) rfl rfl (Nat.le_of_ble_eq_true rfl) (fun y4 σ4 => ?_)
  refine hb_br0 (hb_fe_ok (r := (.ifCond .eq 11, 3, 18, 0, 0, 0, 0)) (by decide +kernel)) rfl ?_ ?_
  · refine (hb_blk [(.aload_n 0, 1, 0, 0, 0, 0, 0), (.aload_n 0, 1, 0, 0, 0, 0, 0), (.getfield 50, 3, 11, 5, 0, 0, 0), (.getfield 141, 3, 3, 3, 0, 0, 0), (.putfield 144, 3, 11, 10, 0, 0, 0), (.ldc 147, 2, 0, 0, 0, (-1000100), 0), (.aload_n 0, 1, 0, 0, 0, 0, 0), (.getfield 50, 3, 11, 5, 0, 0, 0), (.getfield 148, 3, 3, 4, 0, 0, 0), (.isub, 1, 0, 0, 0, 0, 0)] (pe := 39) (gs := []) (loc' := [.ref 13]) (stk' := [.int ((-1000100 : Int32) - (σ4 43 4))]) (σ' := (hb_up σ4 13 10 (σ4 43 3))) (by decide +kernel) rfl).trans ?_
    exact hb_r_iret (hb_fe_ok (r := (.ireturn, 1, 0, 0, 0, 0, 0)) (by decide +kernel))
  · refine (hb_blk [(.aload_n 0, 1, 0, 0, 0, 0, 0), (.getfield 25, 3, 11, 2, 0, 0, 0), (.getfield 140, 3, 6, 4, 0, 0, 0)] (pe := 17) (gs := []) (loc' := [.ref 13]) (stk' := [.int (σ4 31 4)]) (σ' := σ4) (by decide +kernel) rfl).trans ?_
    exact hb_r_iret (hb_fe_ok (r := (.ireturn, 1, 0, 0, 0, 0, 0)) (by decide +kernel))
set_option maxRecDepth 8000 in
theorem e84_0  (σ : hbM) : hb_run hbSH 84 (0, [.ref 13], [], σ) = some (some (.int (σ 13 10)), σ) := by
  refine (hb_blk [(.aload_n 0, 1, 0, 0, 0, 0, 0), (.getfield 144, 3, 11, 10, 0, 0, 0)] (pe := 4) (gs := []) (loc' := [.ref 13]) (stk' := [.int (σ 13 10)]) (σ' := σ) (by decide +kernel) rfl).trans ?_
  exact hb_r_iret (hb_fe_ok (r := (.ireturn, 1, 0, 0, 0, 0, 0)) (by decide +kernel))
set_option maxRecDepth 8000 in
theorem e85_0  (σ : hbM) (x1 : Int32) (x2 : Int32) : hb_run hbSH 85 (0, [.ref 13, .int x1, .int x2], [], σ) = hb_ci (hb_ev hbSH 110 [.int x1, .int 4] σ) (fun y2 σ2 => if (y2 = (0 : Int32)) then (some (some (.int (-1000001)), σ2)) else (if (¬ x1 = x2) then (if (x2 = (-1000000 : Int32)) then (hb_run hbSH 85 (33, [.ref 13, .int x1, .int x2], [], σ2)) else (hb_ci (hb_ev hbSH 110 [.int x2, .int 4] σ2) (fun y24 σ24 => if (¬ y24 = (0 : Int32)) then (hb_run hbSH 85 (33, [.ref 13, .int x1, .int x2], [], σ24)) else (some (some (.int (-1000001)), σ24))))) else (some (some (.int (-1000001)), σ2)))) := by
  refine (hb_blk [(.iload_n 1, 1, 1, 0, 0, 0, 0), (.iconst 4, 1, 0, 0, 0, 4, 0)] (pe := 2) (gs := []) (loc' := [.ref 13, .int x1, .int x2]) (stk' := [.int 4, .int x1]) (σ' := σ) (by decide +kernel) rfl).trans ?_
  refine hb_Si (hb_fe_ok (r := (.invokestatic 85, 3, 110, 2, 0, 0, 0)) (by decide +kernel)) (by decide) (by decide +kernel) (as := [.int x1, .int 4]) (rest := []) rfl (Nat.le_of_ble_eq_true rfl) (fun y2 σ2 => ?_)
  refine hb_br0 (hb_fe_ok (r := (.ifCond .eq 8, 3, 13, 0, 0, 0, 0)) (by decide +kernel)) rfl ?_ ?_
  · refine (hb_blk [(.ldc 89, 2, 0, 0, 0, (-1000001), 0)] (pe := 15) (gs := []) (loc' := [.ref 13, .int x1, .int x2]) (stk' := [.int (-1000001)]) (σ' := σ2) (by decide +kernel) rfl).trans ?_
    exact hb_r_iret (hb_fe_ok (r := (.ireturn, 1, 0, 0, 0, 0, 0)) (by decide +kernel))
  · refine (hb_blk [(.iload_n 1, 1, 1, 0, 0, 0, 0), (.iload_n 2, 1, 2, 0, 0, 0, 0)] (pe := 10) (gs := []) (loc' := [.ref 13, .int x1, .int x2]) (stk' := [.int x2, .int x1]) (σ' := σ2) (by decide +kernel) rfl).trans ?_
    refine hb_br (hb_fe_ok (r := (.if_icmp .ne 6, 3, 16, 0, 0, 0, 0)) (by decide +kernel)) rfl ?_ ?_
    · refine (hb_blk [(.iload_n 2, 1, 2, 0, 0, 0, 0), (.ldc 151, 2, 0, 0, 0, (-1000000), 0)] (pe := 19) (gs := []) (loc' := [.ref 13, .int x1, .int x2]) (stk' := [.int (-1000000), .int x2]) (σ' := σ2) (by decide +kernel) rfl).trans ?_
      refine hb_br (hb_fe_ok (r := (.if_icmp .eq 14, 3, 33, 0, 0, 0, 0)) (by decide +kernel)) rfl ?_ ?_
      · exact rfl
      · refine (hb_blk [(.iload_n 2, 1, 2, 0, 0, 0, 0), (.iconst 4, 1, 0, 0, 0, 4, 0)] (pe := 24) (gs := []) (loc' := [.ref 13, .int x1, .int x2]) (stk' := [.int 4, .int x2]) (σ' := σ2) (by decide +kernel) rfl).trans ?_
        refine hb_Si (hb_fe_ok (r := (.invokestatic 85, 3, 110, 2, 0, 0, 0)) (by decide +kernel)) (by decide) (by decide +kernel) (as := [.int x2, .int 4]) (rest := []) rfl (Nat.le_of_ble_eq_true rfl) (fun y24 σ24 => ?_)
        refine hb_br0 (hb_fe_ok (r := (.ifCond .ne 6, 3, 33, 0, 0, 0, 0)) (by decide +kernel)) rfl ?_ ?_
        · exact rfl
        · refine (hb_blk [(.ldc 89, 2, 0, 0, 0, (-1000001), 0)] (pe := 32) (gs := []) (loc' := [.ref 13, .int x1, .int x2]) (stk' := [.int (-1000001)]) (σ' := σ24) (by decide +kernel) rfl).trans ?_
          exact hb_r_iret (hb_fe_ok (r := (.ireturn, 1, 0, 0, 0, 0, 0)) (by decide +kernel))
    · refine (hb_blk [(.ldc 89, 2, 0, 0, 0, (-1000001), 0)] (pe := 15) (gs := []) (loc' := [.ref 13, .int x1, .int x2]) (stk' := [.int (-1000001)]) (σ' := σ2) (by decide +kernel) rfl).trans ?_
      exact hb_r_iret (hb_fe_ok (r := (.ireturn, 1, 0, 0, 0, 0, 0)) (by decide +kernel))
set_option maxRecDepth 8000 in
theorem e85_33  (σ : hbM) (x1 : Int32) (x2 : Int32) : hb_run hbSH 85 (33, [.ref 13, .int x1, .int x2], [], σ) = hb_g [hb_in x1 4] (some (some (.int 1), (hb_up σ 37 (Int32.toNatClampNeg x1) x2))) := by
  refine (hb_blk [(.aload_n 0, 1, 0, 0, 0, 0, 0), (.getfield 34, 3, 11, 3, 0, 0, 0), (.getfield 152, 3, 1, 2, 0, 0, 0), (.iload_n 1, 1, 1, 0, 0, 0, 0), (.iload_n 2, 1, 2, 0, 0, 0, 0), (.iastore, 1, 0, 0, 0, 0, 0), (.iconst 1, 1, 0, 0, 0, 1, 0)] (pe := 44) (gs := [hb_in x1 4]) (loc' := [.ref 13, .int x1, .int x2]) (stk' := [.int 1]) (σ' := (hb_up σ 37 (Int32.toNatClampNeg x1) x2)) (by decide +kernel) rfl).trans ?_
  refine congrArg (hb_g _) ?_
  exact hb_r_iret (hb_fe_ok (r := (.ireturn, 1, 0, 0, 0, 0, 0)) (by decide +kernel))
set_option maxRecDepth 8000 in
theorem e86_0  (σ : hbM) (x1 : Int32) (x2 : Int32) : hb_run hbSH 86 (0, [.ref 13, .int x1, .int x2, .null], [], σ) = hb_ci (hb_ev hbSH 110 [.int x1, .int 4] σ) (fun y2 σ2 => if (y2 = (0 : Int32)) then (some (some (.int (-1000001)), σ2)) else (if (x2 < (1 : Int32)) then (some (some (.int (-1000001)), σ2)) else (if (x2 ≤ (99 : Int32)) then (hb_g [hb_in x1 4, hb_in x1 4] (some (some (.int (σ2 38 (Int32.toNatClampNeg x1))), (hb_up σ2 38 (Int32.toNatClampNeg x1) x2)))) else (some (some (.int (-1000001)), σ2))))) := by
  refine (hb_blk [(.iload_n 1, 1, 1, 0, 0, 0, 0), (.iconst 4, 1, 0, 0, 0, 4, 0)] (pe := 2) (gs := []) (loc' := [.ref 13, .int x1, .int x2, .null]) (stk' := [.int 4, .int x1]) (σ' := σ) (by decide +kernel) rfl).trans ?_
  refine hb_Si (hb_fe_ok (r := (.invokestatic 85, 3, 110, 2, 0, 0, 0)) (by decide +kernel)) (by decide) (by decide +kernel) (as := [.int x1, .int 4]) (rest := []) rfl (Nat.le_of_ble_eq_true rfl) (fun y2 σ2 => ?_)
  refine hb_br0 (hb_fe_ok (r := (.ifCond .eq 14, 3, 19, 0, 0, 0, 0)) (by decide +kernel)) rfl ?_ ?_
  · refine (hb_blk [(.ldc 89, 2, 0, 0, 0, (-1000001), 0)] (pe := 21) (gs := []) (loc' := [.ref 13, .int x1, .int x2, .null]) (stk' := [.int (-1000001)]) (σ' := σ2) (by decide +kernel) rfl).trans ?_
    exact hb_r_iret (hb_fe_ok (r := (.ireturn, 1, 0, 0, 0, 0, 0)) (by decide +kernel))
  · refine (hb_blk [(.iload_n 2, 1, 2, 0, 0, 0, 0), (.iconst 1, 1, 0, 0, 0, 1, 0)] (pe := 10) (gs := []) (loc' := [.ref 13, .int x1, .int x2, .null]) (stk' := [.int 1, .int x2]) (σ' := σ2) (by decide +kernel) rfl).trans ?_
    refine hb_br (hb_fe_ok (r := (.if_icmp .lt 9, 3, 19, 0, 0, 0, 0)) (by decide +kernel)) rfl ?_ ?_
    · refine (hb_blk [(.ldc 89, 2, 0, 0, 0, (-1000001), 0)] (pe := 21) (gs := []) (loc' := [.ref 13, .int x1, .int x2, .null]) (stk' := [.int (-1000001)]) (σ' := σ2) (by decide +kernel) rfl).trans ?_
      exact hb_r_iret (hb_fe_ok (r := (.ireturn, 1, 0, 0, 0, 0, 0)) (by decide +kernel))
    · refine (hb_blk [(.iload_n 2, 1, 2, 0, 0, 0, 0), (.bipush 99, 2, 0, 0, 0, 99, 0)] (pe := 16) (gs := []) (loc' := [.ref 13, .int x1, .int x2, .null]) (stk' := [.int 99, .int x2]) (σ' := σ2) (by decide +kernel) rfl).trans ?_
      refine hb_br (hb_fe_ok (r := (.if_icmp .le 6, 3, 22, 0, 0, 0, 0)) (by decide +kernel)) rfl ?_ ?_
      · refine (hb_blk [(.aload_n 0, 1, 0, 0, 0, 0, 0), (.getfield 34, 3, 11, 3, 0, 0, 0), (.getfield 155, 3, 1, 3, 0, 0, 0), (.iload_n 1, 1, 1, 0, 0, 0, 0), (.iaload, 1, 0, 0, 0, 0, 0), (.istore_n 3, 1, 3, 0, 0, 0, 0), (.aload_n 0, 1, 0, 0, 0, 0, 0), (.getfield 34, 3, 11, 3, 0, 0, 0), (.getfield 155, 3, 1, 3, 0, 0, 0), (.iload_n 1, 1, 1, 0, 0, 0, 0), (.iload_n 2, 1, 2, 0, 0, 0, 0), (.iastore, 1, 0, 0, 0, 0, 0), (.iload_n 3, 1, 3, 0, 0, 0, 0)] (pe := 43) (gs := [hb_in x1 4, hb_in x1 4]) (loc' := [.ref 13, .int x1, .int x2, .int (σ2 38 (Int32.toNatClampNeg x1))]) (stk' := [.int (σ2 38 (Int32.toNatClampNeg x1))]) (σ' := (hb_up σ2 38 (Int32.toNatClampNeg x1) x2)) (by decide +kernel) rfl).trans ?_
        refine congrArg (hb_g _) ?_
        exact hb_r_iret (hb_fe_ok (r := (.ireturn, 1, 0, 0, 0, 0, 0)) (by decide +kernel))
      · refine (hb_blk [(.ldc 89, 2, 0, 0, 0, (-1000001), 0)] (pe := 21) (gs := []) (loc' := [.ref 13, .int x1, .int x2, .null]) (stk' := [.int (-1000001)]) (σ' := σ2) (by decide +kernel) rfl).trans ?_
        exact hb_r_iret (hb_fe_ok (r := (.ireturn, 1, 0, 0, 0, 0, 0)) (by decide +kernel))
set_option maxRecDepth 8000 in
theorem e87_0  (σ : hbM) (x1 : Int32) (x2 : Int32) (x3 : Int32) : hb_run hbSH 87 (0, [.ref 13, .int x1, .int x2, .int x3, .null, .null], [], σ) = hb_ci (hb_ev hbSH 110 [.int x1, .int 4] σ) (fun y2 σ2 => if (y2 = (0 : Int32)) then (some (some (.int (-1000001)), σ2)) else (hb_ci (hb_ev hbSH 110 [.int x2, .int 4] σ2) (fun y10 σ10 => if (y10 = (0 : Int32)) then (some (some (.int (-1000001)), σ10)) else (if (x1 = x2) then (some (some (.int (-1000001)), σ10)) else (hb_ci (hb_ev hbSH 110 [.int x3, .int 2] σ10) (fun y23 σ23 => if (¬ y23 = (0 : Int32)) then (some (some (.int (((σ23 0 10) >>> ((((4 : Int32) * x1) + x2) &&& 31)) &&& (1 : Int32))), (hb_up σ23 0 10 (((σ23 0 10) &&& (((1 : Int32) <<< ((((4 : Int32) * x1) + x2) &&& 31)) ^^^ (-1 : Int32))) ||| (x3 <<< ((((4 : Int32) * x1) + x2) &&& 31)))))) else (some (some (.int (-1000001)), σ23)))))))) := by
  refine (hb_blk [(.iload_n 1, 1, 1, 0, 0, 0, 0), (.iconst 4, 1, 0, 0, 0, 4, 0)] (pe := 2) (gs := []) (loc' := [.ref 13, .int x1, .int x2, .int x3, .null, .null]) (stk' := [.int 4, .int x1]) (σ' := σ) (by decide +kernel) rfl).trans ?_
  refine hb_Si (hb_fe_ok (r := (.invokestatic 85, 3, 110, 2, 0, 0, 0)) (by decide +kernel)) (by decide) (by decide +kernel) (as := [.int x1, .int 4]) (rest := []) rfl (Nat.le_of_ble_eq_true rfl) (fun y2 σ2 => ?_)
  refine hb_br0 (hb_fe_ok (r := (.ifCond .eq 24, 3, 29, 0, 0, 0, 0)) (by decide +kernel)) rfl ?_ ?_
  · refine (hb_blk [(.ldc 89, 2, 0, 0, 0, (-1000001), 0)] (pe := 31) (gs := []) (loc' := [.ref 13, .int x1, .int x2, .int x3, .null, .null]) (stk' := [.int (-1000001)]) (σ' := σ2) (by decide +kernel) rfl).trans ?_
    exact hb_r_iret (hb_fe_ok (r := (.ireturn, 1, 0, 0, 0, 0, 0)) (by decide +kernel))
  · refine (hb_blk [(.iload_n 2, 1, 2, 0, 0, 0, 0), (.iconst 4, 1, 0, 0, 0, 4, 0)] (pe := 10) (gs := []) (loc' := [.ref 13, .int x1, .int x2, .int x3, .null, .null]) (stk' := [.int 4, .int x2]) (σ' := σ2) (by decide +kernel) rfl).trans ?_
    refine hb_Si (hb_fe_ok (r := (.invokestatic 85, 3, 110, 2, 0, 0, 0)) (by decide +kernel)) (by decide) (by decide +kernel) (as := [.int x2, .int 4]) (rest := []) rfl (Nat.le_of_ble_eq_true rfl) (fun y10 σ10 => ?_)
    refine hb_br0 (hb_fe_ok (r := (.ifCond .eq 16, 3, 29, 0, 0, 0, 0)) (by decide +kernel)) rfl ?_ ?_
    · refine (hb_blk [(.ldc 89, 2, 0, 0, 0, (-1000001), 0)] (pe := 31) (gs := []) (loc' := [.ref 13, .int x1, .int x2, .int x3, .null, .null]) (stk' := [.int (-1000001)]) (σ' := σ10) (by decide +kernel) rfl).trans ?_
      exact hb_r_iret (hb_fe_ok (r := (.ireturn, 1, 0, 0, 0, 0, 0)) (by decide +kernel))
    · refine (hb_blk [(.iload_n 1, 1, 1, 0, 0, 0, 0), (.iload_n 2, 1, 2, 0, 0, 0, 0)] (pe := 18) (gs := []) (loc' := [.ref 13, .int x1, .int x2, .int x3, .null, .null]) (stk' := [.int x2, .int x1]) (σ' := σ10) (by decide +kernel) rfl).trans ?_
      refine hb_br (hb_fe_ok (r := (.if_icmp .eq 11, 3, 29, 0, 0, 0, 0)) (by decide +kernel)) rfl ?_ ?_
      · refine (hb_blk [(.ldc 89, 2, 0, 0, 0, (-1000001), 0)] (pe := 31) (gs := []) (loc' := [.ref 13, .int x1, .int x2, .int x3, .null, .null]) (stk' := [.int (-1000001)]) (σ' := σ10) (by decide +kernel) rfl).trans ?_
        exact hb_r_iret (hb_fe_ok (r := (.ireturn, 1, 0, 0, 0, 0, 0)) (by decide +kernel))
      · refine (hb_blk [(.iload_n 3, 1, 3, 0, 0, 0, 0), (.iconst 2, 1, 0, 0, 0, 2, 0)] (pe := 23) (gs := []) (loc' := [.ref 13, .int x1, .int x2, .int x3, .null, .null]) (stk' := [.int 2, .int x3]) (σ' := σ10) (by decide +kernel) rfl).trans ?_
        refine hb_Si (hb_fe_ok (r := (.invokestatic 85, 3, 110, 2, 0, 0, 0)) (by decide +kernel)) (by decide) (by decide +kernel) (as := [.int x3, .int 2]) (rest := []) rfl (Nat.le_of_ble_eq_true rfl) (fun y23 σ23 => ?_)
        refine hb_br0 (hb_fe_ok (r := (.ifCond .ne 6, 3, 32, 0, 0, 0, 0)) (by decide +kernel)) rfl ?_ ?_
        · refine (hb_blk [(.iconst 4, 1, 0, 0, 0, 4, 0), (.iload_n 1, 1, 1, 0, 0, 0, 0), (.imul, 1, 0, 0, 0, 0, 0), (.iload_n 2, 1, 2, 0, 0, 0, 0), (.iadd, 1, 0, 0, 0, 0, 0), (.istore 4, 2, 4, 0, 0, 0, 0), (.aload_n 0, 1, 0, 0, 0, 0, 0), (.getfield 18, 3, 11, 1, 0, 0, 0), (.getfield 158, 3, 10, 10, 0, 0, 0), (.iload 4, 2, 4, 0, 0, 0, 0), (.ishr, 1, 0, 0, 0, 0, 0), (.iconst 1, 1, 0, 0, 0, 1, 0), (.iand, 1, 0, 0, 0, 0, 0), (.istore 5, 2, 5, 0, 0, 0, 0), (.aload_n 0, 1, 0, 0, 0, 0, 0), (.getfield 18, 3, 11, 1, 0, 0, 0), (.aload_n 0, 1, 0, 0, 0, 0, 0), (.getfield 18, 3, 11, 1, 0, 0, 0), (.getfield 158, 3, 10, 10, 0, 0, 0), (.iconst 1, 1, 0, 0, 0, 1, 0), (.iload 4, 2, 4, 0, 0, 0, 0), (.ishl, 1, 0, 0, 0, 0, 0), (.iconst (-1), 1, 0, 0, 0, (-1), 0), (.ixor, 1, 0, 0, 0, 0, 0), (.iand, 1, 0, 0, 0, 0, 0), (.iload_n 3, 1, 3, 0, 0, 0, 0), (.iload 4, 2, 4, 0, 0, 0, 0), (.ishl, 1, 0, 0, 0, 0, 0), (.ior, 1, 0, 0, 0, 0, 0), (.putfield 158, 3, 10, 10, 0, 0, 0), (.iload 5, 2, 5, 0, 0, 0, 0)] (pe := 81) (gs := []) (loc' := [.ref 13, .int x1, .int x2, .int x3, .int (((4 : Int32) * x1) + x2), .int (((σ23 0 10) >>> ((((4 : Int32) * x1) + x2) &&& 31)) &&& (1 : Int32))]) (stk' := [.int (((σ23 0 10) >>> ((((4 : Int32) * x1) + x2) &&& 31)) &&& (1 : Int32))]) (σ' := (hb_up σ23 0 10 (((σ23 0 10) &&& (((1 : Int32) <<< ((((4 : Int32) * x1) + x2) &&& 31)) ^^^ (-1 : Int32))) ||| (x3 <<< ((((4 : Int32) * x1) + x2) &&& 31))))) (by decide +kernel) rfl).trans ?_
          exact hb_r_iret (hb_fe_ok (r := (.ireturn, 1, 0, 0, 0, 0, 0)) (by decide +kernel))
        · refine (hb_blk [(.ldc 89, 2, 0, 0, 0, (-1000001), 0)] (pe := 31) (gs := []) (loc' := [.ref 13, .int x1, .int x2, .int x3, .null, .null]) (stk' := [.int (-1000001)]) (σ' := σ23) (by decide +kernel) rfl).trans ?_
          exact hb_r_iret (hb_fe_ok (r := (.ireturn, 1, 0, 0, 0, 0, 0)) (by decide +kernel))
set_option maxRecDepth 8000 in
theorem e88_0  (σ : hbM) (x1 : Int32) : hb_run hbSH 88 (0, [.ref 13, .int x1], [], σ) = hb_ci (hb_ev hbSH 109 [.int x1] σ) (fun y1 σ1 => if (y1 = (0 : Int32)) then (some (some (.int (-1000001)), σ1)) else (hb_g [hb_in x1 1024] (some (some (.int (σ1 10 (Int32.toNatClampNeg x1))), σ1)))) := by
  refine (hb_blk [(.iload_n 1, 1, 1, 0, 0, 0, 0)] (pe := 1) (gs := []) (loc' := [.ref 13, .int x1]) (stk' := [.int x1]) (σ' := σ) (by decide +kernel) rfl).trans ?_
  refine hb_Si (hb_fe_ok (r := (.invokestatic 161, 3, 109, 1, 0, 0, 0)) (by decide +kernel)) (by decide) (by decide +kernel) (as := [.int x1]) (rest := []) rfl (Nat.le_of_ble_eq_true rfl) (fun y1 σ1 => ?_)
  refine hb_br0 (hb_fe_ok (r := (.ifCond .eq 15, 3, 19, 0, 0, 0, 0)) (by decide +kernel)) rfl ?_ ?_
  · refine (hb_blk [(.ldc 89, 2, 0, 0, 0, (-1000001), 0)] (pe := 21) (gs := []) (loc' := [.ref 13, .int x1]) (stk' := [.int (-1000001)]) (σ' := σ1) (by decide +kernel) rfl).trans ?_
    exact hb_r_iret (hb_fe_ok (r := (.ireturn, 1, 0, 0, 0, 0, 0)) (by decide +kernel))
  · refine (hb_blk [(.aload_n 0, 1, 0, 0, 0, 0, 0), (.getfield 18, 3, 11, 1, 0, 0, 0), (.getfield 164, 3, 10, 5, 0, 0, 0), (.iload_n 1, 1, 1, 0, 0, 0, 0), (.iaload, 1, 0, 0, 0, 0, 0)] (pe := 16) (gs := [hb_in x1 1024]) (loc' := [.ref 13, .int x1]) (stk' := [.int (σ1 10 (Int32.toNatClampNeg x1))]) (σ' := σ1) (by decide +kernel) rfl).trans ?_
    refine congrArg (hb_g _) ?_
    refine (hb_r_goto (hb_fe_ok (r := (.goto 5, 3, 21, 0, 0, 0, 0)) (by decide +kernel))).trans ?_
    exact hb_r_iret (hb_fe_ok (r := (.ireturn, 1, 0, 0, 0, 0, 0)) (by decide +kernel))
set_option maxRecDepth 8000 in
theorem e89_0  (σ : hbM) (x1 : Int32) (x2 : Int32) : hb_run hbSH 89 (0, [.ref 13, .int x1, .int x2], [], σ) = hb_ci (hb_ev hbSH 109 [.int x1] σ) (fun y1 σ1 => if (y1 = (0 : Int32)) then (some (some (.int (-1000001)), σ1)) else (hb_ci (hb_ev hbSH 110 [.int x2, .int 2] σ1) (fun y9 σ9 => if (¬ y9 = (0 : Int32)) then (if (¬ x2 = (0 : Int32)) then (hb_g [hb_in x1 1024] (hb_run hbSH 89 (43, [.ref 13, .int x1, .int x2], [.int (σ9 12 (Int32.toNatClampNeg x1))], σ9))) else (hb_g [hb_in x1 1024] (hb_run hbSH 89 (43, [.ref 13, .int x1, .int x2], [.int (σ9 11 (Int32.toNatClampNeg x1))], σ9)))) else (some (some (.int (-1000001)), σ9))))) := by
  refine (hb_blk [(.iload_n 1, 1, 1, 0, 0, 0, 0)] (pe := 1) (gs := []) (loc' := [.ref 13, .int x1, .int x2]) (stk' := [.int x1]) (σ' := σ) (by decide +kernel) rfl).trans ?_
  refine hb_Si (hb_fe_ok (r := (.invokestatic 161, 3, 109, 1, 0, 0, 0)) (by decide +kernel)) (by decide) (by decide +kernel) (as := [.int x1]) (rest := []) rfl (Nat.le_of_ble_eq_true rfl) (fun y1 σ1 => ?_)
  refine hb_br0 (hb_fe_ok (r := (.ifCond .eq 11, 3, 15, 0, 0, 0, 0)) (by decide +kernel)) rfl ?_ ?_
  · refine (hb_blk [(.ldc 89, 2, 0, 0, 0, (-1000001), 0)] (pe := 17) (gs := []) (loc' := [.ref 13, .int x1, .int x2]) (stk' := [.int (-1000001)]) (σ' := σ1) (by decide +kernel) rfl).trans ?_
    exact hb_r_iret (hb_fe_ok (r := (.ireturn, 1, 0, 0, 0, 0, 0)) (by decide +kernel))
  · refine (hb_blk [(.iload_n 2, 1, 2, 0, 0, 0, 0), (.iconst 2, 1, 0, 0, 0, 2, 0)] (pe := 9) (gs := []) (loc' := [.ref 13, .int x1, .int x2]) (stk' := [.int 2, .int x2]) (σ' := σ1) (by decide +kernel) rfl).trans ?_
    refine hb_Si (hb_fe_ok (r := (.invokestatic 85, 3, 110, 2, 0, 0, 0)) (by decide +kernel)) (by decide) (by decide +kernel) (as := [.int x2, .int 2]) (rest := []) rfl (Nat.le_of_ble_eq_true rfl) (fun y9 σ9 => ?_)
    refine hb_br0 (hb_fe_ok (r := (.ifCond .ne 6, 3, 18, 0, 0, 0, 0)) (by decide +kernel)) rfl ?_ ?_
    · refine (hb_blk [(.iload_n 2, 1, 2, 0, 0, 0, 0)] (pe := 19) (gs := []) (loc' := [.ref 13, .int x1, .int x2]) (stk' := [.int x2]) (σ' := σ9) (by decide +kernel) rfl).trans ?_
      refine hb_br0 (hb_fe_ok (r := (.ifCond .ne 15, 3, 34, 0, 0, 0, 0)) (by decide +kernel)) rfl ?_ ?_
      · refine (hb_blk [(.aload_n 0, 1, 0, 0, 0, 0, 0), (.getfield 18, 3, 11, 1, 0, 0, 0), (.getfield 171, 3, 10, 7, 0, 0, 0), (.iload_n 1, 1, 1, 0, 0, 0, 0), (.baload, 1, 0, 0, 0, 0, 0)] (pe := 43) (gs := [hb_in x1 1024]) (loc' := [.ref 13, .int x1, .int x2]) (stk' := [.int (σ9 12 (Int32.toNatClampNeg x1))]) (σ' := σ9) (by decide +kernel) rfl).trans ?_
        refine congrArg (hb_g _) ?_
        exact rfl
      · refine (hb_blk [(.aload_n 0, 1, 0, 0, 0, 0, 0), (.getfield 18, 3, 11, 1, 0, 0, 0), (.getfield 167, 3, 10, 6, 0, 0, 0), (.iload_n 1, 1, 1, 0, 0, 0, 0), (.baload, 1, 0, 0, 0, 0, 0)] (pe := 31) (gs := [hb_in x1 1024]) (loc' := [.ref 13, .int x1, .int x2]) (stk' := [.int (σ9 11 (Int32.toNatClampNeg x1))]) (σ' := σ9) (by decide +kernel) rfl).trans ?_
        refine congrArg (hb_g _) ?_
        refine (hb_r_goto (hb_fe_ok (r := (.goto 12, 3, 43, 0, 0, 0, 0)) (by decide +kernel))).trans ?_
        exact rfl
    · refine (hb_blk [(.ldc 89, 2, 0, 0, 0, (-1000001), 0)] (pe := 17) (gs := []) (loc' := [.ref 13, .int x1, .int x2]) (stk' := [.int (-1000001)]) (σ' := σ9) (by decide +kernel) rfl).trans ?_
      exact hb_r_iret (hb_fe_ok (r := (.ireturn, 1, 0, 0, 0, 0, 0)) (by decide +kernel))
set_option maxRecDepth 8000 in
theorem e89_43  (σ : hbM) (x1 : Int32) (x2 : Int32) (s0 : Int32) : hb_run hbSH 89 (43, [.ref 13, .int x1, .int x2], [.int s0], σ) = hb_ci (hb_ev hbSH 111 [.int s0] σ) (fun y43 σ43 => some (some (.int y43), σ43)) := by
  refine hb_Si (hb_fe_ok (r := (.invokestatic 174, 3, 111, 1, 0, 0, 0)) (by decide +kernel)) (by decide) (by decide +kernel) (as := [.int s0]) (rest := []) rfl (Nat.le_of_ble_eq_true rfl) (fun y43 σ43 => ?_)
  exact hb_r_iret (hb_fe_ok (r := (.ireturn, 1, 0, 0, 0, 0, 0)) (by decide +kernel))
set_option maxRecDepth 8000 in
theorem e91_0  (σ : hbM) (x1 : Int32) (x2 : Int32) : hb_run hbSH 91 (0, [.ref 13, .int x1, .int x2], [], σ) = hb_ci (hb_ev hbSH 110 [.int x1, .int 17] σ) (fun y3 σ3 => if (y3 = (0 : Int32)) then (some (some (.int (-1000001)), σ3)) else (hb_ci (hb_ev hbSH 109 [.int x2] σ3) (fun y10 σ10 => if (¬ y10 = (0 : Int32)) then (hb_ci (hb_ev hbSH 8 [.ref 36, .int ((x1 * (1024 : Int32)) + x2)] σ10) (fun y30 σ30 => some (some (.int y30), σ30))) else (some (some (.int (-1000001)), σ10))))) := by
  refine (hb_blk [(.iload_n 1, 1, 1, 0, 0, 0, 0), (.bipush 17, 2, 0, 0, 0, 17, 0)] (pe := 3) (gs := []) (loc' := [.ref 13, .int x1, .int x2]) (stk' := [.int 17, .int x1]) (σ' := σ) (by decide +kernel) rfl).trans ?_
  refine hb_Si (hb_fe_ok (r := (.invokestatic 85, 3, 110, 2, 0, 0, 0)) (by decide +kernel)) (by decide) (by decide +kernel) (as := [.int x1, .int 17]) (rest := []) rfl (Nat.le_of_ble_eq_true rfl) (fun y3 σ3 => ?_)
  refine hb_br0 (hb_fe_ok (r := (.ifCond .eq 10, 3, 16, 0, 0, 0, 0)) (by decide +kernel)) rfl ?_ ?_
  · refine (hb_blk [(.ldc 89, 2, 0, 0, 0, (-1000001), 0)] (pe := 18) (gs := []) (loc' := [.ref 13, .int x1, .int x2]) (stk' := [.int (-1000001)]) (σ' := σ3) (by decide +kernel) rfl).trans ?_
    exact hb_r_iret (hb_fe_ok (r := (.ireturn, 1, 0, 0, 0, 0, 0)) (by decide +kernel))
  · refine (hb_blk [(.iload_n 2, 1, 2, 0, 0, 0, 0)] (pe := 10) (gs := []) (loc' := [.ref 13, .int x1, .int x2]) (stk' := [.int x2]) (σ' := σ3) (by decide +kernel) rfl).trans ?_
    refine hb_Si (hb_fe_ok (r := (.invokestatic 161, 3, 109, 1, 0, 0, 0)) (by decide +kernel)) (by decide) (by decide +kernel) (as := [.int x2]) (rest := []) rfl (Nat.le_of_ble_eq_true rfl) (fun y10 σ10 => ?_)
    refine hb_br0 (hb_fe_ok (r := (.ifCond .ne 6, 3, 19, 0, 0, 0, 0)) (by decide +kernel)) rfl ?_ ?_
    · refine (hb_blk [(.aload_n 0, 1, 0, 0, 0, 0, 0), (.getfield 34, 3, 11, 3, 0, 0, 0), (.iload_n 1, 1, 1, 0, 0, 0, 0), (.sipush 1024, 3, 0, 0, 0, 1024, 0), (.imul, 1, 0, 0, 0, 0, 0), (.iload_n 2, 1, 2, 0, 0, 0, 0), (.iadd, 1, 0, 0, 0, 0, 0)] (pe := 30) (gs := []) (loc' := [.ref 13, .int x1, .int x2]) (stk' := [.int ((x1 * (1024 : Int32)) + x2), .ref 36]) (σ' := σ10) (by decide +kernel) rfl).trans ?_
      refine hb_Vi (hb_fe_ok (r := (.invokevirtual 178, 3, 8, 1, 0, 0, 0)) (by decide +kernel)) (by decide +kernel) (as := [.int ((x1 * (1024 : Int32)) + x2)]) (v := .ref 36) (rest := []) rfl rfl (Nat.le_of_ble_eq_true rfl) (fun y30 σ30 => ?_)
      exact hb_r_iret (hb_fe_ok (r := (.ireturn, 1, 0, 0, 0, 0, 0)) (by decide +kernel))
    · refine (hb_blk [(.ldc 89, 2, 0, 0, 0, (-1000001), 0)] (pe := 18) (gs := []) (loc' := [.ref 13, .int x1, .int x2]) (stk' := [.int (-1000001)]) (σ' := σ10) (by decide +kernel) rfl).trans ?_
      exact hb_r_iret (hb_fe_ok (r := (.ireturn, 1, 0, 0, 0, 0, 0)) (by decide +kernel))
set_option maxRecDepth 8000 in
theorem e92_0  (σ : hbM) (x1 : Int32) (x2 : Int32) (x3 : Int32) : hb_run hbSH 92 (0, [.ref 13, .int x1, .int x2, .int x3], [], σ) = hb_ci (hb_ev hbSH 110 [.int x1, .int 17] σ) (fun y3 σ3 => if (y3 = (0 : Int32)) then (some (some (.int (-1000001)), σ3)) else (hb_ci (hb_ev hbSH 109 [.int x2] σ3) (fun y10 σ10 => if (y10 = (0 : Int32)) then (some (some (.int (-1000001)), σ10)) else (hb_ci (hb_ev hbSH 110 [.int x3, .int 4] σ10) (fun y18 σ18 => if (¬ y18 = (0 : Int32)) then (hb_ci (hb_ev hbSH 10 [.ref 36, .int ((x1 * (1024 : Int32)) + x2), .int x3] σ18) (fun y39 σ39 => some (some (.int y39), σ39))) else (some (some (.int (-1000001)), σ18))))))) := by
  refine (hb_blk [(.iload_n 1, 1, 1, 0, 0, 0, 0), (.bipush 17, 2, 0, 0, 0, 17, 0)] (pe := 3) (gs := []) (loc' := [.ref 13, .int x1, .int x2, .int x3]) (stk' := [.int 17, .int x1]) (σ' := σ) (by decide +kernel) rfl).trans ?_
  refine hb_Si (hb_fe_ok (r := (.invokestatic 85, 3, 110, 2, 0, 0, 0)) (by decide +kernel)) (by decide) (by decide +kernel) (as := [.int x1, .int 17]) (rest := []) rfl (Nat.le_of_ble_eq_true rfl) (fun y3 σ3 => ?_)
  refine hb_br0 (hb_fe_ok (r := (.ifCond .eq 18, 3, 24, 0, 0, 0, 0)) (by decide +kernel)) rfl ?_ ?_
  · refine (hb_blk [(.ldc 89, 2, 0, 0, 0, (-1000001), 0)] (pe := 26) (gs := []) (loc' := [.ref 13, .int x1, .int x2, .int x3]) (stk' := [.int (-1000001)]) (σ' := σ3) (by decide +kernel) rfl).trans ?_
    exact hb_r_iret (hb_fe_ok (r := (.ireturn, 1, 0, 0, 0, 0, 0)) (by decide +kernel))
  · refine (hb_blk [(.iload_n 2, 1, 2, 0, 0, 0, 0)] (pe := 10) (gs := []) (loc' := [.ref 13, .int x1, .int x2, .int x3]) (stk' := [.int x2]) (σ' := σ3) (by decide +kernel) rfl).trans ?_
    refine hb_Si (hb_fe_ok (r := (.invokestatic 161, 3, 109, 1, 0, 0, 0)) (by decide +kernel)) (by decide) (by decide +kernel) (as := [.int x2]) (rest := []) rfl (Nat.le_of_ble_eq_true rfl) (fun y10 σ10 => ?_)
    refine hb_br0 (hb_fe_ok (r := (.ifCond .eq 11, 3, 24, 0, 0, 0, 0)) (by decide +kernel)) rfl ?_ ?_
    · refine (hb_blk [(.ldc 89, 2, 0, 0, 0, (-1000001), 0)] (pe := 26) (gs := []) (loc' := [.ref 13, .int x1, .int x2, .int x3]) (stk' := [.int (-1000001)]) (σ' := σ10) (by decide +kernel) rfl).trans ?_
      exact hb_r_iret (hb_fe_ok (r := (.ireturn, 1, 0, 0, 0, 0, 0)) (by decide +kernel))
    · refine (hb_blk [(.iload_n 3, 1, 3, 0, 0, 0, 0), (.iconst 4, 1, 0, 0, 0, 4, 0)] (pe := 18) (gs := []) (loc' := [.ref 13, .int x1, .int x2, .int x3]) (stk' := [.int 4, .int x3]) (σ' := σ10) (by decide +kernel) rfl).trans ?_
      refine hb_Si (hb_fe_ok (r := (.invokestatic 85, 3, 110, 2, 0, 0, 0)) (by decide +kernel)) (by decide) (by decide +kernel) (as := [.int x3, .int 4]) (rest := []) rfl (Nat.le_of_ble_eq_true rfl) (fun y18 σ18 => ?_)
      refine hb_br0 (hb_fe_ok (r := (.ifCond .ne 6, 3, 27, 0, 0, 0, 0)) (by decide +kernel)) rfl ?_ ?_
      · refine (hb_blk [(.aload_n 0, 1, 0, 0, 0, 0, 0), (.getfield 34, 3, 11, 3, 0, 0, 0), (.iload_n 1, 1, 1, 0, 0, 0, 0), (.sipush 1024, 3, 0, 0, 0, 1024, 0), (.imul, 1, 0, 0, 0, 0, 0), (.iload_n 2, 1, 2, 0, 0, 0, 0), (.iadd, 1, 0, 0, 0, 0, 0), (.iload_n 3, 1, 3, 0, 0, 0, 0)] (pe := 39) (gs := []) (loc' := [.ref 13, .int x1, .int x2, .int x3]) (stk' := [.int x3, .int ((x1 * (1024 : Int32)) + x2), .ref 36]) (σ' := σ18) (by decide +kernel) rfl).trans ?_
        refine hb_Vi (hb_fe_ok (r := (.invokevirtual 181, 3, 10, 2, 0, 0, 0)) (by decide +kernel)) (by decide +kernel) (as := [.int ((x1 * (1024 : Int32)) + x2), .int x3]) (v := .ref 36) (rest := []) rfl rfl (Nat.le_of_ble_eq_true rfl) (fun y39 σ39 => ?_)
        exact hb_r_iret (hb_fe_ok (r := (.ireturn, 1, 0, 0, 0, 0, 0)) (by decide +kernel))
      · refine (hb_blk [(.ldc 89, 2, 0, 0, 0, (-1000001), 0)] (pe := 26) (gs := []) (loc' := [.ref 13, .int x1, .int x2, .int x3]) (stk' := [.int (-1000001)]) (σ' := σ18) (by decide +kernel) rfl).trans ?_
        exact hb_r_iret (hb_fe_ok (r := (.ireturn, 1, 0, 0, 0, 0, 0)) (by decide +kernel))
set_option maxRecDepth 8000 in
theorem e93_0  (σ : hbM) (x1 : Int32) (x2 : Int32) : hb_run hbSH 93 (0, [.ref 13, .int x1, .int x2], [], σ) = hb_ci (hb_ev hbSH 109 [.int x1] σ) (fun y1 σ1 => if (y1 = (0 : Int32)) then (some (some (.int (-1000001)), σ1)) else (hb_ci (hb_ev hbSH 110 [.int x2, .int 3] σ1) (fun y9 σ9 => if (¬ y9 = (0 : Int32)) then (hb_cv (hb_ev hbSH 63 [.ref 49, .int x1] σ9) (fun σ23 => if (¬ x2 = (2 : Int32)) then (if (¬ x2 = (0 : Int32)) then (some (some (.int (σ23 49 4)), σ23)) else (some (some (.int (σ23 49 3)), σ23))) else (hb_ci (hb_ev hbSH 111 [.int (σ23 49 5)] σ23) (fun y38 σ38 => some (some (.int y38), σ38))))) else (some (some (.int (-1000001)), σ9))))) := by
  refine (hb_blk [(.iload_n 1, 1, 1, 0, 0, 0, 0)] (pe := 1) (gs := []) (loc' := [.ref 13, .int x1, .int x2]) (stk' := [.int x1]) (σ' := σ) (by decide +kernel) rfl).trans ?_
  refine hb_Si (hb_fe_ok (r := (.invokestatic 161, 3, 109, 1, 0, 0, 0)) (by decide +kernel)) (by decide) (by decide +kernel) (as := [.int x1]) (rest := []) rfl (Nat.le_of_ble_eq_true rfl) (fun y1 σ1 => ?_)
  refine hb_br0 (hb_fe_ok (r := (.ifCond .eq 11, 3, 15, 0, 0, 0, 0)) (by decide +kernel)) rfl ?_ ?_
  · refine (hb_blk [(.ldc 89, 2, 0, 0, 0, (-1000001), 0)] (pe := 17) (gs := []) (loc' := [.ref 13, .int x1, .int x2]) (stk' := [.int (-1000001)]) (σ' := σ1) (by decide +kernel) rfl).trans ?_
    exact hb_r_iret (hb_fe_ok (r := (.ireturn, 1, 0, 0, 0, 0, 0)) (by decide +kernel))
  · refine (hb_blk [(.iload_n 2, 1, 2, 0, 0, 0, 0), (.iconst 3, 1, 0, 0, 0, 3, 0)] (pe := 9) (gs := []) (loc' := [.ref 13, .int x1, .int x2]) (stk' := [.int 3, .int x2]) (σ' := σ1) (by decide +kernel) rfl).trans ?_
    refine hb_Si (hb_fe_ok (r := (.invokestatic 85, 3, 110, 2, 0, 0, 0)) (by decide +kernel)) (by decide) (by decide +kernel) (as := [.int x2, .int 3]) (rest := []) rfl (Nat.le_of_ble_eq_true rfl) (fun y9 σ9 => ?_)
    refine hb_br0 (hb_fe_ok (r := (.ifCond .ne 6, 3, 18, 0, 0, 0, 0)) (by decide +kernel)) rfl ?_ ?_
    · refine (hb_blk [(.aload_n 0, 1, 0, 0, 0, 0, 0), (.getfield 63, 3, 11, 6, 0, 0, 0), (.iload_n 1, 1, 1, 0, 0, 0, 0)] (pe := 23) (gs := []) (loc' := [.ref 13, .int x1, .int x2]) (stk' := [.int x1, .ref 49]) (σ' := σ9) (by decide +kernel) rfl).trans ?_
      refine hb_Vv (hb_fe_ok (r := (.invokevirtual 185, 3, 63, 1, 0, 0, 0)) (by decide +kernel)) (by decide +kernel) (as := [.int x1]) (v := .ref 49) (rest := []) rfl rfl (Nat.le_of_ble_eq_true rfl) (fun σ23 => ?_)
      refine (hb_blk [(.iload_n 2, 1, 2, 0, 0, 0, 0), (.iconst 2, 1, 0, 0, 0, 2, 0)] (pe := 28) (gs := []) (loc' := [.ref 13, .int x1, .int x2]) (stk' := [.int 2, .int x2]) (σ' := σ23) (by decide +kernel) rfl).trans ?_
      refine hb_br (hb_fe_ok (r := (.if_icmp .ne 14, 3, 42, 0, 0, 0, 0)) (by decide +kernel)) rfl ?_ ?_
      · refine (hb_blk [(.iload_n 2, 1, 2, 0, 0, 0, 0)] (pe := 43) (gs := []) (loc' := [.ref 13, .int x1, .int x2]) (stk' := [.int x2]) (σ' := σ23) (by decide +kernel) rfl).trans ?_
        refine hb_br0 (hb_fe_ok (r := (.ifCond .ne 13, 3, 56, 0, 0, 0, 0)) (by decide +kernel)) rfl ?_ ?_
        · refine (hb_blk [(.aload_n 0, 1, 0, 0, 0, 0, 0), (.getfield 63, 3, 11, 6, 0, 0, 0), (.getfield 195, 3, 9, 4, 0, 0, 0)] (pe := 63) (gs := []) (loc' := [.ref 13, .int x1, .int x2]) (stk' := [.int (σ23 49 4)]) (σ' := σ23) (by decide +kernel) rfl).trans ?_
          exact hb_r_iret (hb_fe_ok (r := (.ireturn, 1, 0, 0, 0, 0, 0)) (by decide +kernel))
        · refine (hb_blk [(.aload_n 0, 1, 0, 0, 0, 0, 0), (.getfield 63, 3, 11, 6, 0, 0, 0), (.getfield 192, 3, 9, 3, 0, 0, 0)] (pe := 53) (gs := []) (loc' := [.ref 13, .int x1, .int x2]) (stk' := [.int (σ23 49 3)]) (σ' := σ23) (by decide +kernel) rfl).trans ?_
          refine (hb_r_goto (hb_fe_ok (r := (.goto 10, 3, 63, 0, 0, 0, 0)) (by decide +kernel))).trans ?_
          exact hb_r_iret (hb_fe_ok (r := (.ireturn, 1, 0, 0, 0, 0, 0)) (by decide +kernel))
      · refine (hb_blk [(.aload_n 0, 1, 0, 0, 0, 0, 0), (.getfield 63, 3, 11, 6, 0, 0, 0), (.getfield 189, 3, 9, 5, 0, 0, 0)] (pe := 38) (gs := []) (loc' := [.ref 13, .int x1, .int x2]) (stk' := [.int (σ23 49 5)]) (σ' := σ23) (by decide +kernel) rfl).trans ?_
        refine hb_Si (hb_fe_ok (r := (.invokestatic 174, 3, 111, 1, 0, 0, 0)) (by decide +kernel)) (by decide) (by decide +kernel) (as := [.int (σ23 49 5)]) (rest := []) rfl (Nat.le_of_ble_eq_true rfl) (fun y38 σ38 => ?_)
        exact hb_r_iret (hb_fe_ok (r := (.ireturn, 1, 0, 0, 0, 0, 0)) (by decide +kernel))
    · refine (hb_blk [(.ldc 89, 2, 0, 0, 0, (-1000001), 0)] (pe := 17) (gs := []) (loc' := [.ref 13, .int x1, .int x2]) (stk' := [.int (-1000001)]) (σ' := σ9) (by decide +kernel) rfl).trans ?_
      exact hb_r_iret (hb_fe_ok (r := (.ireturn, 1, 0, 0, 0, 0, 0)) (by decide +kernel))
set_option maxRecDepth 8000 in
theorem e94_0  (σ : hbM) (x1 : Int32) (x2 : Int32) (x3 : Int32) : hb_run hbSH 94 (0, [.ref 13, .int x1, .int x2, .int x3], [], σ) = hb_ci (hb_ev hbSH 109 [.int x1] σ) (fun y1 σ1 => if (y1 = (0 : Int32)) then (some (some (.int (-1000001)), σ1)) else (hb_ci (hb_ev hbSH 110 [.int x2, .int 3] σ1) (fun y9 σ9 => if (y9 = (0 : Int32)) then (some (some (.int (-1000001)), σ9)) else (hb_ci (hb_ev hbSH 110 [.int x3, .int 5] σ9) (fun y17 σ17 => if (¬ y17 = (0 : Int32)) then (hb_ci (hb_ev hbSH 50 [.ref 50, .int x1, .int x2, .int x3] σ17) (fun y33 σ33 => some (some (.int y33), σ33))) else (some (some (.int (-1000001)), σ17))))))) := by
  refine (hb_blk [(.iload_n 1, 1, 1, 0, 0, 0, 0)] (pe := 1) (gs := []) (loc' := [.ref 13, .int x1, .int x2, .int x3]) (stk' := [.int x1]) (σ' := σ) (by decide +kernel) rfl).trans ?_
  refine hb_Si (hb_fe_ok (r := (.invokestatic 161, 3, 109, 1, 0, 0, 0)) (by decide +kernel)) (by decide) (by decide +kernel) (as := [.int x1]) (rest := []) rfl (Nat.le_of_ble_eq_true rfl) (fun y1 σ1 => ?_)
  refine hb_br0 (hb_fe_ok (r := (.ifCond .eq 19, 3, 23, 0, 0, 0, 0)) (by decide +kernel)) rfl ?_ ?_
  · refine (hb_blk [(.ldc 89, 2, 0, 0, 0, (-1000001), 0)] (pe := 25) (gs := []) (loc' := [.ref 13, .int x1, .int x2, .int x3]) (stk' := [.int (-1000001)]) (σ' := σ1) (by decide +kernel) rfl).trans ?_
    exact hb_r_iret (hb_fe_ok (r := (.ireturn, 1, 0, 0, 0, 0, 0)) (by decide +kernel))
  · refine (hb_blk [(.iload_n 2, 1, 2, 0, 0, 0, 0), (.iconst 3, 1, 0, 0, 0, 3, 0)] (pe := 9) (gs := []) (loc' := [.ref 13, .int x1, .int x2, .int x3]) (stk' := [.int 3, .int x2]) (σ' := σ1) (by decide +kernel) rfl).trans ?_
    refine hb_Si (hb_fe_ok (r := (.invokestatic 85, 3, 110, 2, 0, 0, 0)) (by decide +kernel)) (by decide) (by decide +kernel) (as := [.int x2, .int 3]) (rest := []) rfl (Nat.le_of_ble_eq_true rfl) (fun y9 σ9 => ?_)
    refine hb_br0 (hb_fe_ok (r := (.ifCond .eq 11, 3, 23, 0, 0, 0, 0)) (by decide +kernel)) rfl ?_ ?_
    · refine (hb_blk [(.ldc 89, 2, 0, 0, 0, (-1000001), 0)] (pe := 25) (gs := []) (loc' := [.ref 13, .int x1, .int x2, .int x3]) (stk' := [.int (-1000001)]) (σ' := σ9) (by decide +kernel) rfl).trans ?_
      exact hb_r_iret (hb_fe_ok (r := (.ireturn, 1, 0, 0, 0, 0, 0)) (by decide +kernel))
    · refine (hb_blk [(.iload_n 3, 1, 3, 0, 0, 0, 0), (.iconst 5, 1, 0, 0, 0, 5, 0)] (pe := 17) (gs := []) (loc' := [.ref 13, .int x1, .int x2, .int x3]) (stk' := [.int 5, .int x3]) (σ' := σ9) (by decide +kernel) rfl).trans ?_
      refine hb_Si (hb_fe_ok (r := (.invokestatic 85, 3, 110, 2, 0, 0, 0)) (by decide +kernel)) (by decide) (by decide +kernel) (as := [.int x3, .int 5]) (rest := []) rfl (Nat.le_of_ble_eq_true rfl) (fun y17 σ17 => ?_)
      refine hb_br0 (hb_fe_ok (r := (.ifCond .ne 6, 3, 26, 0, 0, 0, 0)) (by decide +kernel)) rfl ?_ ?_
      · refine (hb_blk [(.aload_n 0, 1, 0, 0, 0, 0, 0), (.getfield 70, 3, 11, 7, 0, 0, 0), (.iload_n 1, 1, 1, 0, 0, 0, 0), (.iload_n 2, 1, 2, 0, 0, 0, 0), (.iload_n 3, 1, 3, 0, 0, 0, 0)] (pe := 33) (gs := []) (loc' := [.ref 13, .int x1, .int x2, .int x3]) (stk' := [.int x3, .int x2, .int x1, .ref 50]) (σ' := σ17) (by decide +kernel) rfl).trans ?_
        refine hb_Vi (hb_fe_ok (r := (.invokevirtual 198, 3, 50, 3, 0, 0, 0)) (by decide +kernel)) (by decide +kernel) (as := [.int x1, .int x2, .int x3]) (v := .ref 50) (rest := []) rfl rfl (Nat.le_of_ble_eq_true rfl) (fun y33 σ33 => ?_)
        exact hb_r_iret (hb_fe_ok (r := (.ireturn, 1, 0, 0, 0, 0, 0)) (by decide +kernel))
      · refine (hb_blk [(.ldc 89, 2, 0, 0, 0, (-1000001), 0)] (pe := 25) (gs := []) (loc' := [.ref 13, .int x1, .int x2, .int x3]) (stk' := [.int (-1000001)]) (σ' := σ17) (by decide +kernel) rfl).trans ?_
        exact hb_r_iret (hb_fe_ok (r := (.ireturn, 1, 0, 0, 0, 0, 0)) (by decide +kernel))
set_option maxRecDepth 8000 in
theorem e95_0  (σ : hbM) (x1 : Int32) (x2 : Int32) : hb_run hbSH 95 (0, [.ref 13, .int x1, .int x2], [], σ) = hb_ci (hb_ev hbSH 109 [.int x1] σ) (fun y1 σ1 => if (y1 = (0 : Int32)) then (some (some (.int (-1000001)), σ1)) else (hb_ci (hb_ev hbSH 110 [.int x2, .int 2] σ1) (fun y9 σ9 => if (¬ y9 = (0 : Int32)) then (hb_cv (hb_ev hbSH 0 [.ref 53, .int x1] σ9) (fun σ23 => if (¬ x2 = (0 : Int32)) then (some (some (.int (σ23 53 3)), σ23)) else (some (some (.int (σ23 53 2)), σ23)))) else (some (some (.int (-1000001)), σ9))))) := by
  refine (hb_blk [(.iload_n 1, 1, 1, 0, 0, 0, 0)] (pe := 1) (gs := []) (loc' := [.ref 13, .int x1, .int x2]) (stk' := [.int x1]) (σ' := σ) (by decide +kernel) rfl).trans ?_
  refine hb_Si (hb_fe_ok (r := (.invokestatic 161, 3, 109, 1, 0, 0, 0)) (by decide +kernel)) (by decide) (by decide +kernel) (as := [.int x1]) (rest := []) rfl (Nat.le_of_ble_eq_true rfl) (fun y1 σ1 => ?_)
  refine hb_br0 (hb_fe_ok (r := (.ifCond .eq 11, 3, 15, 0, 0, 0, 0)) (by decide +kernel)) rfl ?_ ?_
  · refine (hb_blk [(.ldc 89, 2, 0, 0, 0, (-1000001), 0)] (pe := 17) (gs := []) (loc' := [.ref 13, .int x1, .int x2]) (stk' := [.int (-1000001)]) (σ' := σ1) (by decide +kernel) rfl).trans ?_
    exact hb_r_iret (hb_fe_ok (r := (.ireturn, 1, 0, 0, 0, 0, 0)) (by decide +kernel))
  · refine (hb_blk [(.iload_n 2, 1, 2, 0, 0, 0, 0), (.iconst 2, 1, 0, 0, 0, 2, 0)] (pe := 9) (gs := []) (loc' := [.ref 13, .int x1, .int x2]) (stk' := [.int 2, .int x2]) (σ' := σ1) (by decide +kernel) rfl).trans ?_
    refine hb_Si (hb_fe_ok (r := (.invokestatic 85, 3, 110, 2, 0, 0, 0)) (by decide +kernel)) (by decide) (by decide +kernel) (as := [.int x2, .int 2]) (rest := []) rfl (Nat.le_of_ble_eq_true rfl) (fun y9 σ9 => ?_)
    refine hb_br0 (hb_fe_ok (r := (.ifCond .ne 6, 3, 18, 0, 0, 0, 0)) (by decide +kernel)) rfl ?_ ?_
    · refine (hb_blk [(.aload_n 0, 1, 0, 0, 0, 0, 0), (.getfield 77, 3, 11, 8, 0, 0, 0), (.iload_n 1, 1, 1, 0, 0, 0, 0)] (pe := 23) (gs := []) (loc' := [.ref 13, .int x1, .int x2]) (stk' := [.int x1, .ref 53]) (σ' := σ9) (by decide +kernel) rfl).trans ?_
      refine hb_Vv (hb_fe_ok (r := (.invokevirtual 202, 3, 0, 1, 0, 0, 0)) (by decide +kernel)) (by decide +kernel) (as := [.int x1]) (v := .ref 53) (rest := []) rfl rfl (Nat.le_of_ble_eq_true rfl) (fun σ23 => ?_)
      refine (hb_blk [(.iload_n 2, 1, 2, 0, 0, 0, 0)] (pe := 27) (gs := []) (loc' := [.ref 13, .int x1, .int x2]) (stk' := [.int x2]) (σ' := σ23) (by decide +kernel) rfl).trans ?_
      refine hb_br0 (hb_fe_ok (r := (.ifCond .ne 13, 3, 40, 0, 0, 0, 0)) (by decide +kernel)) rfl ?_ ?_
      · refine (hb_blk [(.aload_n 0, 1, 0, 0, 0, 0, 0), (.getfield 77, 3, 11, 8, 0, 0, 0), (.getfield 208, 3, 0, 3, 0, 0, 0)] (pe := 47) (gs := []) (loc' := [.ref 13, .int x1, .int x2]) (stk' := [.int (σ23 53 3)]) (σ' := σ23) (by decide +kernel) rfl).trans ?_
        exact hb_r_iret (hb_fe_ok (r := (.ireturn, 1, 0, 0, 0, 0, 0)) (by decide +kernel))
      · refine (hb_blk [(.aload_n 0, 1, 0, 0, 0, 0, 0), (.getfield 77, 3, 11, 8, 0, 0, 0), (.getfield 205, 3, 0, 2, 0, 0, 0)] (pe := 37) (gs := []) (loc' := [.ref 13, .int x1, .int x2]) (stk' := [.int (σ23 53 2)]) (σ' := σ23) (by decide +kernel) rfl).trans ?_
        refine (hb_r_goto (hb_fe_ok (r := (.goto 10, 3, 47, 0, 0, 0, 0)) (by decide +kernel))).trans ?_
        exact hb_r_iret (hb_fe_ok (r := (.ireturn, 1, 0, 0, 0, 0, 0)) (by decide +kernel))
    · refine (hb_blk [(.ldc 89, 2, 0, 0, 0, (-1000001), 0)] (pe := 17) (gs := []) (loc' := [.ref 13, .int x1, .int x2]) (stk' := [.int (-1000001)]) (σ' := σ9) (by decide +kernel) rfl).trans ?_
      exact hb_r_iret (hb_fe_ok (r := (.ireturn, 1, 0, 0, 0, 0, 0)) (by decide +kernel))
set_option maxRecDepth 8000 in
theorem e96_0  (σ : hbM) (x1 : Int32) (x2 : Int32) : hb_run hbSH 96 (0, [.ref 13, .int x1, .int x2], [], σ) = hb_ci (hb_ev hbSH 109 [.int x1] σ) (fun y1 σ1 => if (y1 = (0 : Int32)) then (some (some (.int (-1000001)), σ1)) else (hb_ci (hb_ev hbSH 110 [.int x2, .int 2] σ1) (fun y9 σ9 => if (¬ y9 = (0 : Int32)) then (hb_cv (hb_ev hbSH 66 [.ref 49, .int x1] σ9) (fun σ23 => if (¬ x2 = (0 : Int32)) then (some (some (.int (σ23 49 7)), σ23)) else (some (some (.int (σ23 49 6)), σ23)))) else (some (some (.int (-1000001)), σ9))))) := by
  refine (hb_blk [(.iload_n 1, 1, 1, 0, 0, 0, 0)] (pe := 1) (gs := []) (loc' := [.ref 13, .int x1, .int x2]) (stk' := [.int x1]) (σ' := σ) (by decide +kernel) rfl).trans ?_
  refine hb_Si (hb_fe_ok (r := (.invokestatic 161, 3, 109, 1, 0, 0, 0)) (by decide +kernel)) (by decide) (by decide +kernel) (as := [.int x1]) (rest := []) rfl (Nat.le_of_ble_eq_true rfl) (fun y1 σ1 => ?_)
  refine hb_br0 (hb_fe_ok (r := (.ifCond .eq 11, 3, 15, 0, 0, 0, 0)) (by decide +kernel)) rfl ?_ ?_
  · refine (hb_blk [(.ldc 89, 2, 0, 0, 0, (-1000001), 0)] (pe := 17) (gs := []) (loc' := [.ref 13, .int x1, .int x2]) (stk' := [.int (-1000001)]) (σ' := σ1) (by decide +kernel) rfl).trans ?_
    exact hb_r_iret (hb_fe_ok (r := (.ireturn, 1, 0, 0, 0, 0, 0)) (by decide +kernel))
  · refine (hb_blk [(.iload_n 2, 1, 2, 0, 0, 0, 0), (.iconst 2, 1, 0, 0, 0, 2, 0)] (pe := 9) (gs := []) (loc' := [.ref 13, .int x1, .int x2]) (stk' := [.int 2, .int x2]) (σ' := σ1) (by decide +kernel) rfl).trans ?_
    refine hb_Si (hb_fe_ok (r := (.invokestatic 85, 3, 110, 2, 0, 0, 0)) (by decide +kernel)) (by decide) (by decide +kernel) (as := [.int x2, .int 2]) (rest := []) rfl (Nat.le_of_ble_eq_true rfl) (fun y9 σ9 => ?_)
    refine hb_br0 (hb_fe_ok (r := (.ifCond .ne 6, 3, 18, 0, 0, 0, 0)) (by decide +kernel)) rfl ?_ ?_
    · refine (hb_blk [(.aload_n 0, 1, 0, 0, 0, 0, 0), (.getfield 63, 3, 11, 6, 0, 0, 0), (.iload_n 1, 1, 1, 0, 0, 0, 0)] (pe := 23) (gs := []) (loc' := [.ref 13, .int x1, .int x2]) (stk' := [.int x1, .ref 49]) (σ' := σ9) (by decide +kernel) rfl).trans ?_
      refine hb_Vv (hb_fe_ok (r := (.invokevirtual 211, 3, 66, 1, 0, 0, 0)) (by decide +kernel)) (by decide +kernel) (as := [.int x1]) (v := .ref 49) (rest := []) rfl rfl (Nat.le_of_ble_eq_true rfl) (fun σ23 => ?_)
      refine (hb_blk [(.iload_n 2, 1, 2, 0, 0, 0, 0)] (pe := 27) (gs := []) (loc' := [.ref 13, .int x1, .int x2]) (stk' := [.int x2]) (σ' := σ23) (by decide +kernel) rfl).trans ?_
      refine hb_br0 (hb_fe_ok (r := (.ifCond .ne 13, 3, 40, 0, 0, 0, 0)) (by decide +kernel)) rfl ?_ ?_
      · refine (hb_blk [(.aload_n 0, 1, 0, 0, 0, 0, 0), (.getfield 63, 3, 11, 6, 0, 0, 0), (.getfield 217, 3, 9, 7, 0, 0, 0)] (pe := 47) (gs := []) (loc' := [.ref 13, .int x1, .int x2]) (stk' := [.int (σ23 49 7)]) (σ' := σ23) (by decide +kernel) rfl).trans ?_
        exact hb_r_iret (hb_fe_ok (r := (.ireturn, 1, 0, 0, 0, 0, 0)) (by decide +kernel))
      · refine (hb_blk [(.aload_n 0, 1, 0, 0, 0, 0, 0), (.getfield 63, 3, 11, 6, 0, 0, 0), (.getfield 214, 3, 9, 6, 0, 0, 0)] (pe := 37) (gs := []) (loc' := [.ref 13, .int x1, .int x2]) (stk' := [.int (σ23 49 6)]) (σ' := σ23) (by decide +kernel) rfl).trans ?_
        refine (hb_r_goto (hb_fe_ok (r := (.goto 10, 3, 47, 0, 0, 0, 0)) (by decide +kernel))).trans ?_
        exact hb_r_iret (hb_fe_ok (r := (.ireturn, 1, 0, 0, 0, 0, 0)) (by decide +kernel))
    · refine (hb_blk [(.ldc 89, 2, 0, 0, 0, (-1000001), 0)] (pe := 17) (gs := []) (loc' := [.ref 13, .int x1, .int x2]) (stk' := [.int (-1000001)]) (σ' := σ9) (by decide +kernel) rfl).trans ?_
      exact hb_r_iret (hb_fe_ok (r := (.ireturn, 1, 0, 0, 0, 0, 0)) (by decide +kernel))
set_option maxRecDepth 8000 in
theorem e97_0  (σ : hbM) (x1 : Int32) (x2 : Int32) (x3 : Int32) : hb_run hbSH 97 (0, [.ref 13, .int x1, .int x2, .int x3], [], σ) = hb_ci (hb_ev hbSH 109 [.int x1] σ) (fun y1 σ1 => if (y1 = (0 : Int32)) then (some (some (.int (-1000001)), σ1)) else (hb_ci (hb_ev hbSH 32 [.ref 31, .int x2] σ1) (fun y12 σ12 => if (y12 = (0 : Int32)) then (some (some (.int (-1000001)), σ12)) else (hb_ci (hb_ev hbSH 110 [.int x3, .int 4] σ12) (fun y20 σ20 => if (¬ y20 = (0 : Int32)) then (hb_ci (hb_ev hbSH 64 [.ref 49, .int x1, .int x2, .int x3] σ20) (fun y36 σ36 => some (some (.int y36), σ36))) else (some (some (.int (-1000001)), σ20))))))) := by
  refine (hb_blk [(.iload_n 1, 1, 1, 0, 0, 0, 0)] (pe := 1) (gs := []) (loc' := [.ref 13, .int x1, .int x2, .int x3]) (stk' := [.int x1]) (σ' := σ) (by decide +kernel) rfl).trans ?_
  refine hb_Si (hb_fe_ok (r := (.invokestatic 161, 3, 109, 1, 0, 0, 0)) (by decide +kernel)) (by decide) (by decide +kernel) (as := [.int x1]) (rest := []) rfl (Nat.le_of_ble_eq_true rfl) (fun y1 σ1 => ?_)
  refine hb_br0 (hb_fe_ok (r := (.ifCond .eq 22, 3, 26, 0, 0, 0, 0)) (by decide +kernel)) rfl ?_ ?_
  · refine (hb_blk [(.ldc 89, 2, 0, 0, 0, (-1000001), 0)] (pe := 28) (gs := []) (loc' := [.ref 13, .int x1, .int x2, .int x3]) (stk' := [.int (-1000001)]) (σ' := σ1) (by decide +kernel) rfl).trans ?_
    exact hb_r_iret (hb_fe_ok (r := (.ireturn, 1, 0, 0, 0, 0, 0)) (by decide +kernel))
  · refine (hb_blk [(.aload_n 0, 1, 0, 0, 0, 0, 0), (.getfield 25, 3, 11, 2, 0, 0, 0), (.iload_n 2, 1, 2, 0, 0, 0, 0)] (pe := 12) (gs := []) (loc' := [.ref 13, .int x1, .int x2, .int x3]) (stk' := [.int x2, .ref 31]) (σ' := σ1) (by decide +kernel) rfl).trans ?_
    refine hb_Vi (hb_fe_ok (r := (.invokevirtual 220, 3, 32, 1, 0, 0, 0)) (by decide +kernel)) (by decide +kernel) (as := [.int x2]) (v := .ref 31) (rest := []) rfl rfl (Nat.le_of_ble_eq_true rfl) (fun y12 σ12 => ?_)
    refine hb_br0 (hb_fe_ok (r := (.ifCond .eq 11, 3, 26, 0, 0, 0, 0)) (by decide +kernel)) rfl ?_ ?_
    · refine (hb_blk [(.ldc 89, 2, 0, 0, 0, (-1000001), 0)] (pe := 28) (gs := []) (loc' := [.ref 13, .int x1, .int x2, .int x3]) (stk' := [.int (-1000001)]) (σ' := σ12) (by decide +kernel) rfl).trans ?_
      exact hb_r_iret (hb_fe_ok (r := (.ireturn, 1, 0, 0, 0, 0, 0)) (by decide +kernel))
    · refine (hb_blk [(.iload_n 3, 1, 3, 0, 0, 0, 0), (.iconst 4, 1, 0, 0, 0, 4, 0)] (pe := 20) (gs := []) (loc' := [.ref 13, .int x1, .int x2, .int x3]) (stk' := [.int 4, .int x3]) (σ' := σ12) (by decide +kernel) rfl).trans ?_
      refine hb_Si (hb_fe_ok (r := (.invokestatic 85, 3, 110, 2, 0, 0, 0)) (by decide +kernel)) (by decide) (by decide +kernel) (as := [.int x3, .int 4]) (rest := []) rfl (Nat.le_of_ble_eq_true rfl) (fun y20 σ20 => ?_)
      refine hb_br0 (hb_fe_ok (r := (.ifCond .ne 6, 3, 29, 0, 0, 0, 0)) (by decide +kernel)) rfl ?_ ?_
      · refine (hb_blk [(.aload_n 0, 1, 0, 0, 0, 0, 0), (.getfield 63, 3, 11, 6, 0, 0, 0), (.iload_n 1, 1, 1, 0, 0, 0, 0), (.iload_n 2, 1, 2, 0, 0, 0, 0), (.iload_n 3, 1, 3, 0, 0, 0, 0)] (pe := 36) (gs := []) (loc' := [.ref 13, .int x1, .int x2, .int x3]) (stk' := [.int x3, .int x2, .int x1, .ref 49]) (σ' := σ20) (by decide +kernel) rfl).trans ?_
        refine hb_Vi (hb_fe_ok (r := (.invokevirtual 222, 3, 64, 3, 0, 0, 0)) (by decide +kernel)) (by decide +kernel) (as := [.int x1, .int x2, .int x3]) (v := .ref 49) (rest := []) rfl rfl (Nat.le_of_ble_eq_true rfl) (fun y36 σ36 => ?_)
        exact hb_r_iret (hb_fe_ok (r := (.ireturn, 1, 0, 0, 0, 0, 0)) (by decide +kernel))
      · refine (hb_blk [(.ldc 89, 2, 0, 0, 0, (-1000001), 0)] (pe := 28) (gs := []) (loc' := [.ref 13, .int x1, .int x2, .int x3]) (stk' := [.int (-1000001)]) (σ' := σ20) (by decide +kernel) rfl).trans ?_
        exact hb_r_iret (hb_fe_ok (r := (.ireturn, 1, 0, 0, 0, 0, 0)) (by decide +kernel))
set_option maxRecDepth 8000 in
theorem e98_0  (σ : hbM) (x1 : Int32) (x2 : Int32) : hb_run hbSH 98 (0, [.ref 13, .int x1, .int x2, .null], [], σ) = hb_ci (hb_ev hbSH 109 [.int x1] σ) (fun y1 σ1 => if (y1 = (0 : Int32)) then (some (some (.int (-1000001)), σ1)) else (hb_ci (hb_ev hbSH 110 [.int x2, .int 2] σ1) (fun y9 σ9 => if (¬ y9 = (0 : Int32)) then (hb_ci (hb_ev hbSH 60 [.ref 50, .int x1] σ9) (fun y23 σ23 => if (y23 = (-1000000 : Int32)) then (some (some (.int y23), σ23)) else (if (¬ x2 = (1 : Int32)) then (hb_ci (hb_ev hbSH 188 [.int y23] σ23) (fun y43 σ43 => some (some (.int y43), σ43))) else (some (some (.int y23), σ23))))) else (some (some (.int (-1000001)), σ9))))) := by
  refine (hb_blk [(.iload_n 1, 1, 1, 0, 0, 0, 0)] (pe := 1) (gs := []) (loc' := [.ref 13, .int x1, .int x2, .null]) (stk' := [.int x1]) (σ' := σ) (by decide +kernel) rfl).trans ?_
  refine hb_Si (hb_fe_ok (r := (.invokestatic 161, 3, 109, 1, 0, 0, 0)) (by decide +kernel)) (by decide) (by decide +kernel) (as := [.int x1]) (rest := []) rfl (Nat.le_of_ble_eq_true rfl) (fun y1 σ1 => ?_)
  refine hb_br0 (hb_fe_ok (r := (.ifCond .eq 11, 3, 15, 0, 0, 0, 0)) (by decide +kernel)) rfl ?_ ?_
  · refine (hb_blk [(.ldc 89, 2, 0, 0, 0, (-1000001), 0)] (pe := 17) (gs := []) (loc' := [.ref 13, .int x1, .int x2, .null]) (stk' := [.int (-1000001)]) (σ' := σ1) (by decide +kernel) rfl).trans ?_
    exact hb_r_iret (hb_fe_ok (r := (.ireturn, 1, 0, 0, 0, 0, 0)) (by decide +kernel))
  · refine (hb_blk [(.iload_n 2, 1, 2, 0, 0, 0, 0), (.iconst 2, 1, 0, 0, 0, 2, 0)] (pe := 9) (gs := []) (loc' := [.ref 13, .int x1, .int x2, .null]) (stk' := [.int 2, .int x2]) (σ' := σ1) (by decide +kernel) rfl).trans ?_
    refine hb_Si (hb_fe_ok (r := (.invokestatic 85, 3, 110, 2, 0, 0, 0)) (by decide +kernel)) (by decide) (by decide +kernel) (as := [.int x2, .int 2]) (rest := []) rfl (Nat.le_of_ble_eq_true rfl) (fun y9 σ9 => ?_)
    refine hb_br0 (hb_fe_ok (r := (.ifCond .ne 6, 3, 18, 0, 0, 0, 0)) (by decide +kernel)) rfl ?_ ?_
    · refine (hb_blk [(.aload_n 0, 1, 0, 0, 0, 0, 0), (.getfield 70, 3, 11, 7, 0, 0, 0), (.iload_n 1, 1, 1, 0, 0, 0, 0)] (pe := 23) (gs := []) (loc' := [.ref 13, .int x1, .int x2, .null]) (stk' := [.int x1, .ref 50]) (σ' := σ9) (by decide +kernel) rfl).trans ?_
      refine hb_Vi (hb_fe_ok (r := (.invokevirtual 225, 3, 60, 1, 0, 0, 0)) (by decide +kernel)) (by decide +kernel) (as := [.int x1]) (v := .ref 50) (rest := []) rfl rfl (Nat.le_of_ble_eq_true rfl) (fun y23 σ23 => ?_)
      refine (hb_blk [(.istore_n 3, 1, 3, 0, 0, 0, 0), (.iload_n 3, 1, 3, 0, 0, 0, 0), (.ldc 151, 2, 0, 0, 0, (-1000000), 0)] (pe := 30) (gs := []) (loc' := [.ref 13, .int x1, .int x2, .int y23]) (stk' := [.int (-1000000), .int y23]) (σ' := σ23) (by decide +kernel) rfl).trans ?_
      refine hb_br (hb_fe_ok (r := (.if_icmp .eq 8, 3, 38, 0, 0, 0, 0)) (by decide +kernel)) rfl ?_ ?_
      · refine (hb_blk [(.iload_n 3, 1, 3, 0, 0, 0, 0)] (pe := 39) (gs := []) (loc' := [.ref 13, .int x1, .int x2, .int y23]) (stk' := [.int y23]) (σ' := σ23) (by decide +kernel) rfl).trans ?_
        refine (hb_r_goto (hb_fe_ok (r := (.goto 7, 3, 46, 0, 0, 0, 0)) (by decide +kernel))).trans ?_
        exact hb_r_iret (hb_fe_ok (r := (.ireturn, 1, 0, 0, 0, 0, 0)) (by decide +kernel))
      · refine (hb_blk [(.iload_n 2, 1, 2, 0, 0, 0, 0), (.iconst 1, 1, 0, 0, 0, 1, 0)] (pe := 35) (gs := []) (loc' := [.ref 13, .int x1, .int x2, .int y23]) (stk' := [.int 1, .int x2]) (σ' := σ23) (by decide +kernel) rfl).trans ?_
        refine hb_br (hb_fe_ok (r := (.if_icmp .ne 7, 3, 42, 0, 0, 0, 0)) (by decide +kernel)) rfl ?_ ?_
        · refine (hb_blk [(.iload_n 3, 1, 3, 0, 0, 0, 0)] (pe := 43) (gs := []) (loc' := [.ref 13, .int x1, .int x2, .int y23]) (stk' := [.int y23]) (σ' := σ23) (by decide +kernel) rfl).trans ?_
          refine hb_Si (hb_fe_ok (r := (.invokestatic 228, 3, 188, 1, 0, 0, 0)) (by decide +kernel)) (by decide) (by decide +kernel) (as := [.int y23]) (rest := []) rfl (Nat.le_of_ble_eq_true rfl) (fun y43 σ43 => ?_)
          exact hb_r_iret (hb_fe_ok (r := (.ireturn, 1, 0, 0, 0, 0, 0)) (by decide +kernel))
        · refine (hb_blk [(.iload_n 3, 1, 3, 0, 0, 0, 0)] (pe := 39) (gs := []) (loc' := [.ref 13, .int x1, .int x2, .int y23]) (stk' := [.int y23]) (σ' := σ23) (by decide +kernel) rfl).trans ?_
          refine (hb_r_goto (hb_fe_ok (r := (.goto 7, 3, 46, 0, 0, 0, 0)) (by decide +kernel))).trans ?_
          exact hb_r_iret (hb_fe_ok (r := (.ireturn, 1, 0, 0, 0, 0, 0)) (by decide +kernel))
    · refine (hb_blk [(.ldc 89, 2, 0, 0, 0, (-1000001), 0)] (pe := 17) (gs := []) (loc' := [.ref 13, .int x1, .int x2, .null]) (stk' := [.int (-1000001)]) (σ' := σ9) (by decide +kernel) rfl).trans ?_
      exact hb_r_iret (hb_fe_ok (r := (.ireturn, 1, 0, 0, 0, 0, 0)) (by decide +kernel))
set_option maxRecDepth 8000 in
theorem e99_0  (σ : hbM) (x1 : Int32) : hb_run hbSH 99 (0, [.ref 13, .int x1], [], σ) = hb_ci (hb_ev hbSH 32 [.ref 31, .int x1] σ) (fun y5 σ5 => if (y5 = (0 : Int32)) then (some (some (.int (-1000001)), σ5)) else (hb_ci (hb_ev hbSH 35 [.ref 31, .int x1] σ5) (fun y16 σ16 => some (some (.int y16), σ16)))) := by
  refine (hb_blk [(.aload_n 0, 1, 0, 0, 0, 0, 0), (.getfield 25, 3, 11, 2, 0, 0, 0), (.iload_n 1, 1, 1, 0, 0, 0, 0)] (pe := 5) (gs := []) (loc' := [.ref 13, .int x1]) (stk' := [.int x1, .ref 31]) (σ' := σ) (by decide +kernel) rfl).trans ?_
  refine hb_Vi (hb_fe_ok (r := (.invokevirtual 220, 3, 32, 1, 0, 0, 0)) (by decide +kernel)) (by decide +kernel) (as := [.int x1]) (v := .ref 31) (rest := []) rfl rfl (Nat.le_of_ble_eq_true rfl) (fun y5 σ5 => ?_)
  refine hb_br0 (hb_fe_ok (r := (.ifCond .eq 14, 3, 22, 0, 0, 0, 0)) (by decide +kernel)) rfl ?_ ?_
  · refine (hb_blk [(.ldc 89, 2, 0, 0, 0, (-1000001), 0)] (pe := 24) (gs := []) (loc' := [.ref 13, .int x1]) (stk' := [.int (-1000001)]) (σ' := σ5) (by decide +kernel) rfl).trans ?_
    exact hb_r_iret (hb_fe_ok (r := (.ireturn, 1, 0, 0, 0, 0, 0)) (by decide +kernel))
  · refine (hb_blk [(.aload_n 0, 1, 0, 0, 0, 0, 0), (.getfield 25, 3, 11, 2, 0, 0, 0), (.iload_n 1, 1, 1, 0, 0, 0, 0)] (pe := 16) (gs := []) (loc' := [.ref 13, .int x1]) (stk' := [.int x1, .ref 31]) (σ' := σ5) (by decide +kernel) rfl).trans ?_
    refine hb_Vi (hb_fe_ok (r := (.invokevirtual 233, 3, 35, 1, 0, 0, 0)) (by decide +kernel)) (by decide +kernel) (as := [.int x1]) (v := .ref 31) (rest := []) rfl rfl (Nat.le_of_ble_eq_true rfl) (fun y16 σ16 => ?_)
    refine (hb_r_goto (hb_fe_ok (r := (.goto 5, 3, 24, 0, 0, 0, 0)) (by decide +kernel))).trans ?_
    exact hb_r_iret (hb_fe_ok (r := (.ireturn, 1, 0, 0, 0, 0, 0)) (by decide +kernel))
set_option maxRecDepth 8000 in
theorem e100_0  (σ : hbM) (x1 : Int32) (x2 : Int32) : hb_run hbSH 100 (0, [.ref 13, .int x1, .int x2], [], σ) = hb_ci (hb_ev hbSH 32 [.ref 31, .int x1] σ) (fun y5 σ5 => if (y5 = (0 : Int32)) then (some (some (.int (-1000001)), σ5)) else (hb_ci (hb_ev hbSH 110 [.int x2, .int 6] σ5) (fun y14 σ14 => if (¬ y14 = (0 : Int32)) then (hb_ci (hb_ev hbSH 36 [.ref 31, .int x1, .int x2] σ14) (fun y29 σ29 => if (y29 = (0 : Int32)) then (hb_ci (hb_ev hbSH 105 [.ref 13, .int 3] σ29) (fun y45 σ45 => some (some (.int y45), σ45))) else (hb_ci (hb_ev hbSH 106 [.ref 13, .int x1] σ29) (fun y37 σ37 => some (some (.int y37), σ37))))) else (some (some (.int (-1000001)), σ14))))) := by
  refine (hb_blk [(.aload_n 0, 1, 0, 0, 0, 0, 0), (.getfield 25, 3, 11, 2, 0, 0, 0), (.iload_n 1, 1, 1, 0, 0, 0, 0)] (pe := 5) (gs := []) (loc' := [.ref 13, .int x1, .int x2]) (stk' := [.int x1, .ref 31]) (σ' := σ) (by decide +kernel) rfl).trans ?_
  refine hb_Vi (hb_fe_ok (r := (.invokevirtual 220, 3, 32, 1, 0, 0, 0)) (by decide +kernel)) (by decide +kernel) (as := [.int x1]) (v := .ref 31) (rest := []) rfl rfl (Nat.le_of_ble_eq_true rfl) (fun y5 σ5 => ?_)
  refine hb_br0 (hb_fe_ok (r := (.ifCond .eq 12, 3, 20, 0, 0, 0, 0)) (by decide +kernel)) rfl ?_ ?_
  · refine (hb_blk [(.ldc 89, 2, 0, 0, 0, (-1000001), 0)] (pe := 22) (gs := []) (loc' := [.ref 13, .int x1, .int x2]) (stk' := [.int (-1000001)]) (σ' := σ5) (by decide +kernel) rfl).trans ?_
    exact hb_r_iret (hb_fe_ok (r := (.ireturn, 1, 0, 0, 0, 0, 0)) (by decide +kernel))
  · refine (hb_blk [(.iload_n 2, 1, 2, 0, 0, 0, 0), (.bipush 6, 2, 0, 0, 0, 6, 0)] (pe := 14) (gs := []) (loc' := [.ref 13, .int x1, .int x2]) (stk' := [.int 6, .int x2]) (σ' := σ5) (by decide +kernel) rfl).trans ?_
    refine hb_Si (hb_fe_ok (r := (.invokestatic 85, 3, 110, 2, 0, 0, 0)) (by decide +kernel)) (by decide) (by decide +kernel) (as := [.int x2, .int 6]) (rest := []) rfl (Nat.le_of_ble_eq_true rfl) (fun y14 σ14 => ?_)
    refine hb_br0 (hb_fe_ok (r := (.ifCond .ne 6, 3, 23, 0, 0, 0, 0)) (by decide +kernel)) rfl ?_ ?_
    · refine (hb_blk [(.aload_n 0, 1, 0, 0, 0, 0, 0), (.getfield 25, 3, 11, 2, 0, 0, 0), (.iload_n 1, 1, 1, 0, 0, 0, 0), (.iload_n 2, 1, 2, 0, 0, 0, 0)] (pe := 29) (gs := []) (loc' := [.ref 13, .int x1, .int x2]) (stk' := [.int x2, .int x1, .ref 31]) (σ' := σ14) (by decide +kernel) rfl).trans ?_
      refine hb_Vi (hb_fe_ok (r := (.invokevirtual 236, 3, 36, 2, 0, 0, 0)) (by decide +kernel)) (by decide +kernel) (as := [.int x1, .int x2]) (v := .ref 31) (rest := []) rfl rfl (Nat.le_of_ble_eq_true rfl) (fun y29 σ29 => ?_)
      refine hb_br0 (hb_fe_ok (r := (.ifCond .eq 11, 3, 43, 0, 0, 0, 0)) (by decide +kernel)) rfl ?_ ?_
      · refine (hb_blk [(.aload_n 0, 1, 0, 0, 0, 0, 0), (.iconst 3, 1, 0, 0, 0, 3, 0)] (pe := 45) (gs := []) (loc' := [.ref 13, .int x1, .int x2]) (stk' := [.int 3, .ref 13]) (σ' := σ29) (by decide +kernel) rfl).trans ?_
        refine hb_Vi (hb_fe_ok (r := (.invokevirtual 90, 3, 105, 1, 0, 0, 0)) (by decide +kernel)) (by decide +kernel) (as := [.int 3]) (v := .ref 13) (rest := []) rfl rfl (Nat.le_of_ble_eq_true rfl) (fun y45 σ45 => ?_)
        exact hb_r_iret (hb_fe_ok (r := (.ireturn, 1, 0, 0, 0, 0, 0)) (by decide +kernel))
      · refine (hb_blk [(.aload_n 0, 1, 0, 0, 0, 0, 0), (.iload_n 1, 1, 1, 0, 0, 0, 0)] (pe := 37) (gs := []) (loc' := [.ref 13, .int x1, .int x2]) (stk' := [.int x1, .ref 13]) (σ' := σ29) (by decide +kernel) rfl).trans ?_
        refine hb_Vi (hb_fe_ok (r := (.invokevirtual 98, 3, 106, 1, 0, 0, 0)) (by decide +kernel)) (by decide +kernel) (as := [.int x1]) (v := .ref 13) (rest := []) rfl rfl (Nat.le_of_ble_eq_true rfl) (fun y37 σ37 => ?_)
        refine (hb_r_goto (hb_fe_ok (r := (.goto 8, 3, 48, 0, 0, 0, 0)) (by decide +kernel))).trans ?_
        exact hb_r_iret (hb_fe_ok (r := (.ireturn, 1, 0, 0, 0, 0, 0)) (by decide +kernel))
    · refine (hb_blk [(.ldc 89, 2, 0, 0, 0, (-1000001), 0)] (pe := 22) (gs := []) (loc' := [.ref 13, .int x1, .int x2]) (stk' := [.int (-1000001)]) (σ' := σ14) (by decide +kernel) rfl).trans ?_
      exact hb_r_iret (hb_fe_ok (r := (.ireturn, 1, 0, 0, 0, 0, 0)) (by decide +kernel))
set_option maxRecDepth 8000 in
theorem e101_0  (σ : hbM) (x1 : Int32) (x2 : Int32) : hb_run hbSH 101 (0, [.ref 13, .int x1, .int x2], [], σ) = hb_ci (hb_ev hbSH 32 [.ref 31, .int x1] σ) (fun y5 σ5 => if (y5 = (0 : Int32)) then (some (some (.int (-1000001)), σ5)) else (hb_ci (hb_ev hbSH 110 [.int x2, .int 2] σ5) (fun y13 σ13 => if (¬ y13 = (0 : Int32)) then (hb_ci (hb_ev hbSH 38 [.ref 31, .int x1, .int x2] σ13) (fun y28 σ28 => some (some (.int y28), σ28))) else (some (some (.int (-1000001)), σ13))))) := by
  refine (hb_blk [(.aload_n 0, 1, 0, 0, 0, 0, 0), (.getfield 25, 3, 11, 2, 0, 0, 0), (.iload_n 1, 1, 1, 0, 0, 0, 0)] (pe := 5) (gs := []) (loc' := [.ref 13, .int x1, .int x2]) (stk' := [.int x1, .ref 31]) (σ' := σ) (by decide +kernel) rfl).trans ?_
  refine hb_Vi (hb_fe_ok (r := (.invokevirtual 220, 3, 32, 1, 0, 0, 0)) (by decide +kernel)) (by decide +kernel) (as := [.int x1]) (v := .ref 31) (rest := []) rfl rfl (Nat.le_of_ble_eq_true rfl) (fun y5 σ5 => ?_)
  refine hb_br0 (hb_fe_ok (r := (.ifCond .eq 11, 3, 19, 0, 0, 0, 0)) (by decide +kernel)) rfl ?_ ?_
  · refine (hb_blk [(.ldc 89, 2, 0, 0, 0, (-1000001), 0)] (pe := 21) (gs := []) (loc' := [.ref 13, .int x1, .int x2]) (stk' := [.int (-1000001)]) (σ' := σ5) (by decide +kernel) rfl).trans ?_
    exact hb_r_iret (hb_fe_ok (r := (.ireturn, 1, 0, 0, 0, 0, 0)) (by decide +kernel))
  · refine (hb_blk [(.iload_n 2, 1, 2, 0, 0, 0, 0), (.iconst 2, 1, 0, 0, 0, 2, 0)] (pe := 13) (gs := []) (loc' := [.ref 13, .int x1, .int x2]) (stk' := [.int 2, .int x2]) (σ' := σ5) (by decide +kernel) rfl).trans ?_
    refine hb_Si (hb_fe_ok (r := (.invokestatic 85, 3, 110, 2, 0, 0, 0)) (by decide +kernel)) (by decide) (by decide +kernel) (as := [.int x2, .int 2]) (rest := []) rfl (Nat.le_of_ble_eq_true rfl) (fun y13 σ13 => ?_)
    refine hb_br0 (hb_fe_ok (r := (.ifCond .ne 6, 3, 22, 0, 0, 0, 0)) (by decide +kernel)) rfl ?_ ?_
    · refine (hb_blk [(.aload_n 0, 1, 0, 0, 0, 0, 0), (.getfield 25, 3, 11, 2, 0, 0, 0), (.iload_n 1, 1, 1, 0, 0, 0, 0), (.iload_n 2, 1, 2, 0, 0, 0, 0)] (pe := 28) (gs := []) (loc' := [.ref 13, .int x1, .int x2]) (stk' := [.int x2, .int x1, .ref 31]) (σ' := σ13) (by decide +kernel) rfl).trans ?_
      refine hb_Vi (hb_fe_ok (r := (.invokevirtual 239, 3, 38, 2, 0, 0, 0)) (by decide +kernel)) (by decide +kernel) (as := [.int x1, .int x2]) (v := .ref 31) (rest := []) rfl rfl (Nat.le_of_ble_eq_true rfl) (fun y28 σ28 => ?_)
      exact hb_r_iret (hb_fe_ok (r := (.ireturn, 1, 0, 0, 0, 0, 0)) (by decide +kernel))
    · refine (hb_blk [(.ldc 89, 2, 0, 0, 0, (-1000001), 0)] (pe := 21) (gs := []) (loc' := [.ref 13, .int x1, .int x2]) (stk' := [.int (-1000001)]) (σ' := σ13) (by decide +kernel) rfl).trans ?_
      exact hb_r_iret (hb_fe_ok (r := (.ireturn, 1, 0, 0, 0, 0, 0)) (by decide +kernel))
set_option maxRecDepth 8000 in
theorem e102_0  (σ : hbM) (x1 : Int32) : hb_run hbSH 102 (0, [.ref 13, .int x1], [], σ) = hb_ci (hb_ev hbSH 110 [.int x1, .int (σ 31 6)] σ) (fun y8 σ8 => if (y8 = (0 : Int32)) then (some (some (.int (-1000000)), σ8)) else (hb_g [hb_in x1 16] (some (some (.int (σ8 35 (Int32.toNatClampNeg x1))), σ8)))) := by
  refine (hb_blk [(.iload_n 1, 1, 1, 0, 0, 0, 0), (.aload_n 0, 1, 0, 0, 0, 0, 0), (.getfield 25, 3, 11, 2, 0, 0, 0), (.getfield 242, 3, 6, 6, 0, 0, 0)] (pe := 8) (gs := []) (loc' := [.ref 13, .int x1]) (stk' := [.int (σ 31 6), .int x1]) (σ' := σ) (by decide +kernel) rfl).trans ?_
  refine hb_Si (hb_fe_ok (r := (.invokestatic 85, 3, 110, 2, 0, 0, 0)) (by decide +kernel)) (by decide) (by decide +kernel) (as := [.int x1, .int (σ 31 6)]) (rest := []) rfl (Nat.le_of_ble_eq_true rfl) (fun y8 σ8 => ?_)
  refine hb_br0 (hb_fe_ok (r := (.ifCond .eq 15, 3, 26, 0, 0, 0, 0)) (by decide +kernel)) rfl ?_ ?_
  · refine (hb_blk [(.ldc 151, 2, 0, 0, 0, (-1000000), 0)] (pe := 28) (gs := []) (loc' := [.ref 13, .int x1]) (stk' := [.int (-1000000)]) (σ' := σ8) (by decide +kernel) rfl).trans ?_
    exact hb_r_iret (hb_fe_ok (r := (.ireturn, 1, 0, 0, 0, 0, 0)) (by decide +kernel))
  · refine (hb_blk [(.aload_n 0, 1, 0, 0, 0, 0, 0), (.getfield 25, 3, 11, 2, 0, 0, 0), (.getfield 245, 3, 6, 3, 0, 0, 0), (.iload_n 1, 1, 1, 0, 0, 0, 0), (.iaload, 1, 0, 0, 0, 0, 0)] (pe := 23) (gs := [hb_in x1 16]) (loc' := [.ref 13, .int x1]) (stk' := [.int (σ8 35 (Int32.toNatClampNeg x1))]) (σ' := σ8) (by decide +kernel) rfl).trans ?_
    refine congrArg (hb_g _) ?_
    refine (hb_r_goto (hb_fe_ok (r := (.goto 5, 3, 28, 0, 0, 0, 0)) (by decide +kernel))).trans ?_
    exact hb_r_iret (hb_fe_ok (r := (.ireturn, 1, 0, 0, 0, 0, 0)) (by decide +kernel))
set_option maxRecDepth 8000 in
theorem e103_0  (σ : hbM) (x1 : Int32) : hb_run hbSH 103 (0, [.ref 13, .int x1], [], σ) = if (x1 = 0) then (hb_ci (hb_ev hbSH 107 [.ref 13] σ) (fun y45 σ45 => some (some (.int y45), σ45))) else (if (x1 = 1) then (some (some (.int (σ 31 4)), σ)) else (if (x1 = 2) then (some (some (.int (σ 0 8)), σ)) else (if (x1 = 3) then (some (some (.int (σ 1 2)), σ)) else (if (x1 = 4) then (some (some (.int (σ 4 2)), σ)) else (if (x1 = 5) then (hb_ci (hb_ev hbSH 188 [.int (σ 0 10)] σ) (fun y94 σ94 => some (some (.int y94), σ94))) else (if (x1 = 6) then (some (some (.int (σ 39 3)), σ)) else (some (some (.int (-1000001)), σ)))))))) := by
  refine (hb_blk [(.iload_n 1, 1, 1, 0, 0, 0, 0)] (pe := 1) (gs := []) (loc' := [.ref 13, .int x1]) (stk' := [.int x1]) (σ' := σ) (by decide +kernel) rfl).trans ?_
  refine hb_r_sw (hb_fe_ok (r := (.tableswitch 105 0 6 #[43, 48, 56, 64, 75, 86, 97], 43, 0, 0, 0, 0, 0)) (by decide +kernel)) ?_
  refine hb_swc (z := 0) (q := 44) ?_ ?_
  · refine (hb_blk [(.aload_n 0, 1, 0, 0, 0, 0, 0)] (pe := 45) (gs := []) (loc' := [.ref 13, .int x1]) (stk' := [.ref 13]) (σ' := σ) (by decide +kernel) rfl).trans ?_
    refine hb_Vi (hb_fe_ok (r := (.invokevirtual 248, 3, 107, 0, 0, 0, 0)) (by decide +kernel)) (by decide +kernel) (as := []) (v := .ref 13) (rest := []) rfl rfl (Nat.le_of_ble_eq_true rfl) (fun y45 σ45 => ?_)
    exact hb_r_iret (hb_fe_ok (r := (.ireturn, 1, 0, 0, 0, 0, 0)) (by decide +kernel))
  refine hb_swc (z := 1) (q := 49) ?_ ?_
  · refine (hb_blk [(.aload_n 0, 1, 0, 0, 0, 0, 0), (.getfield 25, 3, 11, 2, 0, 0, 0), (.getfield 140, 3, 6, 4, 0, 0, 0)] (pe := 56) (gs := []) (loc' := [.ref 13, .int x1]) (stk' := [.int (σ 31 4)]) (σ' := σ) (by decide +kernel) rfl).trans ?_
    exact hb_r_iret (hb_fe_ok (r := (.ireturn, 1, 0, 0, 0, 0, 0)) (by decide +kernel))
  refine hb_swc (z := 2) (q := 57) ?_ ?_
  · refine (hb_blk [(.aload_n 0, 1, 0, 0, 0, 0, 0), (.getfield 18, 3, 11, 1, 0, 0, 0), (.getfield 252, 3, 10, 8, 0, 0, 0)] (pe := 64) (gs := []) (loc' := [.ref 13, .int x1]) (stk' := [.int (σ 0 8)]) (σ' := σ) (by decide +kernel) rfl).trans ?_
    exact hb_r_iret (hb_fe_ok (r := (.ireturn, 1, 0, 0, 0, 0, 0)) (by decide +kernel))
  refine hb_swc (z := 3) (q := 65) ?_ ?_
  · refine (hb_blk [(.aload_n 0, 1, 0, 0, 0, 0, 0), (.getfield 18, 3, 11, 1, 0, 0, 0), (.getfield 255, 3, 10, 0, 0, 0, 0), (.getfield 259, 3, 2, 2, 0, 0, 0)] (pe := 75) (gs := []) (loc' := [.ref 13, .int x1]) (stk' := [.int (σ 1 2)]) (σ' := σ) (by decide +kernel) rfl).trans ?_
    exact hb_r_iret (hb_fe_ok (r := (.ireturn, 1, 0, 0, 0, 0, 0)) (by decide +kernel))
  refine hb_swc (z := 4) (q := 76) ?_ ?_
  · refine (hb_blk [(.aload_n 0, 1, 0, 0, 0, 0, 0), (.getfield 18, 3, 11, 1, 0, 0, 0), (.getfield 262, 3, 10, 1, 0, 0, 0), (.getfield 259, 3, 2, 2, 0, 0, 0)] (pe := 86) (gs := []) (loc' := [.ref 13, .int x1]) (stk' := [.int (σ 4 2)]) (σ' := σ) (by decide +kernel) rfl).trans ?_
    exact hb_r_iret (hb_fe_ok (r := (.ireturn, 1, 0, 0, 0, 0, 0)) (by decide +kernel))
  refine hb_swc (z := 5) (q := 87) ?_ ?_
  · refine (hb_blk [(.aload_n 0, 1, 0, 0, 0, 0, 0), (.getfield 18, 3, 11, 1, 0, 0, 0), (.getfield 158, 3, 10, 10, 0, 0, 0)] (pe := 94) (gs := []) (loc' := [.ref 13, .int x1]) (stk' := [.int (σ 0 10)]) (σ' := σ) (by decide +kernel) rfl).trans ?_
    refine hb_Si (hb_fe_ok (r := (.invokestatic 228, 3, 188, 1, 0, 0, 0)) (by decide +kernel)) (by decide) (by decide +kernel) (as := [.int (σ 0 10)]) (rest := []) rfl (Nat.le_of_ble_eq_true rfl) (fun y94 σ94 => ?_)
    exact hb_r_iret (hb_fe_ok (r := (.ireturn, 1, 0, 0, 0, 0, 0)) (by decide +kernel))
  refine hb_swc (z := 6) (q := 98) ?_ ?_
  · refine (hb_blk [(.aload_n 0, 1, 0, 0, 0, 0, 0), (.getfield 41, 3, 11, 4, 0, 0, 0), (.getfield 132, 3, 7, 3, 0, 0, 0)] (pe := 105) (gs := []) (loc' := [.ref 13, .int x1]) (stk' := [.int (σ 39 3)]) (σ' := σ) (by decide +kernel) rfl).trans ?_
    exact hb_r_iret (hb_fe_ok (r := (.ireturn, 1, 0, 0, 0, 0, 0)) (by decide +kernel))
  refine hb_swd 106 rfl ?_
  refine (hb_blk [(.ldc 89, 2, 0, 0, 0, (-1000001), 0)] (pe := 108) (gs := []) (loc' := [.ref 13, .int x1]) (stk' := [.int (-1000001)]) (σ' := σ) (by decide +kernel) rfl).trans ?_
  exact hb_r_iret (hb_fe_ok (r := (.ireturn, 1, 0, 0, 0, 0, 0)) (by decide +kernel))
set_option maxRecDepth 8000 in
theorem e104_0  (σ : hbM) : hb_run hbSH 104 (0, [.ref 13], [], σ) = some (some (.int (σ 13 9)), σ) := by
  refine (hb_blk [(.aload_n 0, 1, 0, 0, 0, 0, 0), (.getfield 265, 3, 11, 9, 0, 0, 0)] (pe := 4) (gs := []) (loc' := [.ref 13]) (stk' := [.int (σ 13 9)]) (σ' := σ) (by decide +kernel) rfl).trans ?_
  exact hb_r_iret (hb_fe_ok (r := (.ireturn, 1, 0, 0, 0, 0, 0)) (by decide +kernel))
set_option maxRecDepth 8000 in
theorem e105_0  (σ : hbM) (x1 : Int32) : hb_run hbSH 105 (0, [.ref 13, .int x1], [], σ) = some (some (.int ((-1000010 : Int32) - x1)), (hb_up σ 13 9 x1)) := by
  refine (hb_blk [(.aload_n 0, 1, 0, 0, 0, 0, 0), (.iload_n 1, 1, 1, 0, 0, 0, 0), (.putfield 265, 3, 11, 9, 0, 0, 0), (.ldc_w 268, 3, 0, 0, 0, (-1000010), 0), (.iload_n 1, 1, 1, 0, 0, 0, 0), (.isub, 1, 0, 0, 0, 0, 0)] (pe := 10) (gs := []) (loc' := [.ref 13, .int x1]) (stk' := [.int ((-1000010 : Int32) - x1)]) (σ' := (hb_up σ 13 9 x1)) (by decide +kernel) rfl).trans ?_
  exact hb_r_iret (hb_fe_ok (r := (.ireturn, 1, 0, 0, 0, 0, 0)) (by decide +kernel))
set_option maxRecDepth 8000 in
theorem e106_0  (σ : hbM) (x1 : Int32) : hb_run hbSH 106 (0, [.ref 13, .int x1], [], σ) = some (some (.int x1), (hb_up σ 13 9 0)) := by
  refine (hb_blk [(.aload_n 0, 1, 0, 0, 0, 0, 0), (.iconst 0, 1, 0, 0, 0, 0, 0), (.putfield 265, 3, 11, 9, 0, 0, 0), (.iload_n 1, 1, 1, 0, 0, 0, 0)] (pe := 6) (gs := []) (loc' := [.ref 13, .int x1]) (stk' := [.int x1]) (σ' := (hb_up σ 13 9 0)) (by decide +kernel) rfl).trans ?_
  exact hb_r_iret (hb_fe_ok (r := (.ireturn, 1, 0, 0, 0, 0, 0)) (by decide +kernel))
set_option maxRecDepth 8000 in
theorem e108_0  (σ : hbM) (x0 : Int32) : hb_run hbSH 108 (0, [.int x0], [], σ) = hb_ci (hb_ev hbSH 110 [.int x0, .int 8] σ) (fun y3 σ3 => hb_g [hb_01 y3] (some (some (.int y3), σ3))) := by
  refine (hb_blk [(.iload_n 0, 1, 0, 0, 0, 0, 0), (.bipush 8, 2, 0, 0, 0, 8, 0)] (pe := 3) (gs := []) (loc' := [.int x0]) (stk' := [.int 8, .int x0]) (σ' := σ) (by decide +kernel) rfl).trans ?_
  refine hb_Si (hb_fe_ok (r := (.invokestatic 85, 3, 110, 2, 0, 0, 0)) (by decide +kernel)) (by decide) (by decide +kernel) (as := [.int x0, .int 8]) (rest := []) rfl (Nat.le_of_ble_eq_true rfl) (fun y3 σ3 => ?_)
  exact hb_r_zret (hb_fe_ok (r := (.ireturn, 1, 0, 0, 1, 0, 0)) (by decide +kernel))
set_option maxRecDepth 8000 in
theorem e109_0  (σ : hbM) (x0 : Int32) : hb_run hbSH 109 (0, [.int x0], [], σ) = hb_ci (hb_ev hbSH 110 [.int x0, .int 1024] σ) (fun y4 σ4 => hb_g [hb_01 y4] (some (some (.int y4), σ4))) := by
  refine (hb_blk [(.iload_n 0, 1, 0, 0, 0, 0, 0), (.sipush 1024, 3, 0, 0, 0, 1024, 0)] (pe := 4) (gs := []) (loc' := [.int x0]) (stk' := [.int 1024, .int x0]) (σ' := σ) (by decide +kernel) rfl).trans ?_
  refine hb_Si (hb_fe_ok (r := (.invokestatic 85, 3, 110, 2, 0, 0, 0)) (by decide +kernel)) (by decide) (by decide +kernel) (as := [.int x0, .int 1024]) (rest := []) rfl (Nat.le_of_ble_eq_true rfl) (fun y4 σ4 => ?_)
  exact hb_r_zret (hb_fe_ok (r := (.ireturn, 1, 0, 0, 1, 0, 0)) (by decide +kernel))
