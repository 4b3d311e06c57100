/-! equations of the small machine, printed by wip/whole/gen_eqs.py -/
set_option maxRecDepth 8000 in
theorem e0_0  (σ : hbM) (x1 : Int32) : hb_run hbSH 0 (0, [.ref 53, .int x1, .null, .null, .null], [], σ) = hb_cv (hb_ev hbSH 27 [.ref 44] (hb_up (hb_up σ 53 2 (-1000000)) 53 3 (-1000000))) (fun σ16 => hb_cv (hb_ev hbSH 2 [.ref 53, .int x1, .int 0] (hb_up σ16 53 7 0)) (fun σ27 => hb_run hbSH 0 (32, [.ref 53, .int x1, .int 0, .null, .null], [], σ27))) := by
  refine (hb_blk [(.aload_n 0, 1, 0, 0, 0, 0, 0), (.ldc 40, 2, 0, 0, 0, (-1000000), 0), (.putfield 41, 3, 0, 2, 0, 0, 0), (.aload_n 0, 1, 0, 0, 0, 0, 0), (.ldc 40, 2, 0, 0, 0, (-1000000), 0), (.putfield 45, 3, 0, 3, 0, 0, 0), (.aload_n 0, 1, 0, 0, 0, 0, 0), (.getfield 15, 3, 0, 1, 0, 0, 0)] (pe := 16) (gs := []) (loc' := [.ref 53, .int x1, .null, .null, .null]) (stk' := [.ref 44]) (σ' := (hb_up (hb_up σ 53 2 (-1000000)) 53 3 (-1000000))) (by decide +kernel) rfl).trans ?_
  refine hb_Vv (hb_fe_ok (r := (.invokevirtual 48, 3, 27, 0, 0, 0, 0)) (by decide +kernel)) (by decide +kernel) (as := []) (v := .ref 44) (rest := []) rfl rfl (Nat.le_of_ble_eq_true rfl) (fun σ16 => ?_)
  refine (hb_blk [(.aload_n 0, 1, 0, 0, 0, 0, 0), (.iconst 0, 1, 0, 0, 0, 0, 0), (.putfield 51, 3, 0, 7, 0, 0, 0), (.aload_n 0, 1, 0, 0, 0, 0, 0), (.iload_n 1, 1, 1, 0, 0, 0, 0), (.iconst 0, 1, 0, 0, 0, 0, 0)] (pe := 27) (gs := []) (loc' := [.ref 53, .int x1, .null, .null, .null]) (stk' := [.int 0, .int x1, .ref 53]) (σ' := (hb_up σ16 53 7 0)) (by decide +kernel) rfl).trans ?_
  refine hb_Vv (hb_fe_ok (r := (.invokevirtual 54, 3, 2, 2, 0, 0, 0)) (by decide +kernel)) (by decide +kernel) (as := [.int x1, .int 0]) (v := .ref 53) (rest := []) rfl rfl (Nat.le_of_ble_eq_true rfl) (fun σ27 => ?_)
  refine (hb_blk [(.iconst 0, 1, 0, 0, 0, 0, 0), (.istore_n 2, 1, 2, 0, 0, 0, 0)] (pe := 32) (gs := []) (loc' := [.ref 53, .int x1, .int 0, .null, .null]) (stk' := []) (σ' := σ27) (by decide +kernel) rfl).trans ?_
  exact rfl
set_option maxRecDepth 8000 in
theorem e0_32  (σ : hbM) (x1 : Int32) (x2 : Int32) (v3 : Value) (v4 : Value) : hb_run hbSH 0 (32, [.ref 53, .int x1, .int x2, v3, v4], [], σ) = if ((17408 : Int32) ≤ x2) then (some (none, σ)) else (if ((σ 53 7) ≤ (0 : Int32)) then (some (none, σ)) else (if (¬ (σ 53 2) = (-1000000 : Int32)) then (some (none, σ)) else (hb_ci (hb_ev hbSH 3 [.ref 53] σ) (fun y56 σ56 => hb_g [hb_in y56 17408, decide (¬ (1024 : Int32) = 0), hb_in (y56 - y56 / (1024 : Int32) * (1024 : Int32)) 1024] (if ((σ56 11 (Int32.toNatClampNeg (y56 - y56 / (1024 : Int32) * (1024 : Int32)))) = (0 : Int32)) then (hb_cv (hb_ev hbSH 1 [.ref 53, .int y56, .int (σ56 47 (Int32.toNatClampNeg y56))] σ56) (fun σ126 => hb_run hbSH 0 (32, [.ref 53, .int x1, .int (x2 + (1 : Int32)), .int y56, .int (σ56 47 (Int32.toNatClampNeg y56))], [], σ126))) else (hb_g [decide (¬ (128 : Int32) = 0)] (if (¬ (σ56 47 (Int32.toNatClampNeg y56)) = (0 : Int32)) then (hb_g [decide (¬ (128 : Int32) = 0)] (hb_run hbSH 0 (32, [.ref 53, .int x1, .int (x2 + (1 : Int32)), .int y56, .int (σ56 47 (Int32.toNatClampNeg y56))], [], (hb_up (hb_up σ56 53 2 ((σ56 47 (Int32.toNatClampNeg y56)) / (128 : Int32))) 53 3 (((σ56 47 (Int32.toNatClampNeg y56)) - (σ56 47 (Int32.toNatClampNeg y56)) / (128 : Int32) * (128 : Int32)) - (1 : Int32)))))) else (hb_run hbSH 0 (32, [.ref 53, .int x1, .int (x2 + (1 : Int32)), .int y56, .int (σ56 47 (Int32.toNatClampNeg y56))], [], (hb_up (hb_up σ56 53 2 ((σ56 47 (Int32.toNatClampNeg y56)) / (128 : Int32))) 53 3 (-1000000))))))))))) := by
  refine (hb_blk [(.iload_n 2, 1, 2, 0, 0, 0, 0), (.sipush 17408, 3, 0, 0, 0, 17408, 0)] (pe := 36) (gs := []) (loc' := [.ref 53, .int x1, .int x2, v3, v4]) (stk' := [.int 17408, .int x2]) (σ' := σ) (by decide +kernel) rfl).trans ?_
  refine hb_br (hb_fe_ok (r := (.if_icmp .ge 99, 3, 135, 0, 0, 0, 0)) (by decide +kernel)) rfl ?_ ?_
  · exact hb_r_vret (hb_fe_ok (r := (.return_, 1, 0, 0, 0, 0, 0)) (by decide +kernel))
  · refine (hb_blk [(.aload_n 0, 1, 0, 0, 0, 0, 0), (.getfield 51, 3, 0, 7, 0, 0, 0)] (pe := 43) (gs := []) (loc' := [.ref 53, .int x1, .int x2, v3, v4]) (stk' := [.int (σ 53 7)]) (σ' := σ) (by decide +kernel) rfl).trans ?_
    refine hb_br0 (hb_fe_ok (r := (.ifCond .le 92, 3, 135, 0, 0, 0, 0)) (by decide +kernel)) rfl ?_ ?_
    · exact hb_r_vret (hb_fe_ok (r := (.return_, 1, 0, 0, 0, 0, 0)) (by decide +kernel))
    · refine (hb_blk [(.aload_n 0, 1, 0, 0, 0, 0, 0), (.getfield 41, 3, 0, 2, 0, 0, 0), (.ldc 40, 2, 0, 0, 0, (-1000000), 0)] (pe := 52) (gs := []) (loc' := [.ref 53, .int x1, .int x2, v3, v4]) (stk' := [.int (-1000000), .int (σ 53 2)]) (σ' := σ) (by decide +kernel) rfl).trans ?_
      refine hb_br (hb_fe_ok (r := (.if_icmp .ne 83, 3, 135, 0, 0, 0, 0)) (by decide +kernel)) rfl ?_ ?_
      · exact hb_r_vret (hb_fe_ok (r := (.return_, 1, 0, 0, 0, 0, 0)) (by decide +kernel))
      · refine (hb_blk [(.aload_n 0, 1, 0, 0, 0, 0, 0)] (pe := 56) (gs := []) (loc' := [.ref 53, .int x1, .int x2, v3, v4]) (stk' := [.ref 53]) (σ' := σ) (by decide +kernel) rfl).trans ?_
        refine hb_Vi (hb_fe_ok (r := (.invokevirtual 58, 3, 3, 0, 0, 0, 0)) (by decide +kernel)) (by decide +kernel) (as := []) (v := .ref 53) (rest := []) rfl rfl (Nat.le_of_ble_eq_true rfl) (fun y56 σ56 => ?_)
        refine (hb_blk [(.istore_n 3, 1, 3, 0, 0, 0, 0), (.aload_n 0, 1, 0, 0, 0, 0, 0), (.getfield 37, 3, 0, 6, 0, 0, 0), (.iload_n 3, 1, 3, 0, 0, 0, 0), (.iaload, 1, 0, 0, 0, 0, 0), (.istore 4, 2, 4, 0, 0, 0, 0), (.aload_n 0, 1, 0, 0, 0, 0, 0), (.getfield 9, 3, 0, 0, 0, 0, 0), (.getfield 62, 3, 1, 0, 0, 0, 0), (.getfield 68, 3, 10, 6, 0, 0, 0), (.iload_n 3, 1, 3, 0, 0, 0, 0), (.sipush 1024, 3, 0, 0, 0, 1024, 0), (.irem, 1, 0, 0, 0, 0, 0), (.baload, 1, 0, 0, 0, 0, 0)] (pe := 84) (gs := [hb_in y56 17408, decide (¬ (1024 : Int32) = 0), hb_in (y56 - y56 / (1024 : Int32) * (1024 : Int32)) 1024]) (loc' := [.ref 53, .int x1, .int x2, .int y56, .int (σ56 47 (Int32.toNatClampNeg y56))]) (stk' := [.int (σ56 11 (Int32.toNatClampNeg (y56 - y56 / (1024 : Int32) * (1024 : Int32))))]) (σ' := σ56) (by decide +kernel) rfl).trans ?_
        refine congrArg (hb_g _) ?_
        refine hb_br0 (hb_fe_ok (r := (.ifCond .eq 38, 3, 122, 0, 0, 0, 0)) (by decide +kernel)) rfl ?_ ?_
        · refine (hb_blk [(.aload_n 0, 1, 0, 0, 0, 0, 0), (.iload_n 3, 1, 3, 0, 0, 0, 0), (.iload 4, 2, 4, 0, 0, 0, 0)] (pe := 126) (gs := []) (loc' := [.ref 53, .int x1, .int x2, .int y56, .int (σ56 47 (Int32.toNatClampNeg y56))]) (stk' := [.int (σ56 47 (Int32.toNatClampNeg y56)), .int y56, .ref 53]) (σ' := σ56) (by decide +kernel) rfl).trans ?_
          refine hb_Vv (hb_fe_ok (r := (.invokevirtual 74, 3, 1, 2, 0, 0, 0)) (by decide +kernel)) (by decide +kernel) (as := [.int y56, .int (σ56 47 (Int32.toNatClampNeg y56))]) (v := .ref 53) (rest := []) rfl rfl (Nat.le_of_ble_eq_true rfl) (fun σ126 => ?_)
          refine (hb_blk [(.iinc 2 1, 3, 2, 0, 0, 1, 0)] (pe := 132) (gs := []) (loc' := [.ref 53, .int x1, .int (x2 + (1 : Int32)), .int y56, .int (σ56 47 (Int32.toNatClampNeg y56))]) (stk' := []) (σ' := σ126) (by decide +kernel) rfl).trans ?_
          refine (hb_r_goto (hb_fe_ok (r := (.goto (-100), 3, 32, 0, 0, 0, 0)) (by decide +kernel))).trans ?_
          exact rfl
        · refine (hb_blk [(.aload_n 0, 1, 0, 0, 0, 0, 0), (.iload 4, 2, 4, 0, 0, 0, 0), (.sipush 128, 3, 0, 0, 0, 128, 0), (.idiv, 1, 0, 0, 0, 0, 0), (.putfield 41, 3, 0, 2, 0, 0, 0), (.aload_n 0, 1, 0, 0, 0, 0, 0), (.iload 4, 2, 4, 0, 0, 0, 0)] (pe := 100) (gs := [decide (¬ (128 : Int32) = 0)]) (loc' := [.ref 53, .int x1, .int x2, .int y56, .int (σ56 47 (Int32.toNatClampNeg y56))]) (stk' := [.int (σ56 47 (Int32.toNatClampNeg y56)), .ref 53]) (σ' := (hb_up σ56 53 2 ((σ56 47 (Int32.toNatClampNeg y56)) / (128 : Int32)))) (by decide +kernel) rfl).trans ?_
          refine congrArg (hb_g _) ?_
          refine hb_br0 (hb_fe_ok (r := (.ifCond .ne 8, 3, 108, 0, 0, 0, 0)) (by decide +kernel)) rfl ?_ ?_
          · refine (hb_blk [(.iload 4, 2, 4, 0, 0, 0, 0), (.sipush 128, 3, 0, 0, 0, 128, 0), (.irem, 1, 0, 0, 0, 0, 0), (.iconst 1, 1, 0, 0, 0, 1, 0), (.isub, 1, 0, 0, 0, 0, 0)] (pe := 116) (gs := [decide (¬ (128 : Int32) = 0)]) (loc' := [.ref 53, .int x1, .int x2, .int y56, .int (σ56 47 (Int32.toNatClampNeg y56))]) (stk' := [.int (((σ56 47 (Int32.toNatClampNeg y56)) - (σ56 47 (Int32.toNatClampNeg y56)) / (128 : Int32) * (128 : Int32)) - (1 : Int32)), .ref 53]) (σ' := (hb_up σ56 53 2 ((σ56 47 (Int32.toNatClampNeg y56)) / (128 : Int32)))) (by decide +kernel) rfl).trans ?_
            refine congrArg (hb_g _) ?_
            refine (hb_blk [(.putfield 45, 3, 0, 3, 0, 0, 0)] (pe := 119) (gs := []) (loc' := [.ref 53, .int x1, .int x2, .int y56, .int (σ56 47 (Int32.toNatClampNeg y56))]) (stk' := []) (σ' := (hb_up (hb_up σ56 53 2 ((σ56 47 (Int32.toNatClampNeg y56)) / (128 : Int32))) 53 3 (((σ56 47 (Int32.toNatClampNeg y56)) - (σ56 47 (Int32.toNatClampNeg y56)) / (128 : Int32) * (128 : Int32)) - (1 : Int32)))) (by decide +kernel) rfl).trans ?_
            refine (hb_r_goto (hb_fe_ok (r := (.goto 10, 3, 129, 0, 0, 0, 0)) (by decide +kernel))).trans ?_
            refine (hb_blk [(.iinc 2 1, 3, 2, 0, 0, 1, 0)] (pe := 132) (gs := []) (loc' := [.ref 53, .int x1, .int (x2 + (1 : Int32)), .int y56, .int (σ56 47 (Int32.toNatClampNeg y56))]) (stk' := []) (σ' := (hb_up (hb_up σ56 53 2 ((σ56 47 (Int32.toNatClampNeg y56)) / (128 : Int32))) 53 3 (((σ56 47 (Int32.toNatClampNeg y56)) - (σ56 47 (Int32.toNatClampNeg y56)) / (128 : Int32) * (128 : Int32)) - (1 : Int32)))) (by decide +kernel) rfl).trans ?_
            refine (hb_r_goto (hb_fe_ok (r := (.goto (-100), 3, 32, 0, 0, 0, 0)) (by decide +kernel))).trans ?_
            exact rfl
          · refine (hb_blk [(.ldc 40, 2, 0, 0, 0, (-1000000), 0)] (pe := 105) (gs := []) (loc' := [.ref 53, .int x1, .int x2, .int y56, .int (σ56 47 (Int32.toNatClampNeg y56))]) (stk' := [.int (-1000000), .ref 53]) (σ' := (hb_up σ56 53 2 ((σ56 47 (Int32.toNatClampNeg y56)) / (128 : Int32)))) (by decide +kernel) rfl).trans ?_
            refine (hb_r_goto (hb_fe_ok (r := (.goto 11, 3, 116, 0, 0, 0, 0)) (by decide +kernel))).trans ?_
            refine (hb_blk [(.putfield 45, 3, 0, 3, 0, 0, 0)] (pe := 119) (gs := []) (loc' := [.ref 53, .int x1, .int x2, .int y56, .int (σ56 47 (Int32.toNatClampNeg y56))]) (stk' := []) (σ' := (hb_up (hb_up σ56 53 2 ((σ56 47 (Int32.toNatClampNeg y56)) / (128 : Int32))) 53 3 (-1000000))) (by decide +kernel) rfl).trans ?_
            refine (hb_r_goto (hb_fe_ok (r := (.goto 10, 3, 129, 0, 0, 0, 0)) (by decide +kernel))).trans ?_
            refine (hb_blk [(.iinc 2 1, 3, 2, 0, 0, 1, 0)] (pe := 132) (gs := []) (loc' := [.ref 53, .int x1, .int (x2 + (1 : Int32)), .int y56, .int (σ56 47 (Int32.toNatClampNeg y56))]) (stk' := []) (σ' := (hb_up (hb_up σ56 53 2 ((σ56 47 (Int32.toNatClampNeg y56)) / (128 : Int32))) 53 3 (-1000000))) (by decide +kernel) rfl).trans ?_
            refine (hb_r_goto (hb_fe_ok (r := (.goto (-100), 3, 32, 0, 0, 0, 0)) (by decide +kernel))).trans ?_
            exact rfl
set_option maxRecDepth 8000 in
theorem e1_0  (σ : hbM) (x1 : Int32) (x2 : Int32) : hb_run hbSH 1 (0, [.ref 53, .int x1, .int x2, .null, .null, .null], [], σ) = hb_ci (hb_ev hbSH 8 [.ref 36, .int x1] σ) (fun y6 σ6 => hb_cv (hb_ev hbSH 2 [.ref 53, .int y6, .int x2] σ6) (fun σ10 => hb_run hbSH 1 (15, [.ref 53, .int x1, .int x2, .int 0, .null, .null], [], σ10))) := by
  refine (hb_blk [(.aload_n 0, 1, 0, 0, 0, 0, 0), (.aload_n 0, 1, 0, 0, 0, 0, 0), (.getfield 9, 3, 0, 0, 0, 0, 0), (.iload_n 1, 1, 1, 0, 0, 0, 0)] (pe := 6) (gs := []) (loc' := [.ref 53, .int x1, .int x2, .null, .null, .null]) (stk' := [.int x1, .ref 36, .ref 53]) (σ' := σ) (by decide +kernel) rfl).trans ?_
  refine hb_Vi (hb_fe_ok (r := (.invokevirtual 77, 3, 8, 1, 0, 0, 0)) (by decide +kernel)) (by decide +kernel) (as := [.int x1]) (v := .ref 36) (rest := [.ref 53]) rfl rfl (Nat.le_of_ble_eq_true rfl) (fun y6 σ6 => ?_)
  refine (hb_blk [(.iload_n 2, 1, 2, 0, 0, 0, 0)] (pe := 10) (gs := []) (loc' := [.ref 53, .int x1, .int x2, .null, .null, .null]) (stk' := [.int x2, .int y6, .ref 53]) (σ' := σ6) (by decide +kernel) rfl).trans ?_
  refine hb_Vv (hb_fe_ok (r := (.invokevirtual 54, 3, 2, 2, 0, 0, 0)) (by decide +kernel)) (by decide +kernel) (as := [.int y6, .int x2]) (v := .ref 53) (rest := []) rfl rfl (Nat.le_of_ble_eq_true rfl) (fun σ10 => ?_)
  refine (hb_blk [(.iconst 0, 1, 0, 0, 0, 0, 0), (.istore_n 3, 1, 3, 0, 0, 0, 0)] (pe := 15) (gs := []) (loc' := [.ref 53, .int x1, .int x2, .int 0, .null, .null]) (stk' := []) (σ' := σ10) (by decide +kernel) rfl).trans ?_
  exact rfl
set_option maxRecDepth 8000 in
theorem e1_15  (σ : hbM) (x1 : Int32) (x2 : Int32) (x3 : Int32) (v4 : Value) (v5 : Value) : hb_run hbSH 1 (15, [.ref 53, .int x1, .int x2, .int x3, v4, v5], [], σ) = if ((4 : Int32) ≤ x3) then (some (none, σ)) else (hb_g [hb_in x3 4] (if (¬ x2 = (0 : Int32)) then (hb_run hbSH 1 (56, [.ref 53, .int x1, .int x2, .int x3, .int (x2 + ((σ 38 (Int32.toNatClampNeg x3)) * (128 : Int32))), v5], [.int 0], σ)) else (hb_g [decide (¬ (1024 : Int32) = 0)] (hb_run hbSH 1 (56, [.ref 53, .int x1, .int x2, .int x3, .int (x2 + ((σ 38 (Int32.toNatClampNeg x3)) * (128 : Int32))), v5], [.int ((((4 : Int32) * (x1 / (1024 : Int32))) + x3) + (1 : Int32))], σ))))) := by
  refine (hb_blk [(.iload_n 3, 1, 3, 0, 0, 0, 0), (.iconst 4, 1, 0, 0, 0, 4, 0)] (pe := 17) (gs := []) (loc' := [.ref 53, .int x1, .int x2, .int x3, v4, v5]) (stk' := [.int 4, .int x3]) (σ' := σ) (by decide +kernel) rfl).trans ?_
  refine hb_br (hb_fe_ok (r := (.if_icmp .ge 65, 3, 82, 0, 0, 0, 0)) (by decide +kernel)) rfl ?_ ?_
  · exact hb_r_vret (hb_fe_ok (r := (.return_, 1, 0, 0, 0, 0, 0)) (by decide +kernel))
  · refine (hb_blk [(.iload_n 2, 1, 2, 0, 0, 0, 0), (.aload_n 0, 1, 0, 0, 0, 0, 0), (.getfield 9, 3, 0, 0, 0, 0, 0), (.getfield 81, 3, 1, 3, 0, 0, 0), (.iload_n 3, 1, 3, 0, 0, 0, 0), (.iaload, 1, 0, 0, 0, 0, 0), (.sipush 128, 3, 0, 0, 0, 128, 0), (.imul, 1, 0, 0, 0, 0, 0), (.iadd, 1, 0, 0, 0, 0, 0), (.istore 4, 2, 4, 0, 0, 0, 0), (.iload_n 2, 1, 2, 0, 0, 0, 0)] (pe := 38) (gs := [hb_in x3 4]) (loc' := [.ref 53, .int x1, .int x2, .int x3, .int (x2 + ((σ 38 (Int32.toNatClampNeg x3)) * (128 : Int32))), v5]) (stk' := [.int x2]) (σ' := σ) (by decide +kernel) rfl).trans ?_
    refine congrArg (hb_g _) ?_
    refine hb_br0 (hb_fe_ok (r := (.ifCond .ne 17, 3, 55, 0, 0, 0, 0)) (by decide +kernel)) rfl ?_ ?_
    · refine (hb_blk [(.iconst 0, 1, 0, 0, 0, 0, 0)] (pe := 56) (gs := []) (loc' := [.ref 53, .int x1, .int x2, .int x3, .int (x2 + ((σ 38 (Int32.toNatClampNeg x3)) * (128 : Int32))), v5]) (stk' := [.int 0]) (σ' := σ) (by decide +kernel) rfl).trans ?_
      exact rfl
    · refine (hb_blk [(.iconst 4, 1, 0, 0, 0, 4, 0), (.iload_n 1, 1, 1, 0, 0, 0, 0), (.sipush 1024, 3, 0, 0, 0, 1024, 0), (.idiv, 1, 0, 0, 0, 0, 0), (.imul, 1, 0, 0, 0, 0, 0), (.iload_n 3, 1, 3, 0, 0, 0, 0), (.iadd, 1, 0, 0, 0, 0, 0), (.iconst 1, 1, 0, 0, 0, 1, 0), (.iadd, 1, 0, 0, 0, 0, 0)] (pe := 52) (gs := [decide (¬ (1024 : Int32) = 0)]) (loc' := [.ref 53, .int x1, .int x2, .int x3, .int (x2 + ((σ 38 (Int32.toNatClampNeg x3)) * (128 : Int32))), v5]) (stk' := [.int ((((4 : Int32) * (x1 / (1024 : Int32))) + x3) + (1 : Int32))]) (σ' := σ) (by decide +kernel) rfl).trans ?_
      refine congrArg (hb_g _) ?_
      refine (hb_r_goto (hb_fe_ok (r := (.goto 4, 3, 56, 0, 0, 0, 0)) (by decide +kernel))).trans ?_
      exact rfl
set_option maxRecDepth 8000 in
theorem e1_56  (σ : hbM) (x1 : Int32) (x2 : Int32) (x3 : Int32) (x4 : Int32) (v5 : Value) (s0 : Int32) : hb_run hbSH 1 (56, [.ref 53, .int x1, .int x2, .int x3, .int x4, v5], [.int s0], σ) = hb_ci (hb_ev hbSH 10 [.ref 36, .int x1, .int x3] σ) (fun y65 σ65 => hb_cv (hb_ev hbSH 2 [.ref 53, .int y65, .int (x4 + s0)] σ65) (fun σ73 => hb_run hbSH 1 (15, [.ref 53, .int x1, .int x2, .int (x3 + (1 : Int32)), .int x4, .int s0], [], σ73))) := by
  refine (hb_blk [(.istore 5, 2, 5, 0, 0, 0, 0), (.aload_n 0, 1, 0, 0, 0, 0, 0), (.aload_n 0, 1, 0, 0, 0, 0, 0), (.getfield 9, 3, 0, 0, 0, 0, 0), (.iload_n 1, 1, 1, 0, 0, 0, 0), (.iload_n 3, 1, 3, 0, 0, 0, 0)] (pe := 65) (gs := []) (loc' := [.ref 53, .int x1, .int x2, .int x3, .int x4, .int s0]) (stk' := [.int x3, .int x1, .ref 36, .ref 53]) (σ' := σ) (by decide +kernel) rfl).trans ?_
  refine hb_Vi (hb_fe_ok (r := (.invokevirtual 84, 3, 10, 2, 0, 0, 0)) (by decide +kernel)) (by decide +kernel) (as := [.int x1, .int x3]) (v := .ref 36) (rest := [.ref 53]) rfl rfl (Nat.le_of_ble_eq_true rfl) (fun y65 σ65 => ?_)
  refine (hb_blk [(.iload 4, 2, 4, 0, 0, 0, 0), (.iload 5, 2, 5, 0, 0, 0, 0), (.iadd, 1, 0, 0, 0, 0, 0)] (pe := 73) (gs := []) (loc' := [.ref 53, .int x1, .int x2, .int x3, .int x4, .int s0]) (stk' := [.int (x4 + s0), .int y65, .ref 53]) (σ' := σ65) (by decide +kernel) rfl).trans ?_
  refine hb_Vv (hb_fe_ok (r := (.invokevirtual 54, 3, 2, 2, 0, 0, 0)) (by decide +kernel)) (by decide +kernel) (as := [.int y65, .int (x4 + s0)]) (v := .ref 53) (rest := []) rfl rfl (Nat.le_of_ble_eq_true rfl) (fun σ73 => ?_)
  refine (hb_blk [(.iinc 3 1, 3, 3, 0, 0, 1, 0)] (pe := 79) (gs := []) (loc' := [.ref 53, .int x1, .int x2, .int (x3 + (1 : Int32)), .int x4, .int s0]) (stk' := []) (σ' := σ73) (by decide +kernel) rfl).trans ?_
  refine (hb_r_goto (hb_fe_ok (r := (.goto (-64), 3, 15, 0, 0, 0, 0)) (by decide +kernel))).trans ?_
  exact rfl
set_option maxRecDepth 8000 in
theorem e2_0  (σ : hbM) (x1 : Int32) (x2 : Int32) : hb_run hbSH 2 (0, [.ref 53, .int x1, .int x2], [], σ) = if (¬ x1 = (-1000000 : Int32)) then (hb_ci (hb_ev hbSH 28 [.ref 44, .int x1, .int 0] σ) (fun y13 σ13 => if (y13 = (0 : Int32)) then (hb_g [hb_in x1 17408] (if ((σ13 46 (Int32.toNatClampNeg x1)) = (-1 : Int32)) then (some (none, σ13)) else (hb_g [hb_in x1 17408] (if ((σ13 47 (Int32.toNatClampNeg x1)) ≤ x2) then (some (none, σ13)) else (hb_g [hb_in x1 17408, hb_in x1 17408] (hb_cv (hb_ev hbSH 4 [.ref 53, .int (σ13 46 (Int32.toNatClampNeg x1)), .int x1] (hb_up σ13 47 (Int32.toNatClampNeg x1) x2)) (fun σ85 => some (none, σ85)))))))) else (hb_g [hb_in x1 17408] (hb_cv (hb_ev hbSH 4 [.ref 53, .int (((σ13 53 7) + (1 : Int32)) - (1 : Int32)), .int x1] (hb_up (hb_up σ13 47 (Int32.toNatClampNeg x1) x2) 53 7 ((σ13 53 7) + (1 : Int32)))) (fun σ44 => some (none, σ44)))))) else (some (none, σ)) := by
  refine (hb_blk [(.iload_n 1, 1, 1, 0, 0, 0, 0), (.ldc 40, 2, 0, 0, 0, (-1000000), 0)] (pe := 3) (gs := []) (loc' := [.ref 53, .int x1, .int x2]) (stk' := [.int (-1000000), .int x1]) (σ' := σ) (by decide +kernel) rfl).trans ?_
  refine hb_br (hb_fe_ok (r := (.if_icmp .ne 4, 3, 7, 0, 0, 0, 0)) (by decide +kernel)) rfl ?_ ?_
  · refine (hb_blk [(.aload_n 0, 1, 0, 0, 0, 0, 0), (.getfield 15, 3, 0, 1, 0, 0, 0), (.iload_n 1, 1, 1, 0, 0, 0, 0), (.iconst 0, 1, 0, 0, 0, 0, 0)] (pe := 13) (gs := []) (loc' := [.ref 53, .int x1, .int x2]) (stk' := [.int 0, .int x1, .ref 44]) (σ' := σ) (by decide +kernel) rfl).trans ?_
    refine hb_Vi (hb_fe_ok (r := (.invokevirtual 88, 3, 28, 2, 0, 0, 0)) (by decide +kernel)) (by decide +kernel) (as := [.int x1, .int 0]) (v := .ref 44) (rest := []) rfl rfl (Nat.le_of_ble_eq_true rfl) (fun y13 σ13 => ?_)
    refine hb_br0 (hb_fe_ok (r := (.ifCond .eq 34, 3, 50, 0, 0, 0, 0)) (by decide +kernel)) rfl ?_ ?_
    · refine (hb_blk [(.aload_n 0, 1, 0, 0, 0, 0, 0), (.getfield 31, 3, 0, 5, 0, 0, 0), (.iload_n 1, 1, 1, 0, 0, 0, 0), (.iaload, 1, 0, 0, 0, 0, 0), (.iconst (-1), 1, 0, 0, 0, (-1), 0)] (pe := 57) (gs := [hb_in x1 17408]) (loc' := [.ref 53, .int x1, .int x2]) (stk' := [.int (-1), .int (σ13 46 (Int32.toNatClampNeg x1))]) (σ' := σ13) (by decide +kernel) rfl).trans ?_
      refine congrArg (hb_g _) ?_
      refine hb_br (hb_fe_ok (r := (.if_icmp .eq 31, 3, 88, 0, 0, 0, 0)) (by decide +kernel)) rfl ?_ ?_
      · exact hb_r_vret (hb_fe_ok (r := (.return_, 1, 0, 0, 0, 0, 0)) (by decide +kernel))
      · refine (hb_blk [(.iload_n 2, 1, 2, 0, 0, 0, 0), (.aload_n 0, 1, 0, 0, 0, 0, 0), (.getfield 37, 3, 0, 6, 0, 0, 0), (.iload_n 1, 1, 1, 0, 0, 0, 0), (.iaload, 1, 0, 0, 0, 0, 0)] (pe := 67) (gs := [hb_in x1 17408]) (loc' := [.ref 53, .int x1, .int x2]) (stk' := [.int (σ13 47 (Int32.toNatClampNeg x1)), .int x2]) (σ' := σ13) (by decide +kernel) rfl).trans ?_
        refine congrArg (hb_g _) ?_
        refine hb_br (hb_fe_ok (r := (.if_icmp .ge 21, 3, 88, 0, 0, 0, 0)) (by decide +kernel)) rfl ?_ ?_
        · exact hb_r_vret (hb_fe_ok (r := (.return_, 1, 0, 0, 0, 0, 0)) (by decide +kernel))
        · refine (hb_blk [(.aload_n 0, 1, 0, 0, 0, 0, 0), (.getfield 37, 3, 0, 6, 0, 0, 0), (.iload_n 1, 1, 1, 0, 0, 0, 0), (.iload_n 2, 1, 2, 0, 0, 0, 0), (.iastore, 1, 0, 0, 0, 0, 0), (.aload_n 0, 1, 0, 0, 0, 0, 0), (.aload_n 0, 1, 0, 0, 0, 0, 0), (.getfield 31, 3, 0, 5, 0, 0, 0), (.iload_n 1, 1, 1, 0, 0, 0, 0), (.iaload, 1, 0, 0, 0, 0, 0), (.iload_n 1, 1, 1, 0, 0, 0, 0)] (pe := 85) (gs := [hb_in x1 17408, hb_in x1 17408]) (loc' := [.ref 53, .int x1, .int x2]) (stk' := [.int x1, .int (σ13 46 (Int32.toNatClampNeg x1)), .ref 53]) (σ' := (hb_up σ13 47 (Int32.toNatClampNeg x1) x2)) (by decide +kernel) rfl).trans ?_
          refine congrArg (hb_g _) ?_
          refine hb_Vv (hb_fe_ok (r := (.invokevirtual 92, 3, 4, 2, 0, 0, 0)) (by decide +kernel)) (by decide +kernel) (as := [.int (σ13 46 (Int32.toNatClampNeg x1)), .int x1]) (v := .ref 53) (rest := []) rfl rfl (Nat.le_of_ble_eq_true rfl) (fun σ85 => ?_)
          exact hb_r_vret (hb_fe_ok (r := (.return_, 1, 0, 0, 0, 0, 0)) (by decide +kernel))
    · refine (hb_blk [(.aload_n 0, 1, 0, 0, 0, 0, 0), (.getfield 37, 3, 0, 6, 0, 0, 0), (.iload_n 1, 1, 1, 0, 0, 0, 0), (.iload_n 2, 1, 2, 0, 0, 0, 0), (.iastore, 1, 0, 0, 0, 0, 0), (.aload_n 0, 1, 0, 0, 0, 0, 0), (.dup, 1, 0, 0, 0, 0, 0), (.getfield 51, 3, 0, 7, 0, 0, 0), (.iconst 1, 1, 0, 0, 0, 1, 0), (.iadd, 1, 0, 0, 0, 0, 0), (.putfield 51, 3, 0, 7, 0, 0, 0), (.aload_n 0, 1, 0, 0, 0, 0, 0), (.aload_n 0, 1, 0, 0, 0, 0, 0), (.getfield 51, 3, 0, 7, 0, 0, 0), (.iconst 1, 1, 0, 0, 0, 1, 0), (.isub, 1, 0, 0, 0, 0, 0), (.iload_n 1, 1, 1, 0, 0, 0, 0)] (pe := 44) (gs := [hb_in x1 17408]) (loc' := [.ref 53, .int x1, .int x2]) (stk' := [.int x1, .int (((σ13 53 7) + (1 : Int32)) - (1 : Int32)), .ref 53]) (σ' := (hb_up (hb_up σ13 47 (Int32.toNatClampNeg x1) x2) 53 7 ((σ13 53 7) + (1 : Int32)))) (by decide +kernel) rfl).trans ?_
      refine congrArg (hb_g _) ?_
      refine hb_Vv (hb_fe_ok (r := (.invokevirtual 92, 3, 4, 2, 0, 0, 0)) (by decide +kernel)) (by decide +kernel) (as := [.int (((σ13 53 7) + (1 : Int32)) - (1 : Int32)), .int x1]) (v := .ref 53) (rest := []) rfl rfl (Nat.le_of_ble_eq_true rfl) (fun σ44 => ?_)
      refine (hb_r_goto (hb_fe_ok (r := (.goto 41, 3, 88, 0, 0, 0, 0)) (by decide +kernel))).trans ?_
      exact hb_r_vret (hb_fe_ok (r := (.return_, 1, 0, 0, 0, 0, 0)) (by decide +kernel))
  · exact hb_r_vret (hb_fe_ok (r := (.return_, 1, 0, 0, 0, 0, 0)) (by decide +kernel))
set_option maxRecDepth 8000 in
theorem e3_0  (σ : hbM) : hb_run hbSH 3 (0, [.ref 53, .null], [], σ) = hb_g [hb_in 0 17408, hb_in (σ 45 (Int32.toNatClampNeg 0)) 17408] (if (((σ 53 7) - (1 : Int32)) ≤ (0 : Int32)) then (some (some (.int (σ 45 (Int32.toNatClampNeg 0))), (hb_up (hb_up σ 46 (Int32.toNatClampNeg (σ 45 (Int32.toNatClampNeg 0))) (-1)) 53 7 ((σ 53 7) - (1 : Int32))))) else (hb_g [hb_in ((σ 53 7) - (1 : Int32)) 17408] (hb_cv (hb_ev hbSH 5 [.ref 53, .int (σ 45 (Int32.toNatClampNeg ((σ 53 7) - (1 : Int32))))] (hb_up (hb_up σ 46 (Int32.toNatClampNeg (σ 45 (Int32.toNatClampNeg 0))) (-1)) 53 7 ((σ 53 7) - (1 : Int32)))) (fun σ41 => some (some (.int (σ 45 (Int32.toNatClampNeg 0))), σ41))))) := by
  refine (hb_blk [(.aload_n 0, 1, 0, 0, 0, 0, 0), (.getfield 25, 3, 0, 4, 0, 0, 0), (.iconst 0, 1, 0, 0, 0, 0, 0), (.iaload, 1, 0, 0, 0, 0, 0), (.istore_n 1, 1, 1, 0, 0, 0, 0), (.aload_n 0, 1, 0, 0, 0, 0, 0), (.getfield 31, 3, 0, 5, 0, 0, 0), (.iload_n 1, 1, 1, 0, 0, 0, 0), (.iconst (-1), 1, 0, 0, 0, (-1), 0), (.iastore, 1, 0, 0, 0, 0, 0), (.aload_n 0, 1, 0, 0, 0, 0, 0), (.dup, 1, 0, 0, 0, 0, 0), (.getfield 51, 3, 0, 7, 0, 0, 0), (.iconst 1, 1, 0, 0, 0, 1, 0), (.isub, 1, 0, 0, 0, 0, 0), (.putfield 51, 3, 0, 7, 0, 0, 0), (.aload_n 0, 1, 0, 0, 0, 0, 0), (.getfield 51, 3, 0, 7, 0, 0, 0)] (pe := 28) (gs := [hb_in 0 17408, hb_in (σ 45 (Int32.toNatClampNeg 0)) 17408]) (loc' := [.ref 53, .int (σ 45 (Int32.toNatClampNeg 0))]) (stk' := [.int ((σ 53 7) - (1 : Int32))]) (σ' := (hb_up (hb_up σ 46 (Int32.toNatClampNeg (σ 45 (Int32.toNatClampNeg 0))) (-1)) 53 7 ((σ 53 7) - (1 : Int32)))) (by decide +kernel) rfl).trans ?_
  refine congrArg (hb_g _) ?_
  refine hb_br0 (hb_fe_ok (r := (.ifCond .le 16, 3, 44, 0, 0, 0, 0)) (by decide +kernel)) rfl ?_ ?_
  · refine (hb_blk [(.iload_n 1, 1, 1, 0, 0, 0, 0)] (pe := 45) (gs := []) (loc' := [.ref 53, .int (σ 45 (Int32.toNatClampNeg 0))]) (stk' := [.int (σ 45 (Int32.toNatClampNeg 0))]) (σ' := (hb_up (hb_up σ 46 (Int32.toNatClampNeg (σ 45 (Int32.toNatClampNeg 0))) (-1)) 53 7 ((σ 53 7) - (1 : Int32)))) (by decide +kernel) rfl).trans ?_
    exact hb_r_iret (hb_fe_ok (r := (.ireturn, 1, 0, 0, 0, 0, 0)) (by decide +kernel))
  · refine (hb_blk [(.aload_n 0, 1, 0, 0, 0, 0, 0), (.aload_n 0, 1, 0, 0, 0, 0, 0), (.getfield 25, 3, 0, 4, 0, 0, 0), (.aload_n 0, 1, 0, 0, 0, 0, 0), (.getfield 51, 3, 0, 7, 0, 0, 0), (.iaload, 1, 0, 0, 0, 0, 0)] (pe := 41) (gs := [hb_in ((σ 53 7) - (1 : Int32)) 17408]) (loc' := [.ref 53, .int (σ 45 (Int32.toNatClampNeg 0))]) (stk' := [.int (σ 45 (Int32.toNatClampNeg ((σ 53 7) - (1 : Int32)))), .ref 53]) (σ' := (hb_up (hb_up σ 46 (Int32.toNatClampNeg (σ 45 (Int32.toNatClampNeg 0))) (-1)) 53 7 ((σ 53 7) - (1 : Int32)))) (by decide +kernel) rfl).trans ?_
    refine congrArg (hb_g _) ?_
    refine hb_Vv (hb_fe_ok (r := (.invokevirtual 95, 3, 5, 1, 0, 0, 0)) (by decide +kernel)) (by decide +kernel) (as := [.int (σ 45 (Int32.toNatClampNeg ((σ 53 7) - (1 : Int32))))]) (v := .ref 53) (rest := []) rfl rfl (Nat.le_of_ble_eq_true rfl) (fun σ41 => ?_)
    refine (hb_blk [(.iload_n 1, 1, 1, 0, 0, 0, 0)] (pe := 45) (gs := []) (loc' := [.ref 53, .int (σ 45 (Int32.toNatClampNeg 0))]) (stk' := [.int (σ 45 (Int32.toNatClampNeg 0))]) (σ' := σ41) (by decide +kernel) rfl).trans ?_
    exact hb_r_iret (hb_fe_ok (r := (.ireturn, 1, 0, 0, 0, 0, 0)) (by decide +kernel))
set_option maxRecDepth 8000 in
theorem e4_0  (σ : hbM) (x1 : Int32) (x2 : Int32) : hb_run hbSH 4 (0, [.ref 53, .int x1, .int x2, .null], [], σ) = hb_run hbSH 4 (2, [.ref 53, .int x1, .int x2, .int x1], [], σ) := by
  refine (hb_blk [(.iload_n 1, 1, 1, 0, 0, 0, 0), (.istore_n 3, 1, 3, 0, 0, 0, 0)] (pe := 2) (gs := []) (loc' := [.ref 53, .int x1, .int x2, .int x1]) (stk' := []) (σ' := σ) (by decide +kernel) rfl).trans ?_
  exact rfl
set_option maxRecDepth 8000 in
theorem e4_2  (σ : hbM) (x1 : Int32) (x2 : Int32) (x3 : Int32) : hb_run hbSH 4 (2, [.ref 53, .int x1, .int x2, .int x3], [], σ) = if (x3 ≤ (0 : Int32)) then (hb_run hbSH 4 (54, [.ref 53, .int x1, .int x2, .int x3], [], σ)) else (hb_g [decide (¬ (2 : Int32) = 0), hb_in ((x3 - (1 : Int32)) / (2 : Int32)) 17408, hb_in (σ 45 (Int32.toNatClampNeg ((x3 - (1 : Int32)) / (2 : Int32)))) 17408, hb_in x2 17408] (if ((σ 47 (Int32.toNatClampNeg (σ 45 (Int32.toNatClampNeg ((x3 - (1 : Int32)) / (2 : Int32)))))) ≤ (σ 47 (Int32.toNatClampNeg x2))) then (hb_run hbSH 4 (54, [.ref 53, .int x1, .int x2, .int x3], [], σ)) else (hb_g [decide (¬ (2 : Int32) = 0), hb_in ((x3 - (1 : Int32)) / (2 : Int32)) 17408] (hb_cv (hb_ev hbSH 7 [.ref 53, .int (σ 45 (Int32.toNatClampNeg ((x3 - (1 : Int32)) / (2 : Int32)))), .int x3] σ) (fun σ42 => hb_g [decide (¬ (2 : Int32) = 0)] (hb_run hbSH 4 (2, [.ref 53, .int x1, .int x2, .int ((x3 - (1 : Int32)) / (2 : Int32))], [], σ42))))))) := by
  refine (hb_blk [(.iload_n 3, 1, 3, 0, 0, 0, 0)] (pe := 3) (gs := []) (loc' := [.ref 53, .int x1, .int x2, .int x3]) (stk' := [.int x3]) (σ' := σ) (by decide +kernel) rfl).trans ?_
  refine hb_br0 (hb_fe_ok (r := (.ifCond .le 51, 3, 54, 0, 0, 0, 0)) (by decide +kernel)) rfl ?_ ?_
  · exact rfl
  · refine (hb_blk [(.aload_n 0, 1, 0, 0, 0, 0, 0), (.getfield 37, 3, 0, 6, 0, 0, 0), (.aload_n 0, 1, 0, 0, 0, 0, 0), (.getfield 25, 3, 0, 4, 0, 0, 0), (.iload_n 3, 1, 3, 0, 0, 0, 0), (.iconst 1, 1, 0, 0, 0, 1, 0), (.isub, 1, 0, 0, 0, 0, 0), (.iconst 2, 1, 0, 0, 0, 2, 0), (.idiv, 1, 0, 0, 0, 0, 0), (.iaload, 1, 0, 0, 0, 0, 0), (.iaload, 1, 0, 0, 0, 0, 0), (.aload_n 0, 1, 0, 0, 0, 0, 0), (.getfield 37, 3, 0, 6, 0, 0, 0), (.iload_n 2, 1, 2, 0, 0, 0, 0), (.iaload, 1, 0, 0, 0, 0, 0)] (pe := 27) (gs := [decide (¬ (2 : Int32) = 0), hb_in ((x3 - (1 : Int32)) / (2 : Int32)) 17408, hb_in (σ 45 (Int32.toNatClampNeg ((x3 - (1 : Int32)) / (2 : Int32)))) 17408, hb_in x2 17408]) (loc' := [.ref 53, .int x1, .int x2, .int x3]) (stk' := [.int (σ 47 (Int32.toNatClampNeg x2)), .int (σ 47 (Int32.toNatClampNeg (σ 45 (Int32.toNatClampNeg ((x3 - (1 : Int32)) / (2 : Int32))))))]) (σ' := σ) (by decide +kernel) rfl).trans ?_
    refine congrArg (hb_g _) ?_
    refine hb_br (hb_fe_ok (r := (.if_icmp .le 27, 3, 54, 0, 0, 0, 0)) (by decide +kernel)) rfl ?_ ?_
    · exact rfl
    · refine (hb_blk [(.aload_n 0, 1, 0, 0, 0, 0, 0), (.aload_n 0, 1, 0, 0, 0, 0, 0), (.getfield 25, 3, 0, 4, 0, 0, 0), (.iload_n 3, 1, 3, 0, 0, 0, 0), (.iconst 1, 1, 0, 0, 0, 1, 0), (.isub, 1, 0, 0, 0, 0, 0), (.iconst 2, 1, 0, 0, 0, 2, 0), (.idiv, 1, 0, 0, 0, 0, 0), (.iaload, 1, 0, 0, 0, 0, 0), (.iload_n 3, 1, 3, 0, 0, 0, 0)] (pe := 42) (gs := [decide (¬ (2 : Int32) = 0), hb_in ((x3 - (1 : Int32)) / (2 : Int32)) 17408]) (loc' := [.ref 53, .int x1, .int x2, .int x3]) (stk' := [.int x3, .int (σ 45 (Int32.toNatClampNeg ((x3 - (1 : Int32)) / (2 : Int32)))), .ref 53]) (σ' := σ) (by decide +kernel) rfl).trans ?_
      refine congrArg (hb_g _) ?_
      refine hb_Vv (hb_fe_ok (r := (.invokevirtual 99, 3, 7, 2, 0, 0, 0)) (by decide +kernel)) (by decide +kernel) (as := [.int (σ 45 (Int32.toNatClampNeg ((x3 - (1 : Int32)) / (2 : Int32)))), .int x3]) (v := .ref 53) (rest := []) rfl rfl (Nat.le_of_ble_eq_true rfl) (fun σ42 => ?_)
      refine (hb_blk [(.iload_n 3, 1, 3, 0, 0, 0, 0), (.iconst 1, 1, 0, 0, 0, 1, 0), (.isub, 1, 0, 0, 0, 0, 0), (.iconst 2, 1, 0, 0, 0, 2, 0), (.idiv, 1, 0, 0, 0, 0, 0), (.istore_n 3, 1, 3, 0, 0, 0, 0)] (pe := 51) (gs := [decide (¬ (2 : Int32) = 0)]) (loc' := [.ref 53, .int x1, .int x2, .int ((x3 - (1 : Int32)) / (2 : Int32))]) (stk' := []) (σ' := σ42) (by decide +kernel) rfl).trans ?_
      refine congrArg (hb_g _) ?_
      refine (hb_r_goto (hb_fe_ok (r := (.goto (-49), 3, 2, 0, 0, 0, 0)) (by decide +kernel))).trans ?_
      exact rfl
set_option maxRecDepth 8000 in
theorem e4_54  (σ : hbM) (x1 : Int32) (x2 : Int32) (x3 : Int32) : hb_run hbSH 4 (54, [.ref 53, .int x1, .int x2, .int x3], [], σ) = hb_cv (hb_ev hbSH 7 [.ref 53, .int x2, .int x3] σ) (fun σ57 => some (none, σ57)) := by
  refine (hb_blk [(.aload_n 0, 1, 0, 0, 0, 0, 0), (.iload_n 2, 1, 2, 0, 0, 0, 0), (.iload_n 3, 1, 3, 0, 0, 0, 0)] (pe := 57) (gs := []) (loc' := [.ref 53, .int x1, .int x2, .int x3]) (stk' := [.int x3, .int x2, .ref 53]) (σ' := σ) (by decide +kernel) rfl).trans ?_
  refine hb_Vv (hb_fe_ok (r := (.invokevirtual 99, 3, 7, 2, 0, 0, 0)) (by decide +kernel)) (by decide +kernel) (as := [.int x2, .int x3]) (v := .ref 53) (rest := []) rfl rfl (Nat.le_of_ble_eq_true rfl) (fun σ57 => ?_)
  exact hb_r_vret (hb_fe_ok (r := (.return_, 1, 0, 0, 0, 0, 0)) (by decide +kernel))
set_option maxRecDepth 8000 in
theorem e5_0  (σ : hbM) (x1 : Int32) : hb_run hbSH 5 (0, [.ref 53, .int x1, .null, .null], [], σ) = hb_ci (hb_ev hbSH 6 [.ref 53, .int 0] σ) (fun y4 σ4 => hb_run hbSH 5 (8, [.ref 53, .int x1, .int 0, .int y4], [], σ4)) := by
  refine (hb_blk [(.iconst 0, 1, 0, 0, 0, 0, 0), (.istore_n 2, 1, 2, 0, 0, 0, 0), (.aload_n 0, 1, 0, 0, 0, 0, 0), (.iload_n 2, 1, 2, 0, 0, 0, 0)] (pe := 4) (gs := []) (loc' := [.ref 53, .int x1, .int 0, .null]) (stk' := [.int 0, .ref 53]) (σ' := σ) (by decide +kernel) rfl).trans ?_
  refine hb_Vi (hb_fe_ok (r := (.invokevirtual 102, 3, 6, 1, 0, 0, 0)) (by decide +kernel)) (by decide +kernel) (as := [.int 0]) (v := .ref 53) (rest := []) rfl rfl (Nat.le_of_ble_eq_true rfl) (fun y4 σ4 => ?_)
  refine (hb_blk [(.istore_n 3, 1, 3, 0, 0, 0, 0)] (pe := 8) (gs := []) (loc' := [.ref 53, .int x1, .int 0, .int y4]) (stk' := []) (σ' := σ4) (by decide +kernel) rfl).trans ?_
  exact rfl
set_option maxRecDepth 8000 in
theorem e5_8  (σ : hbM) (x1 : Int32) (x2 : Int32) (x3 : Int32) : hb_run hbSH 5 (8, [.ref 53, .int x1, .int x2, .int x3], [], σ) = if ((σ 53 7) ≤ x3) then (hb_run hbSH 5 (58, [.ref 53, .int x1, .int x2, .int x3], [], σ)) else (hb_g [hb_in x3 17408, hb_in (σ 45 (Int32.toNatClampNeg x3)) 17408, hb_in x1 17408] (if ((σ 47 (Int32.toNatClampNeg x1)) ≤ (σ 47 (Int32.toNatClampNeg (σ 45 (Int32.toNatClampNeg x3))))) then (hb_run hbSH 5 (58, [.ref 53, .int x1, .int x2, .int x3], [], σ)) else (hb_g [hb_in x3 17408] (hb_cv (hb_ev hbSH 7 [.ref 53, .int (σ 45 (Int32.toNatClampNeg x3)), .int x2] σ) (fun σ44 => hb_ci (hb_ev hbSH 6 [.ref 53, .int x3] σ44) (fun y51 σ51 => hb_run hbSH 5 (8, [.ref 53, .int x1, .int x3, .int y51], [], σ51))))))) := by
  refine (hb_blk [(.iload_n 3, 1, 3, 0, 0, 0, 0), (.aload_n 0, 1, 0, 0, 0, 0, 0), (.getfield 51, 3, 0, 7, 0, 0, 0)] (pe := 13) (gs := []) (loc' := [.ref 53, .int x1, .int x2, .int x3]) (stk' := [.int (σ 53 7), .int x3]) (σ' := σ) (by decide +kernel) rfl).trans ?_
  refine hb_br (hb_fe_ok (r := (.if_icmp .ge 45, 3, 58, 0, 0, 0, 0)) (by decide +kernel)) rfl ?_ ?_
  · exact rfl
  · refine (hb_blk [(.aload_n 0, 1, 0, 0, 0, 0, 0), (.getfield 37, 3, 0, 6, 0, 0, 0), (.aload_n 0, 1, 0, 0, 0, 0, 0), (.getfield 25, 3, 0, 4, 0, 0, 0), (.iload_n 3, 1, 3, 0, 0, 0, 0), (.iaload, 1, 0, 0, 0, 0, 0), (.iaload, 1, 0, 0, 0, 0, 0), (.aload_n 0, 1, 0, 0, 0, 0, 0), (.getfield 37, 3, 0, 6, 0, 0, 0), (.iload_n 1, 1, 1, 0, 0, 0, 0), (.iaload, 1, 0, 0, 0, 0, 0)] (pe := 33) (gs := [hb_in x3 17408, hb_in (σ 45 (Int32.toNatClampNeg x3)) 17408, hb_in x1 17408]) (loc' := [.ref 53, .int x1, .int x2, .int x3]) (stk' := [.int (σ 47 (Int32.toNatClampNeg x1)), .int (σ 47 (Int32.toNatClampNeg (σ 45 (Int32.toNatClampNeg x3))))]) (σ' := σ) (by decide +kernel) rfl).trans ?_
    refine congrArg (hb_g _) ?_
    refine hb_br (hb_fe_ok (r := (.if_icmp .ge 25, 3, 58, 0, 0, 0, 0)) (by decide +kernel)) rfl ?_ ?_
    · exact rfl
    · refine (hb_blk [(.aload_n 0, 1, 0, 0, 0, 0, 0), (.aload_n 0, 1, 0, 0, 0, 0, 0), (.getfield 25, 3, 0, 4, 0, 0, 0), (.iload_n 3, 1, 3, 0, 0, 0, 0), (.iaload, 1, 0, 0, 0, 0, 0), (.iload_n 2, 1, 2, 0, 0, 0, 0)] (pe := 44) (gs := [hb_in x3 17408]) (loc' := [.ref 53, .int x1, .int x2, .int x3]) (stk' := [.int x2, .int (σ 45 (Int32.toNatClampNeg x3)), .ref 53]) (σ' := σ) (by decide +kernel) rfl).trans ?_
      refine congrArg (hb_g _) ?_
      refine hb_Vv (hb_fe_ok (r := (.invokevirtual 99, 3, 7, 2, 0, 0, 0)) (by decide +kernel)) (by decide +kernel) (as := [.int (σ 45 (Int32.toNatClampNeg x3)), .int x2]) (v := .ref 53) (rest := []) rfl rfl (Nat.le_of_ble_eq_true rfl) (fun σ44 => ?_)
      refine (hb_blk [(.iload_n 3, 1, 3, 0, 0, 0, 0), (.istore_n 2, 1, 2, 0, 0, 0, 0), (.aload_n 0, 1, 0, 0, 0, 0, 0), (.iload_n 2, 1, 2, 0, 0, 0, 0)] (pe := 51) (gs := []) (loc' := [.ref 53, .int x1, .int x3, .int x3]) (stk' := [.int x3, .ref 53]) (σ' := σ44) (by decide +kernel) rfl).trans ?_
      refine hb_Vi (hb_fe_ok (r := (.invokevirtual 102, 3, 6, 1, 0, 0, 0)) (by decide +kernel)) (by decide +kernel) (as := [.int x3]) (v := .ref 53) (rest := []) rfl rfl (Nat.le_of_ble_eq_true rfl) (fun y51 σ51 => ?_)
      refine (hb_blk [(.istore_n 3, 1, 3, 0, 0, 0, 0)] (pe := 55) (gs := []) (loc' := [.ref 53, .int x1, .int x3, .int y51]) (stk' := []) (σ' := σ51) (by decide +kernel) rfl).trans ?_
      refine (hb_r_goto (hb_fe_ok (r := (.goto (-47), 3, 8, 0, 0, 0, 0)) (by decide +kernel))).trans ?_
      exact rfl
set_option maxRecDepth 8000 in
theorem e5_58  (σ : hbM) (x1 : Int32) (x2 : Int32) (x3 : Int32) : hb_run hbSH 5 (58, [.ref 53, .int x1, .int x2, .int x3], [], σ) = hb_cv (hb_ev hbSH 7 [.ref 53, .int x1, .int x2] σ) (fun σ61 => some (none, σ61)) := by
  refine (hb_blk [(.aload_n 0, 1, 0, 0, 0, 0, 0), (.iload_n 1, 1, 1, 0, 0, 0, 0), (.iload_n 2, 1, 2, 0, 0, 0, 0)] (pe := 61) (gs := []) (loc' := [.ref 53, .int x1, .int x2, .int x3]) (stk' := [.int x2, .int x1, .ref 53]) (σ' := σ) (by decide +kernel) rfl).trans ?_
  refine hb_Vv (hb_fe_ok (r := (.invokevirtual 99, 3, 7, 2, 0, 0, 0)) (by decide +kernel)) (by decide +kernel) (as := [.int x1, .int x2]) (v := .ref 53) (rest := []) rfl rfl (Nat.le_of_ble_eq_true rfl) (fun σ61 => ?_)
  exact hb_r_vret (hb_fe_ok (r := (.return_, 1, 0, 0, 0, 0, 0)) (by decide +kernel))
set_option maxRecDepth 8000 in
theorem e6_0  (σ : hbM) (x1 : Int32) : hb_run hbSH 6 (0, [.ref 53, .int x1, .null, .null], [], σ) = if ((σ 53 7) ≤ ((((2 : Int32) * x1) + (1 : Int32)) + (1 : Int32))) then (some (some (.int (((2 : Int32) * x1) + (1 : Int32))), σ)) else (hb_g [hb_in ((((2 : Int32) * x1) + (1 : Int32)) + (1 : Int32)) 17408, hb_in (σ 45 (Int32.toNatClampNeg ((((2 : Int32) * x1) + (1 : Int32)) + (1 : Int32)))) 17408, hb_in (((2 : Int32) * x1) + (1 : Int32)) 17408, hb_in (σ 45 (Int32.toNatClampNeg (((2 : Int32) * x1) + (1 : Int32)))) 17408] (if ((σ 47 (Int32.toNatClampNeg (σ 45 (Int32.toNatClampNeg (((2 : Int32) * x1) + (1 : Int32)))))) ≤ (σ 47 (Int32.toNatClampNeg (σ 45 (Int32.toNatClampNeg ((((2 : Int32) * x1) + (1 : Int32)) + (1 : Int32))))))) then (some (some (.int (((2 : Int32) * x1) + (1 : Int32))), σ)) else (some (some (.int ((((2 : Int32) * x1) + (1 : Int32)) + (1 : Int32))), σ)))) := by
  refine (hb_blk [(.iconst 2, 1, 0, 0, 0, 2, 0), (.iload_n 1, 1, 1, 0, 0, 0, 0), (.imul, 1, 0, 0, 0, 0, 0), (.iconst 1, 1, 0, 0, 0, 1, 0), (.iadd, 1, 0, 0, 0, 0, 0), (.istore_n 2, 1, 2, 0, 0, 0, 0), (.iload_n 2, 1, 2, 0, 0, 0, 0), (.iconst 1, 1, 0, 0, 0, 1, 0), (.iadd, 1, 0, 0, 0, 0, 0), (.aload_n 0, 1, 0, 0, 0, 0, 0), (.getfield 51, 3, 0, 7, 0, 0, 0)] (pe := 13) (gs := []) (loc' := [.ref 53, .int x1, .int (((2 : Int32) * x1) + (1 : Int32)), .null]) (stk' := [.int (σ 53 7), .int ((((2 : Int32) * x1) + (1 : Int32)) + (1 : Int32))]) (σ' := σ) (by decide +kernel) rfl).trans ?_
  refine hb_br (hb_fe_ok (r := (.if_icmp .ge 34, 3, 47, 0, 0, 0, 0)) (by decide +kernel)) rfl ?_ ?_
  · refine (hb_blk [(.iconst 0, 1, 0, 0, 0, 0, 0)] (pe := 48) (gs := []) (loc' := [.ref 53, .int x1, .int (((2 : Int32) * x1) + (1 : Int32)), .null]) (stk' := [.int 0]) (σ' := σ) (by decide +kernel) rfl).trans ?_
    refine (hb_blk [(.istore_n 3, 1, 3, 0, 0, 0, 0), (.iload_n 3, 1, 3, 0, 0, 0, 0)] (pe := 50) (gs := []) (loc' := [.ref 53, .int x1, .int (((2 : Int32) * x1) + (1 : Int32)), .int 0]) (stk' := [.int 0]) (σ' := σ) (by decide +kernel) rfl).trans ?_
    refine hb_br0T (hb_fe_ok (r := (.ifCond .eq 9, 3, 59, 0, 0, 0, 0)) (by decide +kernel)) (by decide) ?_
    refine (hb_blk [(.iload_n 2, 1, 2, 0, 0, 0, 0)] (pe := 60) (gs := []) (loc' := [.ref 53, .int x1, .int (((2 : Int32) * x1) + (1 : Int32)), .int 0]) (stk' := [.int (((2 : Int32) * x1) + (1 : Int32))]) (σ' := σ) (by decide +kernel) rfl).trans ?_
    exact hb_r_iret (hb_fe_ok (r := (.ireturn, 1, 0, 0, 0, 0, 0)) (by decide +kernel))
  · refine (hb_blk [(.aload_n 0, 1, 0, 0, 0, 0, 0), (.getfield 37, 3, 0, 6, 0, 0, 0), (.aload_n 0, 1, 0, 0, 0, 0, 0), (.getfield 25, 3, 0, 4, 0, 0, 0), (.iload_n 2, 1, 2, 0, 0, 0, 0), (.iconst 1, 1, 0, 0, 0, 1, 0), (.iadd, 1, 0, 0, 0, 0, 0), (.iaload, 1, 0, 0, 0, 0, 0), (.iaload, 1, 0, 0, 0, 0, 0), (.aload_n 0, 1, 0, 0, 0, 0, 0), (.getfield 37, 3, 0, 6, 0, 0, 0), (.aload_n 0, 1, 0, 0, 0, 0, 0), (.getfield 25, 3, 0, 4, 0, 0, 0), (.iload_n 2, 1, 2, 0, 0, 0, 0), (.iaload, 1, 0, 0, 0, 0, 0), (.iaload, 1, 0, 0, 0, 0, 0)] (pe := 40) (gs := [hb_in ((((2 : Int32) * x1) + (1 : Int32)) + (1 : Int32)) 17408, hb_in (σ 45 (Int32.toNatClampNeg ((((2 : Int32) * x1) + (1 : Int32)) + (1 : Int32)))) 17408, hb_in (((2 : Int32) * x1) + (1 : Int32)) 17408, hb_in (σ 45 (Int32.toNatClampNeg (((2 : Int32) * x1) + (1 : Int32)))) 17408]) (loc' := [.ref 53, .int x1, .int (((2 : Int32) * x1) + (1 : Int32)), .null]) (stk' := [.int (σ 47 (Int32.toNatClampNeg (σ 45 (Int32.toNatClampNeg (((2 : Int32) * x1) + (1 : Int32)))))), .int (σ 47 (Int32.toNatClampNeg (σ 45 (Int32.toNatClampNeg ((((2 : Int32) * x1) + (1 : Int32)) + (1 : Int32))))))]) (σ' := σ) (by decide +kernel) rfl).trans ?_
    refine congrArg (hb_g _) ?_
    refine hb_br (hb_fe_ok (r := (.if_icmp .ge 7, 3, 47, 0, 0, 0, 0)) (by decide +kernel)) rfl ?_ ?_
    · refine (hb_blk [(.iconst 0, 1, 0, 0, 0, 0, 0)] (pe := 48) (gs := []) (loc' := [.ref 53, .int x1, .int (((2 : Int32) * x1) + (1 : Int32)), .null]) (stk' := [.int 0]) (σ' := σ) (by decide +kernel) rfl).trans ?_
      refine (hb_blk [(.istore_n 3, 1, 3, 0, 0, 0, 0), (.iload_n 3, 1, 3, 0, 0, 0, 0)] (pe := 50) (gs := []) (loc' := [.ref 53, .int x1, .int (((2 : Int32) * x1) + (1 : Int32)), .int 0]) (stk' := [.int 0]) (σ' := σ) (by decide +kernel) rfl).trans ?_
      refine hb_br0T (hb_fe_ok (r := (.ifCond .eq 9, 3, 59, 0, 0, 0, 0)) (by decide +kernel)) (by decide) ?_
      refine (hb_blk [(.iload_n 2, 1, 2, 0, 0, 0, 0)] (pe := 60) (gs := []) (loc' := [.ref 53, .int x1, .int (((2 : Int32) * x1) + (1 : Int32)), .int 0]) (stk' := [.int (((2 : Int32) * x1) + (1 : Int32))]) (σ' := σ) (by decide +kernel) rfl).trans ?_
      exact hb_r_iret (hb_fe_ok (r := (.ireturn, 1, 0, 0, 0, 0, 0)) (by decide +kernel))
    · refine (hb_blk [(.iconst 1, 1, 0, 0, 0, 1, 0)] (pe := 44) (gs := []) (loc' := [.ref 53, .int x1, .int (((2 : Int32) * x1) + (1 : Int32)), .null]) (stk' := [.int 1]) (σ' := σ) (by decide +kernel) rfl).trans ?_
      refine (hb_r_goto (hb_fe_ok (r := (.goto 4, 3, 48, 0, 0, 0, 0)) (by decide +kernel))).trans ?_
      refine (hb_blk [(.istore_n 3, 1, 3, 0, 0, 0, 0), (.iload_n 3, 1, 3, 0, 0, 0, 0)] (pe := 50) (gs := []) (loc' := [.ref 53, .int x1, .int (((2 : Int32) * x1) + (1 : Int32)), .int 1]) (stk' := [.int 1]) (σ' := σ) (by decide +kernel) rfl).trans ?_
      refine hb_br0F (hb_fe_ok (r := (.ifCond .eq 9, 3, 59, 0, 0, 0, 0)) (by decide +kernel)) (by decide) ?_
      refine (hb_blk [(.iload_n 2, 1, 2, 0, 0, 0, 0), (.iconst 1, 1, 0, 0, 0, 1, 0), (.iadd, 1, 0, 0, 0, 0, 0)] (pe := 56) (gs := []) (loc' := [.ref 53, .int x1, .int (((2 : Int32) * x1) + (1 : Int32)), .int 1]) (stk' := [.int ((((2 : Int32) * x1) + (1 : Int32)) + (1 : Int32))]) (σ' := σ) (by decide +kernel) rfl).trans ?_
      refine (hb_r_goto (hb_fe_ok (r := (.goto 4, 3, 60, 0, 0, 0, 0)) (by decide +kernel))).trans ?_
      exact hb_r_iret (hb_fe_ok (r := (.ireturn, 1, 0, 0, 0, 0, 0)) (by decide +kernel))
set_option maxRecDepth 8000 in
theorem e7_0  (σ : hbM) (x1 : Int32) (x2 : Int32) : hb_run hbSH 7 (0, [.ref 53, .int x1, .int x2], [], σ) = hb_g [hb_in x2 17408, hb_in x1 17408] (some (none, (hb_up (hb_up σ 45 (Int32.toNatClampNeg x2) x1) 46 (Int32.toNatClampNeg x1) x2))) := by
  refine (hb_blk [(.aload_n 0, 1, 0, 0, 0, 0, 0), (.getfield 25, 3, 0, 4, 0, 0, 0), (.iload_n 2, 1, 2, 0, 0, 0, 0), (.iload_n 1, 1, 1, 0, 0, 0, 0), (.iastore, 1, 0, 0, 0, 0, 0), (.aload_n 0, 1, 0, 0, 0, 0, 0), (.getfield 31, 3, 0, 5, 0, 0, 0), (.iload_n 1, 1, 1, 0, 0, 0, 0), (.iload_n 2, 1, 2, 0, 0, 0, 0), (.iastore, 1, 0, 0, 0, 0, 0)] (pe := 14) (gs := [hb_in x2 17408, hb_in x1 17408]) (loc' := [.ref 53, .int x1, .int x2]) (stk' := []) (σ' := (hb_up (hb_up σ 45 (Int32.toNatClampNeg x2) x1) 46 (Int32.toNatClampNeg x1) x2)) (by decide +kernel) rfl).trans ?_
  refine congrArg (hb_g _) ?_
  exact hb_r_vret (hb_fe_ok (r := (.return_, 1, 0, 0, 0, 0, 0)) (by decide +kernel))
set_option maxRecDepth 8000 in
theorem e8_0  (σ : hbM) (x1 : Int32) : hb_run hbSH 8 (0, [.ref 36, .int x1, .null, .null, .null, .null, .null], [], σ) = hb_g [decide (¬ (1024 : Int32) = 0), decide (¬ (1024 : Int32) = 0)] (hb_ci (hb_ev hbSH 32 [.ref 31, .int (x1 / (1024 : Int32))] σ) (fun y17 σ17 => if (¬ y17 = (0 : Int32)) then (hb_g [hb_in (x1 / (1024 : Int32)) 16, hb_in (x1 / (1024 : Int32)) 16] (hb_ci (hb_ev hbSH 70 [.int (σ17 34 (Int32.toNatClampNeg (x1 / (1024 : Int32)))), .int (x1 - x1 / (1024 : Int32) * (1024 : Int32))] σ17) (fun y54 σ54 => hb_g [hb_in (x1 / (1024 : Int32)) 16] (if ((σ54 32 (Int32.toNatClampNeg (x1 / (1024 : Int32)))) = 0) then (hb_ci (hb_ev hbSH 71 [.ref 0, .int (x1 - x1 / (1024 : Int32) * (1024 : Int32)), .int (σ17 33 (Int32.toNatClampNeg (x1 / (1024 : Int32)))), .int 1] σ54) (fun y116 σ116 => some (some (.int (((x1 + (1024 : Int32)) - (x1 - x1 / (1024 : Int32) * (1024 : Int32))) + y116)), σ116))) else (if ((σ54 32 (Int32.toNatClampNeg (x1 / (1024 : Int32)))) = 1) then (hb_ci (hb_ev hbSH 71 [.ref 0, .int (x1 - x1 / (1024 : Int32) * (1024 : Int32)), .int (σ17 33 (Int32.toNatClampNeg (x1 / (1024 : Int32)))), .int 0] σ54) (fun y133 σ133 => some (some (.int (((x1 + (1024 : Int32)) - (x1 - x1 / (1024 : Int32) * (1024 : Int32))) + y133)), σ133))) else (if ((σ54 32 (Int32.toNatClampNeg (x1 / (1024 : Int32)))) = 2) then (if (y54 = (0 : Int32)) then (hb_g [hb_in (x1 - x1 / (1024 : Int32) * (1024 : Int32)) 1024] (some (some (.int ((x1 - (x1 - x1 / (1024 : Int32) * (1024 : Int32))) + (σ54 10 (Int32.toNatClampNeg (x1 - x1 / (1024 : Int32) * (1024 : Int32)))))), σ54))) else (some (some (.int (x1 + (1024 : Int32))), σ54))) else (if ((σ54 32 (Int32.toNatClampNeg (x1 / (1024 : Int32)))) = 3) then (if (y54 = (0 : Int32)) then (some (some (.int (x1 + (1024 : Int32))), σ54)) else (some (some (.int (((σ17 33 (Int32.toNatClampNeg (x1 / (1024 : Int32)))) * (1024 : Int32)) + (x1 - x1 / (1024 : Int32) * (1024 : Int32)))), σ54))) else (if ((σ54 32 (Int32.toNatClampNeg (x1 / (1024 : Int32)))) = 4) then (some (some (.int (((σ17 33 (Int32.toNatClampNeg (x1 / (1024 : Int32)))) * (1024 : Int32)) + (x1 - x1 / (1024 : Int32) * (1024 : Int32)))), σ54)) else (some (some (.int (-1000000)), σ54)))))))))) else (some (some (.int (-1000000)), σ17)))) := by
  refine (hb_blk [(.iload_n 1, 1, 1, 0, 0, 0, 0), (.sipush 1024, 3, 0, 0, 0, 1024, 0), (.idiv, 1, 0, 0, 0, 0, 0), (.istore_n 2, 1, 2, 0, 0, 0, 0), (.iload_n 1, 1, 1, 0, 0, 0, 0), (.sipush 1024, 3, 0, 0, 0, 1024, 0), (.irem, 1, 0, 0, 0, 0, 0), (.istore_n 3, 1, 3, 0, 0, 0, 0), (.aload_n 0, 1, 0, 0, 0, 0, 0), (.getfield 23, 3, 1, 1, 0, 0, 0), (.iload_n 2, 1, 2, 0, 0, 0, 0)] (pe := 17) (gs := [decide (¬ (1024 : Int32) = 0), decide (¬ (1024 : Int32) = 0)]) (loc' := [.ref 36, .int x1, .int (x1 / (1024 : Int32)), .int (x1 - x1 / (1024 : Int32) * (1024 : Int32)), .null, .null, .null]) (stk' := [.int (x1 / (1024 : Int32)), .ref 31]) (σ' := σ) (by decide +kernel) rfl).trans ?_
  refine congrArg (hb_g _) ?_
  refine hb_Vi (hb_fe_ok (r := (.invokevirtual 27, 3, 32, 1, 0, 0, 0)) (by decide +kernel)) (by decide +kernel) (as := [.int (x1 / (1024 : Int32))]) (v := .ref 31) (rest := []) rfl rfl (Nat.le_of_ble_eq_true rfl) (fun y17 σ17 => ?_)
  refine hb_br0 (hb_fe_ok (r := (.ifCond .ne 6, 3, 26, 0, 0, 0, 0)) (by decide +kernel)) rfl ?_ ?_
  · refine (hb_blk [(.iload_n 1, 1, 1, 0, 0, 0, 0), (.sipush 1024, 3, 0, 0, 0, 1024, 0), (.iadd, 1, 0, 0, 0, 0, 0), (.istore 4, 2, 4, 0, 0, 0, 0), (.aload_n 0, 1, 0, 0, 0, 0, 0), (.getfield 23, 3, 1, 1, 0, 0, 0), (.getfield 33, 3, 6, 1, 0, 0, 0), (.iload_n 2, 1, 2, 0, 0, 0, 0), (.iaload, 1, 0, 0, 0, 0, 0), (.istore 5, 2, 5, 0, 0, 0, 0), (.aload_n 0, 1, 0, 0, 0, 0, 0), (.getfield 23, 3, 1, 1, 0, 0, 0), (.getfield 36, 3, 6, 2, 0, 0, 0), (.iload_n 2, 1, 2, 0, 0, 0, 0), (.iaload, 1, 0, 0, 0, 0, 0), (.iload_n 3, 1, 3, 0, 0, 0, 0)] (pe := 54) (gs := [hb_in (x1 / (1024 : Int32)) 16, hb_in (x1 / (1024 : Int32)) 16]) (loc' := [.ref 36, .int x1, .int (x1 / (1024 : Int32)), .int (x1 - x1 / (1024 : Int32) * (1024 : Int32)), .int (x1 + (1024 : Int32)), .int (σ17 33 (Int32.toNatClampNeg (x1 / (1024 : Int32)))), .null]) (stk' := [.int (x1 - x1 / (1024 : Int32) * (1024 : Int32)), .int (σ17 34 (Int32.toNatClampNeg (x1 / (1024 : Int32))))]) (σ' := σ17) (by decide +kernel) rfl).trans ?_
    refine congrArg (hb_g _) ?_
    refine hb_Si (hb_fe_ok (r := (.invokestatic 39, 3, 70, 2, 0, 0, 0)) (by decide +kernel)) (by decide) (by decide +kernel) (as := [.int (σ17 34 (Int32.toNatClampNeg (x1 / (1024 : Int32)))), .int (x1 - x1 / (1024 : Int32) * (1024 : Int32))]) (rest := []) rfl (Nat.le_of_ble_eq_true rfl) (fun y54 σ54 => ?_)
    refine (hb_blk [(.istore 6, 2, 6, 0, 0, 0, 0), (.aload_n 0, 1, 0, 0, 0, 0, 0), (.getfield 23, 3, 1, 1, 0, 0, 0), (.getfield 45, 3, 6, 0, 0, 0, 0), (.iload_n 2, 1, 2, 0, 0, 0, 0), (.iaload, 1, 0, 0, 0, 0, 0)] (pe := 68) (gs := [hb_in (x1 / (1024 : Int32)) 16]) (loc' := [.ref 36, .int x1, .int (x1 / (1024 : Int32)), .int (x1 - x1 / (1024 : Int32) * (1024 : Int32)), .int (x1 + (1024 : Int32)), .int (σ17 33 (Int32.toNatClampNeg (x1 / (1024 : Int32)))), .int y54]) (stk' := [.int (σ54 32 (Int32.toNatClampNeg (x1 / (1024 : Int32))))]) (σ' := σ54) (by decide +kernel) rfl).trans ?_
    refine congrArg (hb_g _) ?_
    refine hb_r_sw (hb_fe_ok (r := (.tableswitch 122 0 4 #[36, 53, 70, 94, 113], 36, 0, 0, 0, 0, 0)) (by decide +kernel)) ?_
    refine hb_swc (z := 0) (q := 104) ?_ ?_
    · refine (hb_blk [(.iload 4, 2, 4, 0, 0, 0, 0), (.iload_n 3, 1, 3, 0, 0, 0, 0), (.isub, 1, 0, 0, 0, 0, 0), (.aload_n 0, 1, 0, 0, 0, 0, 0), (.getfield 19, 3, 1, 0, 0, 0, 0), (.iload_n 3, 1, 3, 0, 0, 0, 0), (.iload 5, 2, 5, 0, 0, 0, 0), (.iconst 1, 1, 0, 0, 0, 1, 0)] (pe := 116) (gs := []) (loc' := [.ref 36, .int x1, .int (x1 / (1024 : Int32)), .int (x1 - x1 / (1024 : Int32) * (1024 : Int32)), .int (x1 + (1024 : Int32)), .int (σ17 33 (Int32.toNatClampNeg (x1 / (1024 : Int32)))), .int y54]) (stk' := [.int 1, .int (σ17 33 (Int32.toNatClampNeg (x1 / (1024 : Int32)))), .int (x1 - x1 / (1024 : Int32) * (1024 : Int32)), .ref 0, .int ((x1 + (1024 : Int32)) - (x1 - x1 / (1024 : Int32) * (1024 : Int32)))]) (σ' := σ54) (by decide +kernel) rfl).trans ?_
      refine hb_Vi (hb_fe_ok (r := (.invokevirtual 48, 3, 71, 3, 0, 0, 0)) (by decide +kernel)) (by decide +kernel) (as := [.int (x1 - x1 / (1024 : Int32) * (1024 : Int32)), .int (σ17 33 (Int32.toNatClampNeg (x1 / (1024 : Int32)))), .int 1]) (v := .ref 0) (rest := [.int ((x1 + (1024 : Int32)) - (x1 - x1 / (1024 : Int32) * (1024 : Int32)))]) rfl rfl (Nat.le_of_ble_eq_true rfl) (fun y116 σ116 => ?_)
      refine (hb_blk [(.iadd, 1, 0, 0, 0, 0, 0)] (pe := 120) (gs := []) (loc' := [.ref 36, .int x1, .int (x1 / (1024 : Int32)), .int (x1 - x1 / (1024 : Int32) * (1024 : Int32)), .int (x1 + (1024 : Int32)), .int (σ17 33 (Int32.toNatClampNeg (x1 / (1024 : Int32)))), .int y54]) (stk' := [.int (((x1 + (1024 : Int32)) - (x1 - x1 / (1024 : Int32) * (1024 : Int32))) + y116)]) (σ' := σ116) (by decide +kernel) rfl).trans ?_
      exact hb_r_iret (hb_fe_ok (r := (.ireturn, 1, 0, 0, 0, 0, 0)) (by decide +kernel))
    refine hb_swc (z := 1) (q := 121) ?_ ?_
    · refine (hb_blk [(.iload 4, 2, 4, 0, 0, 0, 0), (.iload_n 3, 1, 3, 0, 0, 0, 0), (.isub, 1, 0, 0, 0, 0, 0), (.aload_n 0, 1, 0, 0, 0, 0, 0), (.getfield 19, 3, 1, 0, 0, 0, 0), (.iload_n 3, 1, 3, 0, 0, 0, 0), (.iload 5, 2, 5, 0, 0, 0, 0), (.iconst 0, 1, 0, 0, 0, 0, 0)] (pe := 133) (gs := []) (loc' := [.ref 36, .int x1, .int (x1 / (1024 : Int32)), .int (x1 - x1 / (1024 : Int32) * (1024 : Int32)), .int (x1 + (1024 : Int32)), .int (σ17 33 (Int32.toNatClampNeg (x1 / (1024 : Int32)))), .int y54]) (stk' := [.int 0, .int (σ17 33 (Int32.toNatClampNeg (x1 / (1024 : Int32)))), .int (x1 - x1 / (1024 : Int32) * (1024 : Int32)), .ref 0, .int ((x1 + (1024 : Int32)) - (x1 - x1 / (1024 : Int32) * (1024 : Int32)))]) (σ' := σ54) (by decide +kernel) rfl).trans ?_
      refine hb_Vi (hb_fe_ok (r := (.invokevirtual 48, 3, 71, 3, 0, 0, 0)) (by decide +kernel)) (by decide +kernel) (as := [.int (x1 - x1 / (1024 : Int32) * (1024 : Int32)), .int (σ17 33 (Int32.toNatClampNeg (x1 / (1024 : Int32)))), .int 0]) (v := .ref 0) (rest := [.int ((x1 + (1024 : Int32)) - (x1 - x1 / (1024 : Int32) * (1024 : Int32)))]) rfl rfl (Nat.le_of_ble_eq_true rfl) (fun y133 σ133 => ?_)
      refine (hb_blk [(.iadd, 1, 0, 0, 0, 0, 0)] (pe := 137) (gs := []) (loc' := [.ref 36, .int x1, .int (x1 / (1024 : Int32)), .int (x1 - x1 / (1024 : Int32) * (1024 : Int32)), .int (x1 + (1024 : Int32)), .int (σ17 33 (Int32.toNatClampNeg (x1 / (1024 : Int32)))), .int y54]) (stk' := [.int (((x1 + (1024 : Int32)) - (x1 - x1 / (1024 : Int32) * (1024 : Int32))) + y133)]) (σ' := σ133) (by decide +kernel) rfl).trans ?_
      exact hb_r_iret (hb_fe_ok (r := (.ireturn, 1, 0, 0, 0, 0, 0)) (by decide +kernel))
    refine hb_swc (z := 2) (q := 138) ?_ ?_
    · refine (hb_blk [(.iload 6, 2, 6, 0, 0, 0, 0)] (pe := 140) (gs := []) (loc' := [.ref 36, .int x1, .int (x1 / (1024 : Int32)), .int (x1 - x1 / (1024 : Int32) * (1024 : Int32)), .int (x1 + (1024 : Int32)), .int (σ17 33 (Int32.toNatClampNeg (x1 / (1024 : Int32)))), .int y54]) (stk' := [.int y54]) (σ' := σ54) (by decide +kernel) rfl).trans ?_
      refine hb_br0 (hb_fe_ok (r := (.ifCond .eq 8, 3, 148, 0, 0, 0, 0)) (by decide +kernel)) rfl ?_ ?_
      · refine (hb_blk [(.iload_n 1, 1, 1, 0, 0, 0, 0), (.iload_n 3, 1, 3, 0, 0, 0, 0), (.isub, 1, 0, 0, 0, 0, 0), (.aload_n 0, 1, 0, 0, 0, 0, 0), (.getfield 19, 3, 1, 0, 0, 0, 0), (.getfield 52, 3, 10, 5, 0, 0, 0), (.iload_n 3, 1, 3, 0, 0, 0, 0), (.iaload, 1, 0, 0, 0, 0, 0), (.iadd, 1, 0, 0, 0, 0, 0)] (pe := 161) (gs := [hb_in (x1 - x1 / (1024 : Int32) * (1024 : Int32)) 1024]) (loc' := [.ref 36, .int x1, .int (x1 / (1024 : Int32)), .int (x1 - x1 / (1024 : Int32) * (1024 : Int32)), .int (x1 + (1024 : Int32)), .int (σ17 33 (Int32.toNatClampNeg (x1 / (1024 : Int32)))), .int y54]) (stk' := [.int ((x1 - (x1 - x1 / (1024 : Int32) * (1024 : Int32))) + (σ54 10 (Int32.toNatClampNeg (x1 - x1 / (1024 : Int32) * (1024 : Int32)))))]) (σ' := σ54) (by decide +kernel) rfl).trans ?_
        refine congrArg (hb_g _) ?_
        exact hb_r_iret (hb_fe_ok (r := (.ireturn, 1, 0, 0, 0, 0, 0)) (by decide +kernel))
      · refine (hb_blk [(.iload 4, 2, 4, 0, 0, 0, 0)] (pe := 145) (gs := []) (loc' := [.ref 36, .int x1, .int (x1 / (1024 : Int32)), .int (x1 - x1 / (1024 : Int32) * (1024 : Int32)), .int (x1 + (1024 : Int32)), .int (σ17 33 (Int32.toNatClampNeg (x1 / (1024 : Int32)))), .int y54]) (stk' := [.int (x1 + (1024 : Int32))]) (σ' := σ54) (by decide +kernel) rfl).trans ?_
        refine (hb_r_goto (hb_fe_ok (r := (.goto 16, 3, 161, 0, 0, 0, 0)) (by decide +kernel))).trans ?_
        exact hb_r_iret (hb_fe_ok (r := (.ireturn, 1, 0, 0, 0, 0, 0)) (by decide +kernel))
    refine hb_swc (z := 3) (q := 162) ?_ ?_
    · refine (hb_blk [(.iload 6, 2, 6, 0, 0, 0, 0)] (pe := 164) (gs := []) (loc' := [.ref 36, .int x1, .int (x1 / (1024 : Int32)), .int (x1 - x1 / (1024 : Int32) * (1024 : Int32)), .int (x1 + (1024 : Int32)), .int (σ17 33 (Int32.toNatClampNeg (x1 / (1024 : Int32)))), .int y54]) (stk' := [.int y54]) (σ' := σ54) (by decide +kernel) rfl).trans ?_
      refine hb_br0 (hb_fe_ok (r := (.ifCond .eq 14, 3, 178, 0, 0, 0, 0)) (by decide +kernel)) rfl ?_ ?_
      · refine (hb_blk [(.iload 4, 2, 4, 0, 0, 0, 0)] (pe := 180) (gs := []) (loc' := [.ref 36, .int x1, .int (x1 / (1024 : Int32)), .int (x1 - x1 / (1024 : Int32) * (1024 : Int32)), .int (x1 + (1024 : Int32)), .int (σ17 33 (Int32.toNatClampNeg (x1 / (1024 : Int32)))), .int y54]) (stk' := [.int (x1 + (1024 : Int32))]) (σ' := σ54) (by decide +kernel) rfl).trans ?_
        exact hb_r_iret (hb_fe_ok (r := (.ireturn, 1, 0, 0, 0, 0, 0)) (by decide +kernel))
      · refine (hb_blk [(.iload 5, 2, 5, 0, 0, 0, 0), (.sipush 1024, 3, 0, 0, 0, 1024, 0), (.imul, 1, 0, 0, 0, 0, 0), (.iload_n 3, 1, 3, 0, 0, 0, 0), (.iadd, 1, 0, 0, 0, 0, 0)] (pe := 175) (gs := []) (loc' := [.ref 36, .int x1, .int (x1 / (1024 : Int32)), .int (x1 - x1 / (1024 : Int32) * (1024 : Int32)), .int (x1 + (1024 : Int32)), .int (σ17 33 (Int32.toNatClampNeg (x1 / (1024 : Int32)))), .int y54]) (stk' := [.int (((σ17 33 (Int32.toNatClampNeg (x1 / (1024 : Int32)))) * (1024 : Int32)) + (x1 - x1 / (1024 : Int32) * (1024 : Int32)))]) (σ' := σ54) (by decide +kernel) rfl).trans ?_
        refine (hb_r_goto (hb_fe_ok (r := (.goto 5, 3, 180, 0, 0, 0, 0)) (by decide +kernel))).trans ?_
        exact hb_r_iret (hb_fe_ok (r := (.ireturn, 1, 0, 0, 0, 0, 0)) (by decide +kernel))
    refine hb_swc (z := 4) (q := 181) ?_ ?_
    · refine (hb_blk [(.iload 5, 2, 5, 0, 0, 0, 0), (.sipush 1024, 3, 0, 0, 0, 1024, 0), (.imul, 1, 0, 0, 0, 0, 0), (.iload_n 3, 1, 3, 0, 0, 0, 0), (.iadd, 1, 0, 0, 0, 0, 0)] (pe := 189) (gs := []) (loc' := [.ref 36, .int x1, .int (x1 / (1024 : Int32)), .int (x1 - x1 / (1024 : Int32) * (1024 : Int32)), .int (x1 + (1024 : Int32)), .int (σ17 33 (Int32.toNatClampNeg (x1 / (1024 : Int32)))), .int y54]) (stk' := [.int (((σ17 33 (Int32.toNatClampNeg (x1 / (1024 : Int32)))) * (1024 : Int32)) + (x1 - x1 / (1024 : Int32) * (1024 : Int32)))]) (σ' := σ54) (by decide +kernel) rfl).trans ?_
      exact hb_r_iret (hb_fe_ok (r := (.ireturn, 1, 0, 0, 0, 0, 0)) (by decide +kernel))
    refine hb_swd 190 rfl ?_
    refine (hb_blk [(.ldc 9, 2, 0, 0, 0, (-1000000), 0)] (pe := 192) (gs := []) (loc' := [.ref 36, .int x1, .int (x1 / (1024 : Int32)), .int (x1 - x1 / (1024 : Int32) * (1024 : Int32)), .int (x1 + (1024 : Int32)), .int (σ17 33 (Int32.toNatClampNeg (x1 / (1024 : Int32)))), .int y54]) (stk' := [.int (-1000000)]) (σ' := σ54) (by decide +kernel) rfl).trans ?_
    exact hb_r_iret (hb_fe_ok (r := (.ireturn, 1, 0, 0, 0, 0, 0)) (by decide +kernel))
  · refine (hb_blk [(.ldc 9, 2, 0, 0, 0, (-1000000), 0)] (pe := 25) (gs := []) (loc' := [.ref 36, .int x1, .int (x1 / (1024 : Int32)), .int (x1 - x1 / (1024 : Int32) * (1024 : Int32)), .null, .null, .null]) (stk' := [.int (-1000000)]) (σ' := σ17) (by decide +kernel) rfl).trans ?_
    exact hb_r_iret (hb_fe_ok (r := (.ireturn, 1, 0, 0, 0, 0, 0)) (by decide +kernel))
set_option maxRecDepth 8000 in
theorem e9_0  (σ : hbM) (x1 : Int32) : hb_run hbSH 9 (0, [.ref 36, .int x1, .null, .null], [], σ) = hb_g [decide (¬ (1024 : Int32) = 0)] (hb_ci (hb_ev hbSH 32 [.ref 31, .int (x1 / (1024 : Int32))] σ) (fun y11 σ11 => if (¬ y11 = (0 : Int32)) then (hb_g [hb_in (x1 / (1024 : Int32)) 16] (if (¬ (σ11 32 (Int32.toNatClampNeg (x1 / (1024 : Int32)))) = (2 : Int32)) then (hb_run hbSH 9 (37, [.ref 36, .int x1, .int (x1 / (1024 : Int32)), .null], [.int 0], σ11)) else (hb_run hbSH 9 (37, [.ref 36, .int x1, .int (x1 / (1024 : Int32)), .null], [.int 1], σ11)))) else (some (some (.int 0), σ11)))) := by
  refine (hb_blk [(.iload_n 1, 1, 1, 0, 0, 0, 0), (.sipush 1024, 3, 0, 0, 0, 1024, 0), (.idiv, 1, 0, 0, 0, 0, 0), (.istore_n 2, 1, 2, 0, 0, 0, 0), (.aload_n 0, 1, 0, 0, 0, 0, 0), (.getfield 23, 3, 1, 1, 0, 0, 0), (.iload_n 2, 1, 2, 0, 0, 0, 0)] (pe := 11) (gs := [decide (¬ (1024 : Int32) = 0)]) (loc' := [.ref 36, .int x1, .int (x1 / (1024 : Int32)), .null]) (stk' := [.int (x1 / (1024 : Int32)), .ref 31]) (σ' := σ) (by decide +kernel) rfl).trans ?_
  refine congrArg (hb_g _) ?_
  refine hb_Vi (hb_fe_ok (r := (.invokevirtual 27, 3, 32, 1, 0, 0, 0)) (by decide +kernel)) (by decide +kernel) (as := [.int (x1 / (1024 : Int32))]) (v := .ref 31) (rest := []) rfl rfl (Nat.le_of_ble_eq_true rfl) (fun y11 σ11 => ?_)
  refine hb_br0 (hb_fe_ok (r := (.ifCond .ne 5, 3, 19, 0, 0, 0, 0)) (by decide +kernel)) rfl ?_ ?_
  · refine (hb_blk [(.aload_n 0, 1, 0, 0, 0, 0, 0), (.getfield 23, 3, 1, 1, 0, 0, 0), (.getfield 45, 3, 6, 0, 0, 0, 0), (.iload_n 2, 1, 2, 0, 0, 0, 0), (.iaload, 1, 0, 0, 0, 0, 0), (.iconst 2, 1, 0, 0, 0, 2, 0)] (pe := 29) (gs := [hb_in (x1 / (1024 : Int32)) 16]) (loc' := [.ref 36, .int x1, .int (x1 / (1024 : Int32)), .null]) (stk' := [.int 2, .int (σ11 32 (Int32.toNatClampNeg (x1 / (1024 : Int32))))]) (σ' := σ11) (by decide +kernel) rfl).trans ?_
    refine congrArg (hb_g _) ?_
    refine hb_br (hb_fe_ok (r := (.if_icmp .ne 7, 3, 36, 0, 0, 0, 0)) (by decide +kernel)) rfl ?_ ?_
    · refine (hb_blk [(.iconst 0, 1, 0, 0, 0, 0, 0)] (pe := 37) (gs := []) (loc' := [.ref 36, .int x1, .int (x1 / (1024 : Int32)), .null]) (stk' := [.int 0]) (σ' := σ11) (by decide +kernel) rfl).trans ?_
      exact rfl
    · refine (hb_blk [(.iconst 1, 1, 0, 0, 0, 1, 0)] (pe := 33) (gs := []) (loc' := [.ref 36, .int x1, .int (x1 / (1024 : Int32)), .null]) (stk' := [.int 1]) (σ' := σ11) (by decide +kernel) rfl).trans ?_
      refine (hb_r_goto (hb_fe_ok (r := (.goto 4, 3, 37, 0, 0, 0, 0)) (by decide +kernel))).trans ?_
      exact rfl
  · refine (hb_blk [(.iconst 0, 1, 0, 0, 0, 0, 0)] (pe := 18) (gs := []) (loc' := [.ref 36, .int x1, .int (x1 / (1024 : Int32)), .null]) (stk' := [.int 0]) (σ' := σ11) (by decide +kernel) rfl).trans ?_
    exact hb_r_zret1 (hb_fe_ok (r := (.ireturn, 1, 0, 0, 1, 0, 0)) (by decide +kernel)) (by decide)
set_option maxRecDepth 8000 in
theorem e9_37  (σ : hbM) (x1 : Int32) (x2 : Int32) (s0 : Int32) : hb_run hbSH 9 (37, [.ref 36, .int x1, .int x2, .null], [.int s0], σ) = hb_ci (hb_ev hbSH 33 [.ref 31, .int x2] σ) (fun y43 σ43 => if (¬ y43 = (0 : Int32)) then (some (some (.int 1), σ43)) else (if (s0 = (0 : Int32)) then (some (some (.int 0), σ43)) else (hb_g [hb_in x2 16, decide (¬ (1024 : Int32) = 0)] (hb_ci (hb_ev hbSH 70 [.int (σ43 34 (Int32.toNatClampNeg x2)), .int (x1 - x1 / (1024 : Int32) * (1024 : Int32))] σ43) (fun y67 σ67 => if (¬ y67 = (0 : Int32)) then (some (some (.int 0), σ67)) else (some (some (.int 1), σ67))))))) := by
  refine (hb_blk [(.istore_n 3, 1, 3, 0, 0, 0, 0), (.aload_n 0, 1, 0, 0, 0, 0, 0), (.getfield 23, 3, 1, 1, 0, 0, 0), (.iload_n 2, 1, 2, 0, 0, 0, 0)] (pe := 43) (gs := []) (loc' := [.ref 36, .int x1, .int x2, .int s0]) (stk' := [.int x2, .ref 31]) (σ' := σ) (by decide +kernel) rfl).trans ?_
  refine hb_Vi (hb_fe_ok (r := (.invokevirtual 55, 3, 33, 1, 0, 0, 0)) (by decide +kernel)) (by decide +kernel) (as := [.int x2]) (v := .ref 31) (rest := []) rfl rfl (Nat.le_of_ble_eq_true rfl) (fun y43 σ43 => ?_)
  refine hb_br0 (hb_fe_ok (r := (.ifCond .ne 27, 3, 73, 0, 0, 0, 0)) (by decide +kernel)) rfl ?_ ?_
  · refine (hb_blk [(.iconst 1, 1, 0, 0, 0, 1, 0)] (pe := 74) (gs := []) (loc' := [.ref 36, .int x1, .int x2, .int s0]) (stk' := [.int 1]) (σ' := σ43) (by decide +kernel) rfl).trans ?_
    refine (hb_r_goto (hb_fe_ok (r := (.goto 4, 3, 78, 0, 0, 0, 0)) (by decide +kernel))).trans ?_
    exact hb_r_zret1 (hb_fe_ok (r := (.ireturn, 1, 0, 0, 1, 0, 0)) (by decide +kernel)) (by decide)
  · refine (hb_blk [(.iload_n 3, 1, 3, 0, 0, 0, 0)] (pe := 50) (gs := []) (loc' := [.ref 36, .int x1, .int x2, .int s0]) (stk' := [.int s0]) (σ' := σ43) (by decide +kernel) rfl).trans ?_
    refine hb_br0 (hb_fe_ok (r := (.ifCond .eq 27, 3, 77, 0, 0, 0, 0)) (by decide +kernel)) rfl ?_ ?_
    · refine (hb_blk [(.iconst 0, 1, 0, 0, 0, 0, 0)] (pe := 78) (gs := []) (loc' := [.ref 36, .int x1, .int x2, .int s0]) (stk' := [.int 0]) (σ' := σ43) (by decide +kernel) rfl).trans ?_
      exact hb_r_zret1 (hb_fe_ok (r := (.ireturn, 1, 0, 0, 1, 0, 0)) (by decide +kernel)) (by decide)
    · refine (hb_blk [(.aload_n 0, 1, 0, 0, 0, 0, 0), (.getfield 23, 3, 1, 1, 0, 0, 0), (.getfield 36, 3, 6, 2, 0, 0, 0), (.iload_n 2, 1, 2, 0, 0, 0, 0), (.iaload, 1, 0, 0, 0, 0, 0), (.iload_n 1, 1, 1, 0, 0, 0, 0), (.sipush 1024, 3, 0, 0, 0, 1024, 0), (.irem, 1, 0, 0, 0, 0, 0)] (pe := 67) (gs := [hb_in x2 16, decide (¬ (1024 : Int32) = 0)]) (loc' := [.ref 36, .int x1, .int x2, .int s0]) (stk' := [.int (x1 - x1 / (1024 : Int32) * (1024 : Int32)), .int (σ43 34 (Int32.toNatClampNeg x2))]) (σ' := σ43) (by decide +kernel) rfl).trans ?_
      refine congrArg (hb_g _) ?_
      refine hb_Si (hb_fe_ok (r := (.invokestatic 39, 3, 70, 2, 0, 0, 0)) (by decide +kernel)) (by decide) (by decide +kernel) (as := [.int (σ43 34 (Int32.toNatClampNeg x2)), .int (x1 - x1 / (1024 : Int32) * (1024 : Int32))]) (rest := []) rfl (Nat.le_of_ble_eq_true rfl) (fun y67 σ67 => ?_)
      refine hb_br0 (hb_fe_ok (r := (.ifCond .ne 7, 3, 77, 0, 0, 0, 0)) (by decide +kernel)) rfl ?_ ?_
      · refine (hb_blk [(.iconst 0, 1, 0, 0, 0, 0, 0)] (pe := 78) (gs := []) (loc' := [.ref 36, .int x1, .int x2, .int s0]) (stk' := [.int 0]) (σ' := σ67) (by decide +kernel) rfl).trans ?_
        exact hb_r_zret1 (hb_fe_ok (r := (.ireturn, 1, 0, 0, 1, 0, 0)) (by decide +kernel)) (by decide)
      · refine (hb_blk [(.iconst 1, 1, 0, 0, 0, 1, 0)] (pe := 74) (gs := []) (loc' := [.ref 36, .int x1, .int x2, .int s0]) (stk' := [.int 1]) (σ' := σ67) (by decide +kernel) rfl).trans ?_
        refine (hb_r_goto (hb_fe_ok (r := (.goto 4, 3, 78, 0, 0, 0, 0)) (by decide +kernel))).trans ?_
        exact hb_r_zret1 (hb_fe_ok (r := (.ireturn, 1, 0, 0, 1, 0, 0)) (by decide +kernel)) (by decide)
set_option maxRecDepth 8000 in
theorem e10_0  (σ : hbM) (x1 : Int32) (x2 : Int32) : hb_run hbSH 10 (0, [.ref 36, .int x1, .int x2, .null, .null, .null, .null, .null, .null, .null, .null], [], σ) = hb_g [decide (¬ (1024 : Int32) = 0), decide (¬ (1024 : Int32) = 0)] (hb_ci (hb_ev hbSH 32 [.ref 31, .int (x1 / (1024 : Int32))] σ) (fun y18 σ18 => if (¬ y18 = (0 : Int32)) then (hb_ci (hb_ev hbSH 33 [.ref 31, .int (x1 / (1024 : Int32))] σ18) (fun y32 σ32 => hb_g [hb_in (x1 / (1024 : Int32)) 16] (if (¬ (σ32 32 (Int32.toNatClampNeg (x1 / (1024 : Int32)))) = (2 : Int32)) then (if (¬ y32 = (0 : Int32)) then (if (y32 = (0 : Int32)) then (hb_g [hb_in (x1 / (1024 : Int32)) 16] (if (¬ (σ32 32 (Int32.toNatClampNeg (x1 / (1024 : Int32)))) = (0 : Int32)) then (hb_run hbSH 10 (148, [.ref 36, .int x1, .int x2, .int (x1 / (1024 : Int32)), .int (x1 - x1 / (1024 : Int32) * (1024 : Int32)), .int y32, .int 0, .int (x1 + (1024 : Int32)), .int (-1000000), .int 0, .null], [], σ32)) else (hb_run hbSH 10 (148, [.ref 36, .int x1, .int x2, .int (x1 / (1024 : Int32)), .int (x1 - x1 / (1024 : Int32) * (1024 : Int32)), .int y32, .int 0, .int (x1 + (1024 : Int32)), .int (-1000000), .int 1, .null], [], σ32)))) else (hb_g [hb_in (x1 / (1024 : Int32)) 16, hb_in (σ32 33 (Int32.toNatClampNeg (x1 / (1024 : Int32)))) 4] (hb_g [hb_in (x1 / (1024 : Int32)) 16] (if (¬ (σ32 32 (Int32.toNatClampNeg (x1 / (1024 : Int32)))) = (0 : Int32)) then (hb_run hbSH 10 (148, [.ref 36, .int x1, .int x2, .int (x1 / (1024 : Int32)), .int (x1 - x1 / (1024 : Int32) * (1024 : Int32)), .int y32, .int 0, .int (x1 + (1024 : Int32)), .int (σ32 37 (Int32.toNatClampNeg (σ32 33 (Int32.toNatClampNeg (x1 / (1024 : Int32)))))), .int 0, .null], [], σ32)) else (hb_run hbSH 10 (148, [.ref 36, .int x1, .int x2, .int (x1 / (1024 : Int32)), .int (x1 - x1 / (1024 : Int32) * (1024 : Int32)), .int y32, .int 0, .int (x1 + (1024 : Int32)), .int (σ32 37 (Int32.toNatClampNeg (σ32 33 (Int32.toNatClampNeg (x1 / (1024 : Int32)))))), .int 1, .null], [], σ32)))))) else (some (some (.int (-1000000)), σ32))) else (if (¬ y32 = (0 : Int32)) then (if (y32 = (0 : Int32)) then (hb_g [hb_in (x1 / (1024 : Int32)) 16] (if (¬ (σ32 32 (Int32.toNatClampNeg (x1 / (1024 : Int32)))) = (0 : Int32)) then (hb_g [hb_in (x1 / (1024 : Int32)) 16] (hb_ci (hb_ev hbSH 70 [.int (σ32 34 (Int32.toNatClampNeg (x1 / (1024 : Int32)))), .int (x1 - x1 / (1024 : Int32) * (1024 : Int32))] σ32) (fun y138 σ138 => if (¬ y138 = (0 : Int32)) then (hb_run hbSH 10 (148, [.ref 36, .int x1, .int x2, .int (x1 / (1024 : Int32)), .int (x1 - x1 / (1024 : Int32) * (1024 : Int32)), .int y32, .int 1, .int (x1 + (1024 : Int32)), .int (-1000000), .int 0, .null], [], σ138)) else (hb_run hbSH 10 (149, [.ref 36, .int x1, .int x2, .int (x1 / (1024 : Int32)), .int (x1 - x1 / (1024 : Int32) * (1024 : Int32)), .int y32, .int 1, .int (x1 + (1024 : Int32)), .int (-1000000), .int 0, .null], [.int 1], σ138))))) else (hb_g [hb_in (x1 / (1024 : Int32)) 16] (hb_ci (hb_ev hbSH 70 [.int (σ32 34 (Int32.toNatClampNeg (x1 / (1024 : Int32)))), .int (x1 - x1 / (1024 : Int32) * (1024 : Int32))] σ32) (fun y138 σ138 => if (¬ y138 = (0 : Int32)) then (hb_run hbSH 10 (148, [.ref 36, .int x1, .int x2, .int (x1 / (1024 : Int32)), .int (x1 - x1 / (1024 : Int32) * (1024 : Int32)), .int y32, .int 1, .int (x1 + (1024 : Int32)), .int (-1000000), .int 1, .null], [], σ138)) else (hb_run hbSH 10 (149, [.ref 36, .int x1, .int x2, .int (x1 / (1024 : Int32)), .int (x1 - x1 / (1024 : Int32) * (1024 : Int32)), .int y32, .int 1, .int (x1 + (1024 : Int32)), .int (-1000000), .int 1, .null], [.int 1], σ138))))))) else (hb_g [hb_in (x1 / (1024 : Int32)) 16, hb_in (σ32 33 (Int32.toNatClampNeg (x1 / (1024 : Int32)))) 4] (hb_g [hb_in (x1 / (1024 : Int32)) 16] (if (¬ (σ32 32 (Int32.toNatClampNeg (x1 / (1024 : Int32)))) = (0 : Int32)) then (hb_g [hb_in (x1 / (1024 : Int32)) 16] (hb_ci (hb_ev hbSH 70 [.int (σ32 34 (Int32.toNatClampNeg (x1 / (1024 : Int32)))), .int (x1 - x1 / (1024 : Int32) * (1024 : Int32))] σ32) (fun y138 σ138 => if (¬ y138 = (0 : Int32)) then (hb_run hbSH 10 (148, [.ref 36, .int x1, .int x2, .int (x1 / (1024 : Int32)), .int (x1 - x1 / (1024 : Int32) * (1024 : Int32)), .int y32, .int 1, .int (x1 + (1024 : Int32)), .int (σ32 37 (Int32.toNatClampNeg (σ32 33 (Int32.toNatClampNeg (x1 / (1024 : Int32)))))), .int 0, .null], [], σ138)) else (hb_run hbSH 10 (149, [.ref 36, .int x1, .int x2, .int (x1 / (1024 : Int32)), .int (x1 - x1 / (1024 : Int32) * (1024 : Int32)), .int y32, .int 1, .int (x1 + (1024 : Int32)), .int (σ32 37 (Int32.toNatClampNeg (σ32 33 (Int32.toNatClampNeg (x1 / (1024 : Int32)))))), .int 0, .null], [.int 1], σ138))))) else (hb_g [hb_in (x1 / (1024 : Int32)) 16] (hb_ci (hb_ev hbSH 70 [.int (σ32 34 (Int32.toNatClampNeg (x1 / (1024 : Int32)))), .int (x1 - x1 / (1024 : Int32) * (1024 : Int32))] σ32) (fun y138 σ138 => if (¬ y138 = (0 : Int32)) then (hb_run hbSH 10 (148, [.ref 36, .int x1, .int x2, .int (x1 / (1024 : Int32)), .int (x1 - x1 / (1024 : Int32) * (1024 : Int32)), .int y32, .int 1, .int (x1 + (1024 : Int32)), .int (σ32 37 (Int32.toNatClampNeg (σ32 33 (Int32.toNatClampNeg (x1 / (1024 : Int32)))))), .int 1, .null], [], σ138)) else (hb_run hbSH 10 (149, [.ref 36, .int x1, .int x2, .int (x1 / (1024 : Int32)), .int (x1 - x1 / (1024 : Int32) * (1024 : Int32)), .int y32, .int 1, .int (x1 + (1024 : Int32)), .int (σ32 37 (Int32.toNatClampNeg (σ32 33 (Int32.toNatClampNeg (x1 / (1024 : Int32)))))), .int 1, .null], [.int 1], σ138))))))))) else (if (y32 = (0 : Int32)) then (hb_g [hb_in (x1 / (1024 : Int32)) 16] (if (¬ (σ32 32 (Int32.toNatClampNeg (x1 / (1024 : Int32)))) = (0 : Int32)) then (hb_g [hb_in (x1 / (1024 : Int32)) 16] (hb_ci (hb_ev hbSH 70 [.int (σ32 34 (Int32.toNatClampNeg (x1 / (1024 : Int32)))), .int (x1 - x1 / (1024 : Int32) * (1024 : Int32))] σ32) (fun y138 σ138 => if (¬ y138 = (0 : Int32)) then (hb_run hbSH 10 (148, [.ref 36, .int x1, .int x2, .int (x1 / (1024 : Int32)), .int (x1 - x1 / (1024 : Int32) * (1024 : Int32)), .int y32, .int 1, .int (x1 + (1024 : Int32)), .int (-1000000), .int 0, .null], [], σ138)) else (hb_run hbSH 10 (149, [.ref 36, .int x1, .int x2, .int (x1 / (1024 : Int32)), .int (x1 - x1 / (1024 : Int32) * (1024 : Int32)), .int y32, .int 1, .int (x1 + (1024 : Int32)), .int (-1000000), .int 0, .null], [.int 1], σ138))))) else (hb_g [hb_in (x1 / (1024 : Int32)) 16] (hb_ci (hb_ev hbSH 70 [.int (σ32 34 (Int32.toNatClampNeg (x1 / (1024 : Int32)))), .int (x1 - x1 / (1024 : Int32) * (1024 : Int32))] σ32) (fun y138 σ138 => if (¬ y138 = (0 : Int32)) then (hb_run hbSH 10 (148, [.ref 36, .int x1, .int x2, .int (x1 / (1024 : Int32)), .int (x1 - x1 / (1024 : Int32) * (1024 : Int32)), .int y32, .int 1, .int (x1 + (1024 : Int32)), .int (-1000000), .int 1, .null], [], σ138)) else (hb_run hbSH 10 (149, [.ref 36, .int x1, .int x2, .int (x1 / (1024 : Int32)), .int (x1 - x1 / (1024 : Int32) * (1024 : Int32)), .int y32, .int 1, .int (x1 + (1024 : Int32)), .int (-1000000), .int 1, .null], [.int 1], σ138))))))) else (hb_g [hb_in (x1 / (1024 : Int32)) 16, hb_in (σ32 33 (Int32.toNatClampNeg (x1 / (1024 : Int32)))) 4] (hb_g [hb_in (x1 / (1024 : Int32)) 16] (if (¬ (σ32 32 (Int32.toNatClampNeg (x1 / (1024 : Int32)))) = (0 : Int32)) then (hb_g [hb_in (x1 / (1024 : Int32)) 16] (hb_ci (hb_ev hbSH 70 [.int (σ32 34 (Int32.toNatClampNeg (x1 / (1024 : Int32)))), .int (x1 - x1 / (1024 : Int32) * (1024 : Int32))] σ32) (fun y138 σ138 => if (¬ y138 = (0 : Int32)) then (hb_run hbSH 10 (148, [.ref 36, .int x1, .int x2, .int (x1 / (1024 : Int32)), .int (x1 - x1 / (1024 : Int32) * (1024 : Int32)), .int y32, .int 1, .int (x1 + (1024 : Int32)), .int (σ32 37 (Int32.toNatClampNeg (σ32 33 (Int32.toNatClampNeg (x1 / (1024 : Int32)))))), .int 0, .null], [], σ138)) else (hb_run hbSH 10 (149, [.ref 36, .int x1, .int x2, .int (x1 / (1024 : Int32)), .int (x1 - x1 / (1024 : Int32) * (1024 : Int32)), .int y32, .int 1, .int (x1 + (1024 : Int32)), .int (σ32 37 (Int32.toNatClampNeg (σ32 33 (Int32.toNatClampNeg (x1 / (1024 : Int32)))))), .int 0, .null], [.int 1], σ138))))) else (hb_g [hb_in (x1 / (1024 : Int32)) 16] (hb_ci (hb_ev hbSH 70 [.int (σ32 34 (Int32.toNatClampNeg (x1 / (1024 : Int32)))), .int (x1 - x1 / (1024 : Int32) * (1024 : Int32))] σ32) (fun y138 σ138 => if (¬ y138 = (0 : Int32)) then (hb_run hbSH 10 (148, [.ref 36, .int x1, .int x2, .int (x1 / (1024 : Int32)), .int (x1 - x1 / (1024 : Int32) * (1024 : Int32)), .int y32, .int 1, .int (x1 + (1024 : Int32)), .int (σ32 37 (Int32.toNatClampNeg (σ32 33 (Int32.toNatClampNeg (x1 / (1024 : Int32)))))), .int 1, .null], [], σ138)) else (hb_run hbSH 10 (149, [.ref 36, .int x1, .int x2, .int (x1 / (1024 : Int32)), .int (x1 - x1 / (1024 : Int32) * (1024 : Int32)), .int y32, .int 1, .int (x1 + (1024 : Int32)), .int (σ32 37 (Int32.toNatClampNeg (σ32 33 (Int32.toNatClampNeg (x1 / (1024 : Int32)))))), .int 1, .null], [.int 1], σ138))))))))))))) else (some (some (.int (-1000000)), σ18)))) := by
  refine (hb_blk [(.iload_n 1, 1, 1, 0, 0, 0, 0), (.sipush 1024, 3, 0, 0, 0, 1024, 0), (.idiv, 1, 0, 0, 0, 0, 0), (.istore_n 3, 1, 3, 0, 0, 0, 0), (.iload_n 1, 1, 1, 0, 0, 0, 0), (.sipush 1024, 3, 0, 0, 0, 1024, 0), (.irem, 1, 0, 0, 0, 0, 0), (.istore 4, 2, 4, 0, 0, 0, 0), (.aload_n 0, 1, 0, 0, 0, 0, 0), (.getfield 23, 3, 1, 1, 0, 0, 0), (.iload_n 3, 1, 3, 0, 0, 0, 0)] (pe := 18) (gs := [decide (¬ (1024 : Int32) = 0), decide (¬ (1024 : Int32) = 0)]) (loc' := [.ref 36, .int x1, .int x2, .int (x1 / (1024 : Int32)), .int (x1 - x1 / (1024 : Int32) * (1024 : Int32)), .null, .null, .null, .null, .null, .null]) (stk' := [.int (x1 / (1024 : Int32)), .ref 31]) (σ' := σ) (by decide +kernel) rfl).trans ?_
  refine congrArg (hb_g _) ?_
  refine hb_Vi (hb_fe_ok (r := (.invokevirtual 27, 3, 32, 1, 0, 0, 0)) (by decide +kernel)) (by decide +kernel) (as := [.int (x1 / (1024 : Int32))]) (v := .ref 31) (rest := []) rfl rfl (Nat.le_of_ble_eq_true rfl) (fun y18 σ18 => ?_)
  refine hb_br0 (hb_fe_ok (r := (.ifCond .ne 6, 3, 27, 0, 0, 0, 0)) (by decide +kernel)) rfl ?_ ?_
  · refine (hb_blk [(.aload_n 0, 1, 0, 0, 0, 0, 0), (.getfield 23, 3, 1, 1, 0, 0, 0), (.iload_n 3, 1, 3, 0, 0, 0, 0)] (pe := 32) (gs := []) (loc' := [.ref 36, .int x1, .int x2, .int (x1 / (1024 : Int32)), .int (x1 - x1 / (1024 : Int32) * (1024 : Int32)), .null, .null, .null, .null, .null, .null]) (stk' := [.int (x1 / (1024 : Int32)), .ref 31]) (σ' := σ18) (by decide +kernel) rfl).trans ?_
    refine hb_Vi (hb_fe_ok (r := (.invokevirtual 55, 3, 33, 1, 0, 0, 0)) (by decide +kernel)) (by decide +kernel) (as := [.int (x1 / (1024 : Int32))]) (v := .ref 31) (rest := []) rfl rfl (Nat.le_of_ble_eq_true rfl) (fun y32 σ32 => ?_)
    refine (hb_blk [(.istore 5, 2, 5, 0, 0, 0, 0), (.aload_n 0, 1, 0, 0, 0, 0, 0), (.getfield 23, 3, 1, 1, 0, 0, 0), (.getfield 45, 3, 6, 0, 0, 0, 0), (.iload_n 3, 1, 3, 0, 0, 0, 0), (.iaload, 1, 0, 0, 0, 0, 0), (.iconst 2, 1, 0, 0, 0, 2, 0)] (pe := 47) (gs := [hb_in (x1 / (1024 : Int32)) 16]) (loc' := [.ref 36, .int x1, .int x2, .int (x1 / (1024 : Int32)), .int (x1 - x1 / (1024 : Int32) * (1024 : Int32)), .int y32, .null, .null, .null, .null, .null]) (stk' := [.int 2, .int (σ32 32 (Int32.toNatClampNeg (x1 / (1024 : Int32))))]) (σ' := σ32) (by decide +kernel) rfl).trans ?_
    refine congrArg (hb_g _) ?_
    refine hb_br (hb_fe_ok (r := (.if_icmp .ne 7, 3, 54, 0, 0, 0, 0)) (by decide +kernel)) rfl ?_ ?_
    · refine (hb_blk [(.iconst 0, 1, 0, 0, 0, 0, 0)] (pe := 55) (gs := []) (loc' := [.ref 36, .int x1, .int x2, .int (x1 / (1024 : Int32)), .int (x1 - x1 / (1024 : Int32) * (1024 : Int32)), .int y32, .null, .null, .null, .null, .null]) (stk' := [.int 0]) (σ' := σ32) (by decide +kernel) rfl).trans ?_
      refine (hb_blk [(.istore 6, 2, 6, 0, 0, 0, 0), (.iload 5, 2, 5, 0, 0, 0, 0)] (pe := 59) (gs := []) (loc' := [.ref 36, .int x1, .int x2, .int (x1 / (1024 : Int32)), .int (x1 - x1 / (1024 : Int32) * (1024 : Int32)), .int y32, .int 0, .null, .null, .null, .null]) (stk' := [.int y32]) (σ' := σ32) (by decide +kernel) rfl).trans ?_
      refine hb_br0 (hb_fe_ok (r := (.ifCond .ne 11, 3, 70, 0, 0, 0, 0)) (by decide +kernel)) rfl ?_ ?_
      · refine (hb_blk [(.iload_n 1, 1, 1, 0, 0, 0, 0), (.sipush 1024, 3, 0, 0, 0, 1024, 0), (.iadd, 1, 0, 0, 0, 0, 0), (.istore 7, 2, 7, 0, 0, 0, 0), (.iload 5, 2, 5, 0, 0, 0, 0)] (pe := 79) (gs := []) (loc' := [.ref 36, .int x1, .int x2, .int (x1 / (1024 : Int32)), .int (x1 - x1 / (1024 : Int32) * (1024 : Int32)), .int y32, .int 0, .int (x1 + (1024 : Int32)), .null, .null, .null]) (stk' := [.int y32]) (σ' := σ32) (by decide +kernel) rfl).trans ?_
        refine hb_br0 (hb_fe_ok (r := (.ifCond .eq 20, 3, 99, 0, 0, 0, 0)) (by decide +kernel)) rfl ?_ ?_
        · refine (hb_blk [(.ldc 9, 2, 0, 0, 0, (-1000000), 0)] (pe := 101) (gs := []) (loc' := [.ref 36, .int x1, .int x2, .int (x1 / (1024 : Int32)), .int (x1 - x1 / (1024 : Int32) * (1024 : Int32)), .int y32, .int 0, .int (x1 + (1024 : Int32)), .null, .null, .null]) (stk' := [.int (-1000000)]) (σ' := σ32) (by decide +kernel) rfl).trans ?_
          refine (hb_blk [(.istore 8, 2, 8, 0, 0, 0, 0), (.aload_n 0, 1, 0, 0, 0, 0, 0), (.getfield 23, 3, 1, 1, 0, 0, 0), (.getfield 45, 3, 6, 0, 0, 0, 0), (.iload_n 3, 1, 3, 0, 0, 0, 0), (.iaload, 1, 0, 0, 0, 0, 0)] (pe := 112) (gs := [hb_in (x1 / (1024 : Int32)) 16]) (loc' := [.ref 36, .int x1, .int x2, .int (x1 / (1024 : Int32)), .int (x1 - x1 / (1024 : Int32) * (1024 : Int32)), .int y32, .int 0, .int (x1 + (1024 : Int32)), .int (-1000000), .null, .null]) (stk' := [.int (σ32 32 (Int32.toNatClampNeg (x1 / (1024 : Int32))))]) (σ' := σ32) (by decide +kernel) rfl).trans ?_
          refine congrArg (hb_g _) ?_
          refine hb_br0 (hb_fe_ok (r := (.ifCond .ne 7, 3, 119, 0, 0, 0, 0)) (by decide +kernel)) rfl ?_ ?_
          · refine (hb_blk [(.iconst 0, 1, 0, 0, 0, 0, 0)] (pe := 120) (gs := []) (loc' := [.ref 36, .int x1, .int x2, .int (x1 / (1024 : Int32)), .int (x1 - x1 / (1024 : Int32) * (1024 : Int32)), .int y32, .int 0, .int (x1 + (1024 : Int32)), .int (-1000000), .null, .null]) (stk' := [.int 0]) (σ' := σ32) (by decide +kernel) rfl).trans ?_
            refine (hb_blk [(.istore 9, 2, 9, 0, 0, 0, 0), (.iload 6, 2, 6, 0, 0, 0, 0)] (pe := 124) (gs := []) (loc' := [.ref 36, .int x1, .int x2, .int (x1 / (1024 : Int32)), .int (x1 - x1 / (1024 : Int32) * (1024 : Int32)), .int y32, .int 0, .int (x1 + (1024 : Int32)), .int (-1000000), .int 0, .null]) (stk' := [.int 0]) (σ' := σ32) (by decide +kernel) rfl).trans ?_
            refine hb_br0T (hb_fe_ok (r := (.ifCond .eq 24, 3, 148, 0, 0, 0, 0)) (by decide +kernel)) (by decide) ?_
            exact rfl
          · refine (hb_blk [(.iconst 1, 1, 0, 0, 0, 1, 0)] (pe := 116) (gs := []) (loc' := [.ref 36, .int x1, .int x2, .int (x1 / (1024 : Int32)), .int (x1 - x1 / (1024 : Int32) * (1024 : Int32)), .int y32, .int 0, .int (x1 + (1024 : Int32)), .int (-1000000), .null, .null]) (stk' := [.int 1]) (σ' := σ32) (by decide +kernel) rfl).trans ?_
            refine (hb_r_goto (hb_fe_ok (r := (.goto 4, 3, 120, 0, 0, 0, 0)) (by decide +kernel))).trans ?_
            refine (hb_blk [(.istore 9, 2, 9, 0, 0, 0, 0), (.iload 6, 2, 6, 0, 0, 0, 0)] (pe := 124) (gs := []) (loc' := [.ref 36, .int x1, .int x2, .int (x1 / (1024 : Int32)), .int (x1 - x1 / (1024 : Int32) * (1024 : Int32)), .int y32, .int 0, .int (x1 + (1024 : Int32)), .int (-1000000), .int 1, .null]) (stk' := [.int 0]) (σ' := σ32) (by decide +kernel) rfl).trans ?_
            refine hb_br0T (hb_fe_ok (r := (.ifCond .eq 24, 3, 148, 0, 0, 0, 0)) (by decide +kernel)) (by decide) ?_
            exact rfl
        · refine (hb_blk [(.aload_n 0, 1, 0, 0, 0, 0, 0), (.getfield 10, 3, 1, 2, 0, 0, 0), (.aload_n 0, 1, 0, 0, 0, 0, 0), (.getfield 23, 3, 1, 1, 0, 0, 0), (.getfield 33, 3, 6, 1, 0, 0, 0), (.iload_n 3, 1, 3, 0, 0, 0, 0), (.iaload, 1, 0, 0, 0, 0, 0), (.iaload, 1, 0, 0, 0, 0, 0)] (pe := 96) (gs := [hb_in (x1 / (1024 : Int32)) 16, hb_in (σ32 33 (Int32.toNatClampNeg (x1 / (1024 : Int32)))) 4]) (loc' := [.ref 36, .int x1, .int x2, .int (x1 / (1024 : Int32)), .int (x1 - x1 / (1024 : Int32) * (1024 : Int32)), .int y32, .int 0, .int (x1 + (1024 : Int32)), .null, .null, .null]) (stk' := [.int (σ32 37 (Int32.toNatClampNeg (σ32 33 (Int32.toNatClampNeg (x1 / (1024 : Int32))))))]) (σ' := σ32) (by decide +kernel) rfl).trans ?_
          refine congrArg (hb_g _) ?_
          refine (hb_r_goto (hb_fe_ok (r := (.goto 5, 3, 101, 0, 0, 0, 0)) (by decide +kernel))).trans ?_
          refine (hb_blk [(.istore 8, 2, 8, 0, 0, 0, 0), (.aload_n 0, 1, 0, 0, 0, 0, 0), (.getfield 23, 3, 1, 1, 0, 0, 0), (.getfield 45, 3, 6, 0, 0, 0, 0), (.iload_n 3, 1, 3, 0, 0, 0, 0), (.iaload, 1, 0, 0, 0, 0, 0)] (pe := 112) (gs := [hb_in (x1 / (1024 : Int32)) 16]) (loc' := [.ref 36, .int x1, .int x2, .int (x1 / (1024 : Int32)), .int (x1 - x1 / (1024 : Int32) * (1024 : Int32)), .int y32, .int 0, .int (x1 + (1024 : Int32)), .int (σ32 37 (Int32.toNatClampNeg (σ32 33 (Int32.toNatClampNeg (x1 / (1024 : Int32)))))), .null, .null]) (stk' := [.int (σ32 32 (Int32.toNatClampNeg (x1 / (1024 : Int32))))]) (σ' := σ32) (by decide +kernel) rfl).trans ?_
          refine congrArg (hb_g _) ?_
          refine hb_br0 (hb_fe_ok (r := (.ifCond .ne 7, 3, 119, 0, 0, 0, 0)) (by decide +kernel)) rfl ?_ ?_
          · refine (hb_blk [(.iconst 0, 1, 0, 0, 0, 0, 0)] (pe := 120) (gs := []) (loc' := [.ref 36, .int x1, .int x2, .int (x1 / (1024 : Int32)), .int (x1 - x1 / (1024 : Int32) * (1024 : Int32)), .int y32, .int 0, .int (x1 + (1024 : Int32)), .int (σ32 37 (Int32.toNatClampNeg (σ32 33 (Int32.toNatClampNeg (x1 / (1024 : Int32)))))), .null, .null]) (stk' := [.int 0]) (σ' := σ32) (by decide +kernel) rfl).trans ?_
            refine (hb_blk [(.istore 9, 2, 9, 0, 0, 0, 0), (.iload 6, 2, 6, 0, 0, 0, 0)] (pe := 124) (gs := []) (loc' := [.ref 36, .int x1, .int x2, .int (x1 / (1024 : Int32)), .int (x1 - x1 / (1024 : Int32) * (1024 : Int32)), .int y32, .int 0, .int (x1 + (1024 : Int32)), .int (σ32 37 (Int32.toNatClampNeg (σ32 33 (Int32.toNatClampNeg (x1 / (1024 : Int32)))))), .int 0, .null]) (stk' := [.int 0]) (σ' := σ32) (by decide +kernel) rfl).trans ?_
            refine hb_br0T (hb_fe_ok (r := (.ifCond .eq 24, 3, 148, 0, 0, 0, 0)) (by decide +kernel)) (by decide) ?_
            exact rfl
          · refine (hb_blk [(.iconst 1, 1, 0, 0, 0, 1, 0)] (pe := 116) (gs := []) (loc' := [.ref 36, .int x1, .int x2, .int (x1 / (1024 : Int32)), .int (x1 - x1 / (1024 : Int32) * (1024 : Int32)), .int y32, .int 0, .int (x1 + (1024 : Int32)), .int (σ32 37 (Int32.toNatClampNeg (σ32 33 (Int32.toNatClampNeg (x1 / (1024 : Int32)))))), .null, .null]) (stk' := [.int 1]) (σ' := σ32) (by decide +kernel) rfl).trans ?_
            refine (hb_r_goto (hb_fe_ok (r := (.goto 4, 3, 120, 0, 0, 0, 0)) (by decide +kernel))).trans ?_
            refine (hb_blk [(.istore 9, 2, 9, 0, 0, 0, 0), (.iload 6, 2, 6, 0, 0, 0, 0)] (pe := 124) (gs := []) (loc' := [.ref 36, .int x1, .int x2, .int (x1 / (1024 : Int32)), .int (x1 - x1 / (1024 : Int32) * (1024 : Int32)), .int y32, .int 0, .int (x1 + (1024 : Int32)), .int (σ32 37 (Int32.toNatClampNeg (σ32 33 (Int32.toNatClampNeg (x1 / (1024 : Int32)))))), .int 1, .null]) (stk' := [.int 0]) (σ' := σ32) (by decide +kernel) rfl).trans ?_
            refine hb_br0T (hb_fe_ok (r := (.ifCond .eq 24, 3, 148, 0, 0, 0, 0)) (by decide +kernel)) (by decide) ?_
            exact rfl
      · refine (hb_blk [(.iload 6, 2, 6, 0, 0, 0, 0)] (pe := 64) (gs := []) (loc' := [.ref 36, .int x1, .int x2, .int (x1 / (1024 : Int32)), .int (x1 - x1 / (1024 : Int32) * (1024 : Int32)), .int y32, .int 0, .null, .null, .null, .null]) (stk' := [.int 0]) (σ' := σ32) (by decide +kernel) rfl).trans ?_
        refine hb_br0F (hb_fe_ok (r := (.ifCond .ne 6, 3, 70, 0, 0, 0, 0)) (by decide +kernel)) (by decide) ?_
        refine (hb_blk [(.ldc 9, 2, 0, 0, 0, (-1000000), 0)] (pe := 69) (gs := []) (loc' := [.ref 36, .int x1, .int x2, .int (x1 / (1024 : Int32)), .int (x1 - x1 / (1024 : Int32) * (1024 : Int32)), .int y32, .int 0, .null, .null, .null, .null]) (stk' := [.int (-1000000)]) (σ' := σ32) (by decide +kernel) rfl).trans ?_
        exact hb_r_iret (hb_fe_ok (r := (.ireturn, 1, 0, 0, 0, 0, 0)) (by decide +kernel))
    · refine (hb_blk [(.iconst 1, 1, 0, 0, 0, 1, 0)] (pe := 51) (gs := []) (loc' := [.ref 36, .int x1, .int x2, .int (x1 / (1024 : Int32)), .int (x1 - x1 / (1024 : Int32) * (1024 : Int32)), .int y32, .null, .null, .null, .null, .null]) (stk' := [.int 1]) (σ' := σ32) (by decide +kernel) rfl).trans ?_
      refine (hb_r_goto (hb_fe_ok (r := (.goto 4, 3, 55, 0, 0, 0, 0)) (by decide +kernel))).trans ?_
      refine (hb_blk [(.istore 6, 2, 6, 0, 0, 0, 0), (.iload 5, 2, 5, 0, 0, 0, 0)] (pe := 59) (gs := []) (loc' := [.ref 36, .int x1, .int x2, .int (x1 / (1024 : Int32)), .int (x1 - x1 / (1024 : Int32) * (1024 : Int32)), .int y32, .int 1, .null, .null, .null, .null]) (stk' := [.int y32]) (σ' := σ32) (by decide +kernel) rfl).trans ?_
      refine hb_br0 (hb_fe_ok (r := (.ifCond .ne 11, 3, 70, 0, 0, 0, 0)) (by decide +kernel)) rfl ?_ ?_
      · refine (hb_blk [(.iload_n 1, 1, 1, 0, 0, 0, 0), (.sipush 1024, 3, 0, 0, 0, 1024, 0), (.iadd, 1, 0, 0, 0, 0, 0), (.istore 7, 2, 7, 0, 0, 0, 0), (.iload 5, 2, 5, 0, 0, 0, 0)] (pe := 79) (gs := []) (loc' := [.ref 36, .int x1, .int x2, .int (x1 / (1024 : Int32)), .int (x1 - x1 / (1024 : Int32) * (1024 : Int32)), .int y32, .int 1, .int (x1 + (1024 : Int32)), .null, .null, .null]) (stk' := [.int y32]) (σ' := σ32) (by decide +kernel) rfl).trans ?_
        refine hb_br0 (hb_fe_ok (r := (.ifCond .eq 20, 3, 99, 0, 0, 0, 0)) (by decide +kernel)) rfl ?_ ?_
        · refine (hb_blk [(.ldc 9, 2, 0, 0, 0, (-1000000), 0)] (pe := 101) (gs := []) (loc' := [.ref 36, .int x1, .int x2, .int (x1 / (1024 : Int32)), .int (x1 - x1 / (1024 : Int32) * (1024 : Int32)), .int y32, .int 1, .int (x1 + (1024 : Int32)), .null, .null, .null]) (stk' := [.int (-1000000)]) (σ' := σ32) (by decide +kernel) rfl).trans ?_
          refine (hb_blk [(.istore 8, 2, 8, 0, 0, 0, 0), (.aload_n 0, 1, 0, 0, 0, 0, 0), (.getfield 23, 3, 1, 1, 0, 0, 0), (.getfield 45, 3, 6, 0, 0, 0, 0), (.iload_n 3, 1, 3, 0, 0, 0, 0), (.iaload, 1, 0, 0, 0, 0, 0)] (pe := 112) (gs := [hb_in (x1 / (1024 : Int32)) 16]) (loc' := [.ref 36, .int x1, .int x2, .int (x1 / (1024 : Int32)), .int (x1 - x1 / (1024 : Int32) * (1024 : Int32)), .int y32, .int 1, .int (x1 + (1024 : Int32)), .int (-1000000), .null, .null]) (stk' := [.int (σ32 32 (Int32.toNatClampNeg (x1 / (1024 : Int32))))]) (σ' := σ32) (by decide +kernel) rfl).trans ?_
          refine congrArg (hb_g _) ?_
          refine hb_br0 (hb_fe_ok (r := (.ifCond .ne 7, 3, 119, 0, 0, 0, 0)) (by decide +kernel)) rfl ?_ ?_
          · refine (hb_blk [(.iconst 0, 1, 0, 0, 0, 0, 0)] (pe := 120) (gs := []) (loc' := [.ref 36, .int x1, .int x2, .int (x1 / (1024 : Int32)), .int (x1 - x1 / (1024 : Int32) * (1024 : Int32)), .int y32, .int 1, .int (x1 + (1024 : Int32)), .int (-1000000), .null, .null]) (stk' := [.int 0]) (σ' := σ32) (by decide +kernel) rfl).trans ?_
            refine (hb_blk [(.istore 9, 2, 9, 0, 0, 0, 0), (.iload 6, 2, 6, 0, 0, 0, 0)] (pe := 124) (gs := []) (loc' := [.ref 36, .int x1, .int x2, .int (x1 / (1024 : Int32)), .int (x1 - x1 / (1024 : Int32) * (1024 : Int32)), .int y32, .int 1, .int (x1 + (1024 : Int32)), .int (-1000000), .int 0, .null]) (stk' := [.int 1]) (σ' := σ32) (by decide +kernel) rfl).trans ?_
            refine hb_br0F (hb_fe_ok (r := (.ifCond .eq 24, 3, 148, 0, 0, 0, 0)) (by decide +kernel)) (by decide) ?_
            refine (hb_blk [(.aload_n 0, 1, 0, 0, 0, 0, 0), (.getfield 23, 3, 1, 1, 0, 0, 0), (.getfield 36, 3, 6, 2, 0, 0, 0), (.iload_n 3, 1, 3, 0, 0, 0, 0), (.iaload, 1, 0, 0, 0, 0, 0), (.iload 4, 2, 4, 0, 0, 0, 0)] (pe := 138) (gs := [hb_in (x1 / (1024 : Int32)) 16]) (loc' := [.ref 36, .int x1, .int x2, .int (x1 / (1024 : Int32)), .int (x1 - x1 / (1024 : Int32) * (1024 : Int32)), .int y32, .int 1, .int (x1 + (1024 : Int32)), .int (-1000000), .int 0, .null]) (stk' := [.int (x1 - x1 / (1024 : Int32) * (1024 : Int32)), .int (σ32 34 (Int32.toNatClampNeg (x1 / (1024 : Int32))))]) (σ' := σ32) (by decide +kernel) rfl).trans ?_
            refine congrArg (hb_g _) ?_
            refine hb_Si (hb_fe_ok (r := (.invokestatic 39, 3, 70, 2, 0, 0, 0)) (by decide +kernel)) (by decide) (by decide +kernel) (as := [.int (σ32 34 (Int32.toNatClampNeg (x1 / (1024 : Int32)))), .int (x1 - x1 / (1024 : Int32) * (1024 : Int32))]) (rest := []) rfl (Nat.le_of_ble_eq_true rfl) (fun y138 σ138 => ?_)
            refine hb_br0 (hb_fe_ok (r := (.ifCond .ne 7, 3, 148, 0, 0, 0, 0)) (by decide +kernel)) rfl ?_ ?_
            · exact rfl
            · refine (hb_blk [(.iconst 1, 1, 0, 0, 0, 1, 0)] (pe := 145) (gs := []) (loc' := [.ref 36, .int x1, .int x2, .int (x1 / (1024 : Int32)), .int (x1 - x1 / (1024 : Int32) * (1024 : Int32)), .int y32, .int 1, .int (x1 + (1024 : Int32)), .int (-1000000), .int 0, .null]) (stk' := [.int 1]) (σ' := σ138) (by decide +kernel) rfl).trans ?_
              refine (hb_r_goto (hb_fe_ok (r := (.goto 4, 3, 149, 0, 0, 0, 0)) (by decide +kernel))).trans ?_
              exact rfl
          · refine (hb_blk [(.iconst 1, 1, 0, 0, 0, 1, 0)] (pe := 116) (gs := []) (loc' := [.ref 36, .int x1, .int x2, .int (x1 / (1024 : Int32)), .int (x1 - x1 / (1024 : Int32) * (1024 : Int32)), .int y32, .int 1, .int (x1 + (1024 : Int32)), .int (-1000000), .null, .null]) (stk' := [.int 1]) (σ' := σ32) (by decide +kernel) rfl).trans ?_
            refine (hb_r_goto (hb_fe_ok (r := (.goto 4, 3, 120, 0, 0, 0, 0)) (by decide +kernel))).trans ?_
            refine (hb_blk [(.istore 9, 2, 9, 0, 0, 0, 0), (.iload 6, 2, 6, 0, 0, 0, 0)] (pe := 124) (gs := []) (loc' := [.ref 36, .int x1, .int x2, .int (x1 / (1024 : Int32)), .int (x1 - x1 / (1024 : Int32) * (1024 : Int32)), .int y32, .int 1, .int (x1 + (1024 : Int32)), .int (-1000000), .int 1, .null]) (stk' := [.int 1]) (σ' := σ32) (by decide +kernel) rfl).trans ?_
            refine hb_br0F (hb_fe_ok (r := (.ifCond .eq 24, 3, 148, 0, 0, 0, 0)) (by decide +kernel)) (by decide) ?_
            refine (hb_blk [(.aload_n 0, 1, 0, 0, 0, 0, 0), (.getfield 23, 3, 1, 1, 0, 0, 0), (.getfield 36, 3, 6, 2, 0, 0, 0), (.iload_n 3, 1, 3, 0, 0, 0, 0), (.iaload, 1, 0, 0, 0, 0, 0), (.iload 4, 2, 4, 0, 0, 0, 0)] (pe := 138) (gs := [hb_in (x1 / (1024 : Int32)) 16]) (loc' := [.ref 36, .int x1, .int x2, .int (x1 / (1024 : Int32)), .int (x1 - x1 / (1024 : Int32) * (1024 : Int32)), .int y32, .int 1, .int (x1 + (1024 : Int32)), .int (-1000000), .int 1, .null]) (stk' := [.int (x1 - x1 / (1024 : Int32) * (1024 : Int32)), .int (σ32 34 (Int32.toNatClampNeg (x1 / (1024 : Int32))))]) (σ' := σ32) (by decide +kernel) rfl).trans ?_
            refine congrArg (hb_g _) ?_
            refine hb_Si (hb_fe_ok (r := (.invokestatic 39, 3, 70, 2, 0, 0, 0)) (by decide +kernel)) (by decide) (by decide +kernel) (as := [.int (σ32 34 (Int32.toNatClampNeg (x1 / (1024 : Int32)))), .int (x1 - x1 / (1024 : Int32) * (1024 : Int32))]) (rest := []) rfl (Nat.le_of_ble_eq_true rfl) (fun y138 σ138 => ?_)
            refine hb_br0 (hb_fe_ok (r := (.ifCond .ne 7, 3, 148, 0, 0, 0, 0)) (by decide +kernel)) rfl ?_ ?_
            · exact rfl
            · refine (hb_blk [(.iconst 1, 1, 0, 0, 0, 1, 0)] (pe := 145) (gs := []) (loc' := [.ref 36, .int x1, .int x2, .int (x1 / (1024 : Int32)), .int (x1 - x1 / (1024 : Int32) * (1024 : Int32)), .int y32, .int 1, .int (x1 + (1024 : Int32)), .int (-1000000), .int 1, .null]) (stk' := [.int 1]) (σ' := σ138) (by decide +kernel) rfl).trans ?_
              refine (hb_r_goto (hb_fe_ok (r := (.goto 4, 3, 149, 0, 0, 0, 0)) (by decide +kernel))).trans ?_
              exact rfl
        · refine (hb_blk [(.aload_n 0, 1, 0, 0, 0, 0, 0), (.getfield 10, 3, 1, 2, 0, 0, 0), (.aload_n 0, 1, 0, 0, 0, 0, 0), (.getfield 23, 3, 1, 1, 0, 0, 0), (.getfield 33, 3, 6, 1, 0, 0, 0), (.iload_n 3, 1, 3, 0, 0, 0, 0), (.iaload, 1, 0, 0, 0, 0, 0), (.iaload, 1, 0, 0, 0, 0, 0)] (pe := 96) (gs := [hb_in (x1 / (1024 : Int32)) 16, hb_in (σ32 33 (Int32.toNatClampNeg (x1 / (1024 : Int32)))) 4]) (loc' := [.ref 36, .int x1, .int x2, .int (x1 / (1024 : Int32)), .int (x1 - x1 / (1024 : Int32) * (1024 : Int32)), .int y32, .int 1, .int (x1 + (1024 : Int32)), .null, .null, .null]) (stk' := [.int (σ32 37 (Int32.toNatClampNeg (σ32 33 (Int32.toNatClampNeg (x1 / (1024 : Int32))))))]) (σ' := σ32) (by decide +kernel) rfl).trans ?_
          refine congrArg (hb_g _) ?_
          refine (hb_r_goto (hb_fe_ok (r := (.goto 5, 3, 101, 0, 0, 0, 0)) (by decide +kernel))).trans ?_
          refine (hb_blk [(.istore 8, 2, 8, 0, 0, 0, 0), (.aload_n 0, 1, 0, 0, 0, 0, 0), (.getfield 23, 3, 1, 1, 0, 0, 0), (.getfield 45, 3, 6, 0, 0, 0, 0), (.iload_n 3, 1, 3, 0, 0, 0, 0), (.iaload, 1, 0, 0, 0, 0, 0)] (pe := 112) (gs := [hb_in (x1 / (1024 : Int32)) 16]) (loc' := [.ref 36, .int x1, .int x2, .int (x1 / (1024 : Int32)), .int (x1 - x1 / (1024 : Int32) * (1024 : Int32)), .int y32, .int 1, .int (x1 + (1024 : Int32)), .int (σ32 37 (Int32.toNatClampNeg (σ32 33 (Int32.toNatClampNeg (x1 / (1024 : Int32)))))), .null, .null]) (stk' := [.int (σ32 32 (Int32.toNatClampNeg (x1 / (1024 : Int32))))]) (σ' := σ32) (by decide +kernel) rfl).trans ?_
          refine congrArg (hb_g _) ?_
          refine hb_br0 (hb_fe_ok (r := (.ifCond .ne 7, 3, 119, 0, 0, 0, 0)) (by decide +kernel)) rfl ?_ ?_
          · refine (hb_blk [(.iconst 0, 1, 0, 0, 0, 0, 0)] (pe := 120) (gs := []) (loc' := [.ref 36, .int x1, .int x2, .int (x1 / (1024 : Int32)), .int (x1 - x1 / (1024 : Int32) * (1024 : Int32)), .int y32, .int 1, .int (x1 + (1024 : Int32)), .int (σ32 37 (Int32.toNatClampNeg (σ32 33 (Int32.toNatClampNeg (x1 / (1024 : Int32)))))), .null, .null]) (stk' := [.int 0]) (σ' := σ32) (by decide +kernel) rfl).trans ?_
            refine (hb_blk [(.istore 9, 2, 9, 0, 0, 0, 0), (.iload 6, 2, 6, 0, 0, 0, 0)] (pe := 124) (gs := []) (loc' := [.ref 36, .int x1, .int x2, .int (x1 / (1024 : Int32)), .int (x1 - x1 / (1024 : Int32) * (1024 : Int32)), .int y32, .int 1, .int (x1 + (1024 : Int32)), .int (σ32 37 (Int32.toNatClampNeg (σ32 33 (Int32.toNatClampNeg (x1 / (1024 : Int32)))))), .int 0, .null]) (stk' := [.int 1]) (σ' := σ32) (by decide +kernel) rfl).trans ?_
            refine hb_br0F (hb_fe_ok (r := (.ifCond .eq 24, 3, 148, 0, 0, 0, 0)) (by decide +kernel)) (by decide) ?_
            refine (hb_blk [(.aload_n 0, 1, 0, 0, 0, 0, 0), (.getfield 23, 3, 1, 1, 0, 0, 0), (.getfield 36, 3, 6, 2, 0, 0, 0), (.iload_n 3, 1, 3, 0, 0, 0, 0), (.iaload, 1, 0, 0, 0, 0, 0), (.iload 4, 2, 4, 0, 0, 0, 0)] (pe := 138) (gs := [hb_in (x1 / (1024 : Int32)) 16]) (loc' := [.ref 36, .int x1, .int x2, .int (x1 / (1024 : Int32)), .int (x1 - x1 / (1024 : Int32) * (1024 : Int32)), .int y32, .int 1, .int (x1 + (1024 : Int32)), .int (σ32 37 (Int32.toNatClampNeg (σ32 33 (Int32.toNatClampNeg (x1 / (1024 : Int32)))))), .int 0, .null]) (stk' := [.int (x1 - x1 / (1024 : Int32) * (1024 : Int32)), .int (σ32 34 (Int32.toNatClampNeg (x1 / (1024 : Int32))))]) (σ' := σ32) (by decide +kernel) rfl).trans ?_
            refine congrArg (hb_g _) ?_
            refine hb_Si (hb_fe_ok (r := (.invokestatic 39, 3, 70, 2, 0, 0, 0)) (by decide +kernel)) (by decide) (by decide +kernel) (as := [.int (σ32 34 (Int32.toNatClampNeg (x1 / (1024 : Int32)))), .int (x1 - x1 / (1024 : Int32) * (1024 : Int32))]) (rest := []) rfl (Nat.le_of_ble_eq_true rfl) (fun y138 σ138 => ?_)
            refine hb_br0 (hb_fe_ok (r := (.ifCond .ne 7, 3, 148, 0, 0, 0, 0)) (by decide +kernel)) rfl ?_ ?_
            · exact rfl
            · refine (hb_blk [(.iconst 1, 1, 0, 0, 0, 1, 0)] (pe := 145) (gs := []) (loc' := [.ref 36, .int x1, .int x2, .int (x1 / (1024 : Int32)), .int (x1 - x1 / (1024 : Int32) * (1024 : Int32)), .int y32, .int 1, .int (x1 + (1024 : Int32)), .int (σ32 37 (Int32.toNatClampNeg (σ32 33 (Int32.toNatClampNeg (x1 / (1024 : Int32)))))), .int 0, .null]) (stk' := [.int 1]) (σ' := σ138) (by decide +kernel) rfl).trans ?_
              refine (hb_r_goto (hb_fe_ok (r := (.goto 4, 3, 149, 0, 0, 0, 0)) (by decide +kernel))).trans ?_
              exact rfl
          · refine (hb_blk [(.iconst 1, 1, 0, 0, 0, 1, 0)] (pe := 116) (gs := []) (loc' := [.ref 36, .int x1, .int x2, .int (x1 / (1024 : Int32)), .int (x1 - x1 / (1024 : Int32) * (1024 : Int32)), .int y32, .int 1, .int (x1 + (1024 : Int32)), .int (σ32 37 (Int32.toNatClampNeg (σ32 33 (Int32.toNatClampNeg (x1 / (1024 : Int32)))))), .null, .null]) (stk' := [.int 1]) (σ' := σ32) (by decide +kernel) rfl).trans ?_
            refine (hb_r_goto (hb_fe_ok (r := (.goto 4, 3, 120, 0, 0, 0, 0)) (by decide +kernel))).trans ?_
            refine (hb_blk [(.istore 9, 2, 9, 0, 0, 0, 0), (.iload 6, 2, 6, 0, 0, 0, 0)] (pe := 124) (gs := []) (loc' := [.ref 36, .int x1, .int x2, .int (x1 / (1024 : Int32)), .int (x1 - x1 / (1024 : Int32) * (1024 : Int32)), .int y32, .int 1, .int (x1 + (1024 : Int32)), .int (σ32 37 (Int32.toNatClampNeg (σ32 33 (Int32.toNatClampNeg (x1 / (1024 : Int32)))))), .int 1, .null]) (stk' := [.int 1]) (σ' := σ32) (by decide +kernel) rfl).trans ?_
            refine hb_br0F (hb_fe_ok (r := (.ifCond .eq 24, 3, 148, 0, 0, 0, 0)) (by decide +kernel)) (by decide) ?_
            refine (hb_blk [(.aload_n 0, 1, 0, 0, 0, 0, 0), (.getfield 23, 3, 1, 1, 0, 0, 0), (.getfield 36, 3, 6, 2, 0, 0, 0), (.iload_n 3, 1, 3, 0, 0, 0, 0), (.iaload, 1, 0, 0, 0, 0, 0), (.iload 4, 2, 4, 0, 0, 0, 0)] (pe := 138) (gs := [hb_in (x1 / (1024 : Int32)) 16]) (loc' := [.ref 36, .int x1, .int x2, .int (x1 / (1024 : Int32)), .int (x1 - x1 / (1024 : Int32) * (1024 : Int32)), .int y32, .int 1, .int (x1 + (1024 : Int32)), .int (σ32 37 (Int32.toNatClampNeg (σ32 33 (Int32.toNatClampNeg (x1 / (1024 : Int32)))))), .int 1, .null]) (stk' := [.int (x1 - x1 / (1024 : Int32) * (1024 : Int32)), .int (σ32 34 (Int32.toNatClampNeg (x1 / (1024 : Int32))))]) (σ' := σ32) (by decide +kernel) rfl).trans ?_
            refine congrArg (hb_g _) ?_
            refine hb_Si (hb_fe_ok (r := (.invokestatic 39, 3, 70, 2, 0, 0, 0)) (by decide +kernel)) (by decide) (by decide +kernel) (as := [.int (σ32 34 (Int32.toNatClampNeg (x1 / (1024 : Int32)))), .int (x1 - x1 / (1024 : Int32) * (1024 : Int32))]) (rest := []) rfl (Nat.le_of_ble_eq_true rfl) (fun y138 σ138 => ?_)
            refine hb_br0 (hb_fe_ok (r := (.ifCond .ne 7, 3, 148, 0, 0, 0, 0)) (by decide +kernel)) rfl ?_ ?_
            · exact rfl
            · refine (hb_blk [(.iconst 1, 1, 0, 0, 0, 1, 0)] (pe := 145) (gs := []) (loc' := [.ref 36, .int x1, .int x2, .int (x1 / (1024 : Int32)), .int (x1 - x1 / (1024 : Int32) * (1024 : Int32)), .int y32, .int 1, .int (x1 + (1024 : Int32)), .int (σ32 37 (Int32.toNatClampNeg (σ32 33 (Int32.toNatClampNeg (x1 / (1024 : Int32)))))), .int 1, .null]) (stk' := [.int 1]) (σ' := σ138) (by decide +kernel) rfl).trans ?_
              refine (hb_r_goto (hb_fe_ok (r := (.goto 4, 3, 149, 0, 0, 0, 0)) (by decide +kernel))).trans ?_
              exact rfl
      · refine (hb_blk [(.iload 6, 2, 6, 0, 0, 0, 0)] (pe := 64) (gs := []) (loc' := [.ref 36, .int x1, .int x2, .int (x1 / (1024 : Int32)), .int (x1 - x1 / (1024 : Int32) * (1024 : Int32)), .int y32, .int 1, .null, .null, .null, .null]) (stk' := [.int 1]) (σ' := σ32) (by decide +kernel) rfl).trans ?_
        refine hb_br0T (hb_fe_ok (r := (.ifCond .ne 6, 3, 70, 0, 0, 0, 0)) (by decide +kernel)) (by decide) ?_
        refine (hb_blk [(.iload_n 1, 1, 1, 0, 0, 0, 0), (.sipush 1024, 3, 0, 0, 0, 1024, 0), (.iadd, 1, 0, 0, 0, 0, 0), (.istore 7, 2, 7, 0, 0, 0, 0), (.iload 5, 2, 5, 0, 0, 0, 0)] (pe := 79) (gs := []) (loc' := [.ref 36, .int x1, .int x2, .int (x1 / (1024 : Int32)), .int (x1 - x1 / (1024 : Int32) * (1024 : Int32)), .int y32, .int 1, .int (x1 + (1024 : Int32)), .null, .null, .null]) (stk' := [.int y32]) (σ' := σ32) (by decide +kernel) rfl).trans ?_
        refine hb_br0 (hb_fe_ok (r := (.ifCond .eq 20, 3, 99, 0, 0, 0, 0)) (by decide +kernel)) rfl ?_ ?_
        · refine (hb_blk [(.ldc 9, 2, 0, 0, 0, (-1000000), 0)] (pe := 101) (gs := []) (loc' := [.ref 36, .int x1, .int x2, .int (x1 / (1024 : Int32)), .int (x1 - x1 / (1024 : Int32) * (1024 : Int32)), .int y32, .int 1, .int (x1 + (1024 : Int32)), .null, .null, .null]) (stk' := [.int (-1000000)]) (σ' := σ32) (by decide +kernel) rfl).trans ?_
          refine (hb_blk [(.istore 8, 2, 8, 0, 0, 0, 0), (.aload_n 0, 1, 0, 0, 0, 0, 0), (.getfield 23, 3, 1, 1, 0, 0, 0), (.getfield 45, 3, 6, 0, 0, 0, 0), (.iload_n 3, 1, 3, 0, 0, 0, 0), (.iaload, 1, 0, 0, 0, 0, 0)] (pe := 112) (gs := [hb_in (x1 / (1024 : Int32)) 16]) (loc' := [.ref 36, .int x1, .int x2, .int (x1 / (1024 : Int32)), .int (x1 - x1 / (1024 : Int32) * (1024 : Int32)), .int y32, .int 1, .int (x1 + (1024 : Int32)), .int (-1000000), .null, .null]) (stk' := [.int (σ32 32 (Int32.toNatClampNeg (x1 / (1024 : Int32))))]) (σ' := σ32) (by decide +kernel) rfl).trans ?_
          refine congrArg (hb_g _) ?_
          refine hb_br0 (hb_fe_ok (r := (.ifCond .ne 7, 3, 119, 0, 0, 0, 0)) (by decide +kernel)) rfl ?_ ?_
          · refine (hb_blk [(.iconst 0, 1, 0, 0, 0, 0, 0)] (pe := 120) (gs := []) (loc' := [.ref 36, .int x1, .int x2, .int (x1 / (1024 : Int32)), .int (x1 - x1 / (1024 : Int32) * (1024 : Int32)), .int y32, .int 1, .int (x1 + (1024 : Int32)), .int (-1000000), .null, .null]) (stk' := [.int 0]) (σ' := σ32) (by decide +kernel) rfl).trans ?_
            refine (hb_blk [(.istore 9, 2, 9, 0, 0, 0, 0), (.iload 6, 2, 6, 0, 0, 0, 0)] (pe := 124) (gs := []) (loc' := [.ref 36, .int x1, .int x2, .int (x1 / (1024 : Int32)), .int (x1 - x1 / (1024 : Int32) * (1024 : Int32)), .int y32, .int 1, .int (x1 + (1024 : Int32)), .int (-1000000), .int 0, .null]) (stk' := [.int 1]) (σ' := σ32) (by decide +kernel) rfl).trans ?_
            refine hb_br0F (hb_fe_ok (r := (.ifCond .eq 24, 3, 148, 0, 0, 0, 0)) (by decide +kernel)) (by decide) ?_
            refine (hb_blk [(.aload_n 0, 1, 0, 0, 0, 0, 0), (.getfield 23, 3, 1, 1, 0, 0, 0), (.getfield 36, 3, 6, 2, 0, 0, 0), (.iload_n 3, 1, 3, 0, 0, 0, 0), (.iaload, 1, 0, 0, 0, 0, 0), (.iload 4, 2, 4, 0, 0, 0, 0)] (pe := 138) (gs := [hb_in (x1 / (1024 : Int32)) 16]) (loc' := [.ref 36, .int x1, .int x2, .int (x1 / (1024 : Int32)), .int (x1 - x1 / (1024 : Int32) * (1024 : Int32)), .int y32, .int 1, .int (x1 + (1024 : Int32)), .int (-1000000), .int 0, .null]) (stk' := [.int (x1 - x1 / (1024 : Int32) * (1024 : Int32)), .int (σ32 34 (Int32.toNatClampNeg (x1 / (1024 : Int32))))]) (σ' := σ32) (by decide +kernel) rfl).trans ?_
            refine congrArg (hb_g _) ?_
            refine hb_Si (hb_fe_ok (r := (.invokestatic 39, 3, 70, 2, 0, 0, 0)) (by decide +kernel)) (by decide) (by decide +kernel) (as := [.int (σ32 34 (Int32.toNatClampNeg (x1 / (1024 : Int32)))), .int (x1 - x1 / (1024 : Int32) * (1024 : Int32))]) (rest := []) rfl (Nat.le_of_ble_eq_true rfl) (fun y138 σ138 => ?_)
            refine hb_br0 (hb_fe_ok (r := (.ifCond .ne 7, 3, 148, 0, 0, 0, 0)) (by decide +kernel)) rfl ?_ ?_
            · exact rfl
            · refine (hb_blk [(.iconst 1, 1, 0, 0, 0, 1, 0)] (pe := 145) (gs := []) (loc' := [.ref 36, .int x1, .int x2, .int (x1 / (1024 : Int32)), .int (x1 - x1 / (1024 : Int32) * (1024 : Int32)), .int y32, .int 1, .int (x1 + (1024 : Int32)), .int (-1000000), .int 0, .null]) (stk' := [.int 1]) (σ' := σ138) (by decide +kernel) rfl).trans ?_
              refine (hb_r_goto (hb_fe_ok (r := (.goto 4, 3, 149, 0, 0, 0, 0)) (by decide +kernel))).trans ?_
              exact rfl
          · refine (hb_blk [(.iconst 1, 1, 0, 0, 0, 1, 0)] (pe := 116) (gs := []) (loc' := [.ref 36, .int x1, .int x2, .int (x1 / (1024 : Int32)), .int (x1 - x1 / (1024 : Int32) * (1024 : Int32)), .int y32, .int 1, .int (x1 + (1024 : Int32)), .int (-1000000), .null, .null]) (stk' := [.int 1]) (σ' := σ32) (by decide +kernel) rfl).trans ?_
            refine (hb_r_goto (hb_fe_ok (r := (.goto 4, 3, 120, 0, 0, 0, 0)) (by decide +kernel))).trans ?_
            refine (hb_blk [(.istore 9, 2, 9, 0, 0, 0, 0), (.iload 6, 2, 6, 0, 0, 0, 0)] (pe := 124) (gs := []) (loc' := [.ref 36, .int x1, .int x2, .int (x1 / (1024 : Int32)), .int (x1 - x1 / (1024 : Int32) * (1024 : Int32)), .int y32, .int 1, .int (x1 + (1024 : Int32)), .int (-1000000), .int 1, .null]) (stk' := [.int 1]) (σ' := σ32) (by decide +kernel) rfl).trans ?_
            refine hb_br0F (hb_fe_ok (r := (.ifCond .eq 24, 3, 148, 0, 0, 0, 0)) (by decide +kernel)) (by decide) ?_
            refine (hb_blk [(.aload_n 0, 1, 0, 0, 0, 0, 0), (.getfield 23, 3, 1, 1, 0, 0, 0), (.getfield 36, 3, 6, 2, 0, 0, 0), (.iload_n 3, 1, 3, 0, 0, 0, 0), (.iaload, 1, 0, 0, 0, 0, 0), (.iload 4, 2, 4, 0, 0, 0, 0)] (pe := 138) (gs := [hb_in (x1 / (1024 : Int32)) 16]) (loc' := [.ref 36, .int x1, .int x2, .int (x1 / (1024 : Int32)), .int (x1 - x1 / (1024 : Int32) * (1024 : Int32)), .int y32, .int 1, .int (x1 + (1024 : Int32)), .int (-1000000), .int 1, .null]) (stk' := [.int (x1 - x1 / (1024 : Int32) * (1024 : Int32)), .int (σ32 34 (Int32.toNatClampNeg (x1 / (1024 : Int32))))]) (σ' := σ32) (by decide +kernel) rfl).trans ?_
            refine congrArg (hb_g _) ?_
            refine hb_Si (hb_fe_ok (r := (.invokestatic 39, 3, 70, 2, 0, 0, 0)) (by decide +kernel)) (by decide) (by decide +kernel) (as := [.int (σ32 34 (Int32.toNatClampNeg (x1 / (1024 : Int32)))), .int (x1 - x1 / (1024 : Int32) * (1024 : Int32))]) (rest := []) rfl (Nat.le_of_ble_eq_true rfl) (fun y138 σ138 => ?_)
            refine hb_br0 (hb_fe_ok (r := (.ifCond .ne 7, 3, 148, 0, 0, 0, 0)) (by decide +kernel)) rfl ?_ ?_
            · exact rfl
            · refine (hb_blk [(.iconst 1, 1, 0, 0, 0, 1, 0)] (pe := 145) (gs := []) (loc' := [.ref 36, .int x1, .int x2, .int (x1 / (1024 : Int32)), .int (x1 - x1 / (1024 : Int32) * (1024 : Int32)), .int y32, .int 1, .int (x1 + (1024 : Int32)), .int (-1000000), .int 1, .null]) (stk' := [.int 1]) (σ' := σ138) (by decide +kernel) rfl).trans ?_
              refine (hb_r_goto (hb_fe_ok (r := (.goto 4, 3, 149, 0, 0, 0, 0)) (by decide +kernel))).trans ?_
              exact rfl
        · refine (hb_blk [(.aload_n 0, 1, 0, 0, 0, 0, 0), (.getfield 10, 3, 1, 2, 0, 0, 0), (.aload_n 0, 1, 0, 0, 0, 0, 0), (.getfield 23, 3, 1, 1, 0, 0, 0), (.getfield 33, 3, 6, 1, 0, 0, 0), (.iload_n 3, 1, 3, 0, 0, 0, 0), (.iaload, 1, 0, 0, 0, 0, 0), (.iaload, 1, 0, 0, 0, 0, 0)] (pe := 96) (gs := [hb_in (x1 / (1024 : Int32)) 16, hb_in (σ32 33 (Int32.toNatClampNeg (x1 / (1024 : Int32)))) 4]) (loc' := [.ref 36, .int x1, .int x2, .int (x1 / (1024 : Int32)), .int (x1 - x1 / (1024 : Int32) * (1024 : Int32)), .int y32, .int 1, .int (x1 + (1024 : Int32)), .null, .null, .null]) (stk' := [.int (σ32 37 (Int32.toNatClampNeg (σ32 33 (Int32.toNatClampNeg (x1 / (1024 : Int32))))))]) (σ' := σ32) (by decide +kernel) rfl).trans ?_
          refine congrArg (hb_g _) ?_
          refine (hb_r_goto (hb_fe_ok (r := (.goto 5, 3, 101, 0, 0, 0, 0)) (by decide +kernel))).trans ?_
          refine (hb_blk [(.istore 8, 2, 8, 0, 0, 0, 0), (.aload_n 0, 1, 0, 0, 0, 0, 0), (.getfield 23, 3, 1, 1, 0, 0, 0), (.getfield 45, 3, 6, 0, 0, 0, 0), (.iload_n 3, 1, 3, 0, 0, 0, 0), (.iaload, 1, 0, 0, 0, 0, 0)] (pe := 112) (gs := [hb_in (x1 / (1024 : Int32)) 16]) (loc' := [.ref 36, .int x1, .int x2, .int (x1 / (1024 : Int32)), .int (x1 - x1 / (1024 : Int32) * (1024 : Int32)), .int y32, .int 1, .int (x1 + (1024 : Int32)), .int (σ32 37 (Int32.toNatClampNeg (σ32 33 (Int32.toNatClampNeg (x1 / (1024 : Int32)))))), .null, .null]) (stk' := [.int (σ32 32 (Int32.toNatClampNeg (x1 / (1024 : Int32))))]) (σ' := σ32) (by decide +kernel) rfl).trans ?_
          refine congrArg (hb_g _) ?_
          refine hb_br0 (hb_fe_ok (r := (.ifCond .ne 7, 3, 119, 0, 0, 0, 0)) (by decide +kernel)) rfl ?_ ?_
          · refine (hb_blk [(.iconst 0, 1, 0, 0, 0, 0, 0)] (pe := 120) (gs := []) (loc' := [.ref 36, .int x1, .int x2, .int (x1 / (1024 : Int32)), .int (x1 - x1 / (1024 : Int32) * (1024 : Int32)), .int y32, .int 1, .int (x1 + (1024 : Int32)), .int (σ32 37 (Int32.toNatClampNeg (σ32 33 (Int32.toNatClampNeg (x1 / (1024 : Int32)))))), .null, .null]) (stk' := [.int 0]) (σ' := σ32) (by decide +kernel) rfl).trans ?_
            refine (hb_blk [(.istore 9, 2, 9, 0, 0, 0, 0), (.iload 6, 2, 6, 0, 0, 0, 0)] (pe := 124) (gs := []) (loc' := [.ref 36, .int x1, .int x2, .int (x1 / (1024 : Int32)), .int (x1 - x1 / (1024 : Int32) * (1024 : Int32)), .int y32, .int 1, .int (x1 + (1024 : Int32)), .int (σ32 37 (Int32.toNatClampNeg (σ32 33 (Int32.toNatClampNeg (x1 / (1024 : Int32)))))), .int 0, .null]) (stk' := [.int 1]) (σ' := σ32) (by decide +kernel) rfl).trans ?_
            refine hb_br0F (hb_fe_ok (r := (.ifCond .eq 24, 3, 148, 0, 0, 0, 0)) (by decide +kernel)) (by decide) ?_
            refine (hb_blk [(.aload_n 0, 1, 0, 0, 0, 0, 0), (.getfield 23, 3, 1, 1, 0, 0, 0), (.getfield 36, 3, 6, 2, 0, 0, 0), (.iload_n 3, 1, 3, 0, 0, 0, 0), (.iaload, 1, 0, 0, 0, 0, 0), (.iload 4, 2, 4, 0, 0, 0, 0)] (pe := 138) (gs := [hb_in (x1 / (1024 : Int32)) 16]) (loc' := [.ref 36, .int x1, .int x2, .int (x1 / (1024 : Int32)), .int (x1 - x1 / (1024 : Int32) * (1024 : Int32)), .int y32, .int 1, .int (x1 + (1024 : Int32)), .int (σ32 37 (Int32.toNatClampNeg (σ32 33 (Int32.toNatClampNeg (x1 / (1024 : Int32)))))), .int 0, .null]) (stk' := [.int (x1 - x1 / (1024 : Int32) * (1024 : Int32)), .int (σ32 34 (Int32.toNatClampNeg (x1 / (1024 : Int32))))]) (σ' := σ32) (by decide +kernel) rfl).trans ?_
            refine congrArg (hb_g _) ?_
            refine hb_Si (hb_fe_ok (r := (.invokestatic 39, 3, 70, 2, 0, 0, 0)) (by decide +kernel)) (by decide) (by decide +kernel) (as := [.int (σ32 34 (Int32.toNatClampNeg (x1 / (1024 : Int32)))), .int (x1 - x1 / (1024 : Int32) * (1024 : Int32))]) (rest := []) rfl (Nat.le_of_ble_eq_true rfl) (fun y138 σ138 => ?_)
            refine hb_br0 (hb_fe_ok (r := (.ifCond .ne 7, 3, 148, 0, 0, 0, 0)) (by decide +kernel)) rfl ?_ ?_
            · exact rfl
            · refine (hb_blk [(.iconst 1, 1, 0, 0, 0, 1, 0)] (pe := 145) (gs := []) (loc' := [.ref 36, .int x1, .int x2, .int (x1 / (1024 : Int32)), .int (x1 - x1 / (1024 : Int32) * (1024 : Int32)), .int y32, .int 1, .int (x1 + (1024 : Int32)), .int (σ32 37 (Int32.toNatClampNeg (σ32 33 (Int32.toNatClampNeg (x1 / (1024 : Int32)))))), .int 0, .null]) (stk' := [.int 1]) (σ' := σ138) (by decide +kernel) rfl).trans ?_
              refine (hb_r_goto (hb_fe_ok (r := (.goto 4, 3, 149, 0, 0, 0, 0)) (by decide +kernel))).trans ?_
              exact rfl
          · refine (hb_blk [(.iconst 1, 1, 0, 0, 0, 1, 0)] (pe := 116) (gs := []) (loc' := [.ref 36, .int x1, .int x2, .int (x1 / (1024 : Int32)), .int (x1 - x1 / (1024 : Int32) * (1024 : Int32)), .int y32, .int 1, .int (x1 + (1024 : Int32)), .int (σ32 37 (Int32.toNatClampNeg (σ32 33 (Int32.toNatClampNeg (x1 / (1024 : Int32)))))), .null, .null]) (stk' := [.int 1]) (σ' := σ32) (by decide +kernel) rfl).trans ?_
            refine (hb_r_goto (hb_fe_ok (r := (.goto 4, 3, 120, 0, 0, 0, 0)) (by decide +kernel))).trans ?_
            refine (hb_blk [(.istore 9, 2, 9, 0, 0, 0, 0), (.iload 6, 2, 6, 0, 0, 0, 0)] (pe := 124) (gs := []) (loc' := [.ref 36, .int x1, .int x2, .int (x1 / (1024 : Int32)), .int (x1 - x1 / (1024 : Int32) * (1024 : Int32)), .int y32, .int 1, .int (x1 + (1024 : Int32)), .int (σ32 37 (Int32.toNatClampNeg (σ32 33 (Int32.toNatClampNeg (x1 / (1024 : Int32)))))), .int 1, .null]) (stk' := [.int 1]) (σ' := σ32) (by decide +kernel) rfl).trans ?_
            refine hb_br0F (hb_fe_ok (r := (.ifCond .eq 24, 3, 148, 0, 0, 0, 0)) (by decide +kernel)) (by decide) ?_
            refine (hb_blk [(.aload_n 0, 1, 0, 0, 0, 0, 0), (.getfield 23, 3, 1, 1, 0, 0, 0), (.getfield 36, 3, 6, 2, 0, 0, 0), (.iload_n 3, 1, 3, 0, 0, 0, 0), (.iaload, 1, 0, 0, 0, 0, 0), (.iload 4, 2, 4, 0, 0, 0, 0)] (pe := 138) (gs := [hb_in (x1 / (1024 : Int32)) 16]) (loc' := [.ref 36, .int x1, .int x2, .int (x1 / (1024 : Int32)), .int (x1 - x1 / (1024 : Int32) * (1024 : Int32)), .int y32, .int 1, .int (x1 + (1024 : Int32)), .int (σ32 37 (Int32.toNatClampNeg (σ32 33 (Int32.toNatClampNeg (x1 / (1024 : Int32)))))), .int 1, .null]) (stk' := [.int (x1 - x1 / (1024 : Int32) * (1024 : Int32)), .int (σ32 34 (Int32.toNatClampNeg (x1 / (1024 : Int32))))]) (σ' := σ32) (by decide +kernel) rfl).trans ?_
            refine congrArg (hb_g _) ?_
            refine hb_Si (hb_fe_ok (r := (.invokestatic 39, 3, 70, 2, 0, 0, 0)) (by decide +kernel)) (by decide) (by decide +kernel) (as := [.int (σ32 34 (Int32.toNatClampNeg (x1 / (1024 : Int32)))), .int (x1 - x1 / (1024 : Int32) * (1024 : Int32))]) (rest := []) rfl (Nat.le_of_ble_eq_true rfl) (fun y138 σ138 => ?_)
            refine hb_br0 (hb_fe_ok (r := (.ifCond .ne 7, 3, 148, 0, 0, 0, 0)) (by decide +kernel)) rfl ?_ ?_
            · exact rfl
            · refine (hb_blk [(.iconst 1, 1, 0, 0, 0, 1, 0)] (pe := 145) (gs := []) (loc' := [.ref 36, .int x1, .int x2, .int (x1 / (1024 : Int32)), .int (x1 - x1 / (1024 : Int32) * (1024 : Int32)), .int y32, .int 1, .int (x1 + (1024 : Int32)), .int (σ32 37 (Int32.toNatClampNeg (σ32 33 (Int32.toNatClampNeg (x1 / (1024 : Int32)))))), .int 1, .null]) (stk' := [.int 1]) (σ' := σ138) (by decide +kernel) rfl).trans ?_
              refine (hb_r_goto (hb_fe_ok (r := (.goto 4, 3, 149, 0, 0, 0, 0)) (by decide +kernel))).trans ?_
              exact rfl
  · refine (hb_blk [(.ldc 9, 2, 0, 0, 0, (-1000000), 0)] (pe := 26) (gs := []) (loc' := [.ref 36, .int x1, .int x2, .int (x1 / (1024 : Int32)), .int (x1 - x1 / (1024 : Int32) * (1024 : Int32)), .null, .null, .null, .null, .null, .null]) (stk' := [.int (-1000000)]) (σ' := σ18) (by decide +kernel) rfl).trans ?_
    exact hb_r_iret (hb_fe_ok (r := (.ireturn, 1, 0, 0, 0, 0, 0)) (by decide +kernel))
set_option maxRecDepth 8000 in
theorem e10_148  (σ : hbM) (x1 : Int32) (x2 : Int32) (x3 : Int32) (x4 : Int32) (x5 : Int32) (x6 : Int32) (x7 : Int32) (x8 : Int32) (x9 : Int32) : hb_run hbSH 10 (148, [.ref 36, .int x1, .int x2, .int x3, .int x4, .int x5, .int x6, .int x7, .int x8, .int x9, .null], [], σ) = hb_run hbSH 10 (149, [.ref 36, .int x1, .int x2, .int x3, .int x4, .int x5, .int x6, .int x7, .int x8, .int x9, .null], [.int 0], σ) := by
  refine (hb_blk [(.iconst 0, 1, 0, 0, 0, 0, 0)] (pe := 149) (gs := []) (loc' := [.ref 36, .int x1, .int x2, .int x3, .int x4, .int x5, .int x6, .int x7, .int x8, .int x9, .null]) (stk' := [.int 0]) (σ' := σ) (by decide +kernel) rfl).trans ?_
  exact rfl
set_option maxRecDepth 8000 in
theorem e10_149  (σ : hbM) (x1 : Int32) (x2 : Int32) (x3 : Int32) (x4 : Int32) (x5 : Int32) (x6 : Int32) (x7 : Int32) (x8 : Int32) (x9 : Int32) (s0 : Int32) : hb_run hbSH 10 (149, [.ref 36, .int x1, .int x2, .int x3, .int x4, .int x5, .int x6, .int x7, .int x8, .int x9, .null], [.int s0], σ) = if (x2 = 0) then (some (some (.int x7), σ)) else (if (x2 = 1) then (if (¬ x8 = (-1000000 : Int32)) then (hb_ci (hb_ev hbSH 71 [.ref 0, .int x4, .int x8, .int x9] σ) (fun y210 σ210 => some (some (.int ((x7 - x4) + y210)), σ210))) else (some (some (.int (-1000000)), σ))) else (if (x2 = 2) then (if (s0 = (0 : Int32)) then (some (some (.int (-1000000)), σ)) else (hb_g [hb_in x4 1024] (some (some (.int ((x7 - x4) + (σ 10 (Int32.toNatClampNeg x4)))), σ)))) else (if (¬ x3 = (0 : Int32)) then (some (some (.int (x1 - (1024 : Int32))), σ)) else (some (some (.int (-1000000)), σ))))) := by
  refine (hb_blk [(.istore 10, 2, 10, 0, 0, 0, 0), (.iload_n 2, 1, 2, 0, 0, 0, 0)] (pe := 152) (gs := []) (loc' := [.ref 36, .int x1, .int x2, .int x3, .int x4, .int x5, .int x6, .int x7, .int x8, .int x9, .int s0]) (stk' := [.int x2]) (σ' := σ) (by decide +kernel) rfl).trans ?_
  refine hb_r_sw (hb_fe_ok (r := (.tableswitch 90 0 2 #[28, 31, 63], 28, 0, 0, 0, 0, 0)) (by decide +kernel)) ?_
  refine hb_swc (z := 0) (q := 180) ?_ ?_
  · refine (hb_blk [(.iload 7, 2, 7, 0, 0, 0, 0)] (pe := 182) (gs := []) (loc' := [.ref 36, .int x1, .int x2, .int x3, .int x4, .int x5, .int x6, .int x7, .int x8, .int x9, .int s0]) (stk' := [.int x7]) (σ' := σ) (by decide +kernel) rfl).trans ?_
    exact hb_r_iret (hb_fe_ok (r := (.ireturn, 1, 0, 0, 0, 0, 0)) (by decide +kernel))
  refine hb_swc (z := 1) (q := 183) ?_ ?_
  · refine (hb_blk [(.iload 8, 2, 8, 0, 0, 0, 0), (.ldc 9, 2, 0, 0, 0, (-1000000), 0)] (pe := 187) (gs := []) (loc' := [.ref 36, .int x1, .int x2, .int x3, .int x4, .int x5, .int x6, .int x7, .int x8, .int x9, .int s0]) (stk' := [.int (-1000000), .int x8]) (σ' := σ) (by decide +kernel) rfl).trans ?_
    refine hb_br (hb_fe_ok (r := (.if_icmp .ne 8, 3, 195, 0, 0, 0, 0)) (by decide +kernel)) rfl ?_ ?_
    · refine (hb_blk [(.iload 7, 2, 7, 0, 0, 0, 0), (.iload 4, 2, 4, 0, 0, 0, 0), (.isub, 1, 0, 0, 0, 0, 0), (.aload_n 0, 1, 0, 0, 0, 0, 0), (.getfield 19, 3, 1, 0, 0, 0, 0), (.iload 4, 2, 4, 0, 0, 0, 0), (.iload 8, 2, 8, 0, 0, 0, 0), (.iload 9, 2, 9, 0, 0, 0, 0)] (pe := 210) (gs := []) (loc' := [.ref 36, .int x1, .int x2, .int x3, .int x4, .int x5, .int x6, .int x7, .int x8, .int x9, .int s0]) (stk' := [.int x9, .int x8, .int x4, .ref 0, .int (x7 - x4)]) (σ' := σ) (by decide +kernel) rfl).trans ?_
      refine hb_Vi (hb_fe_ok (r := (.invokevirtual 48, 3, 71, 3, 0, 0, 0)) (by decide +kernel)) (by decide +kernel) (as := [.int x4, .int x8, .int x9]) (v := .ref 0) (rest := [.int (x7 - x4)]) rfl rfl (Nat.le_of_ble_eq_true rfl) (fun y210 σ210 => ?_)
      refine (hb_blk [(.iadd, 1, 0, 0, 0, 0, 0)] (pe := 214) (gs := []) (loc' := [.ref 36, .int x1, .int x2, .int x3, .int x4, .int x5, .int x6, .int x7, .int x8, .int x9, .int s0]) (stk' := [.int ((x7 - x4) + y210)]) (σ' := σ210) (by decide +kernel) rfl).trans ?_
      exact hb_r_iret (hb_fe_ok (r := (.ireturn, 1, 0, 0, 0, 0, 0)) (by decide +kernel))
    · refine (hb_blk [(.ldc 9, 2, 0, 0, 0, (-1000000), 0)] (pe := 192) (gs := []) (loc' := [.ref 36, .int x1, .int x2, .int x3, .int x4, .int x5, .int x6, .int x7, .int x8, .int x9, .int s0]) (stk' := [.int (-1000000)]) (σ' := σ) (by decide +kernel) rfl).trans ?_
      refine (hb_r_goto (hb_fe_ok (r := (.goto 22, 3, 214, 0, 0, 0, 0)) (by decide +kernel))).trans ?_
      exact hb_r_iret (hb_fe_ok (r := (.ireturn, 1, 0, 0, 0, 0, 0)) (by decide +kernel))
  refine hb_swc (z := 2) (q := 215) ?_ ?_
  · refine (hb_blk [(.iload 10, 2, 10, 0, 0, 0, 0)] (pe := 217) (gs := []) (loc' := [.ref 36, .int x1, .int x2, .int x3, .int x4, .int x5, .int x6, .int x7, .int x8, .int x9, .int s0]) (stk' := [.int s0]) (σ' := σ) (by decide +kernel) rfl).trans ?_
    refine hb_br0 (hb_fe_ok (r := (.ifCond .eq 22, 3, 239, 0, 0, 0, 0)) (by decide +kernel)) rfl ?_ ?_
    · refine (hb_blk [(.ldc 9, 2, 0, 0, 0, (-1000000), 0)] (pe := 241) (gs := []) (loc' := [.ref 36, .int x1, .int x2, .int x3, .int x4, .int x5, .int x6, .int x7, .int x8, .int x9, .int s0]) (stk' := [.int (-1000000)]) (σ' := σ) (by decide +kernel) rfl).trans ?_
      exact hb_r_iret (hb_fe_ok (r := (.ireturn, 1, 0, 0, 0, 0, 0)) (by decide +kernel))
    · refine (hb_blk [(.iload 7, 2, 7, 0, 0, 0, 0), (.iload 4, 2, 4, 0, 0, 0, 0), (.isub, 1, 0, 0, 0, 0, 0), (.aload_n 0, 1, 0, 0, 0, 0, 0), (.getfield 19, 3, 1, 0, 0, 0, 0), (.getfield 52, 3, 10, 5, 0, 0, 0), (.iload 4, 2, 4, 0, 0, 0, 0), (.iaload, 1, 0, 0, 0, 0, 0), (.iadd, 1, 0, 0, 0, 0, 0)] (pe := 236) (gs := [hb_in x4 1024]) (loc' := [.ref 36, .int x1, .int x2, .int x3, .int x4, .int x5, .int x6, .int x7, .int x8, .int x9, .int s0]) (stk' := [.int ((x7 - x4) + (σ 10 (Int32.toNatClampNeg x4)))]) (σ' := σ) (by decide +kernel) rfl).trans ?_
      refine congrArg (hb_g _) ?_
      refine (hb_r_goto (hb_fe_ok (r := (.goto 5, 3, 241, 0, 0, 0, 0)) (by decide +kernel))).trans ?_
      exact hb_r_iret (hb_fe_ok (r := (.ireturn, 1, 0, 0, 0, 0, 0)) (by decide +kernel))
  refine hb_swd 242 rfl ?_
  refine (hb_blk [(.iload_n 3, 1, 3, 0, 0, 0, 0)] (pe := 243) (gs := []) (loc' := [.ref 36, .int x1, .int x2, .int x3, .int x4, .int x5, .int x6, .int x7, .int x8, .int x9, .int s0]) (stk' := [.int x3]) (σ' := σ) (by decide +kernel) rfl).trans ?_
  refine hb_br0 (hb_fe_ok (r := (.ifCond .ne 8, 3, 251, 0, 0, 0, 0)) (by decide +kernel)) rfl ?_ ?_
  · refine (hb_blk [(.iload_n 1, 1, 1, 0, 0, 0, 0), (.sipush 1024, 3, 0, 0, 0, 1024, 0), (.isub, 1, 0, 0, 0, 0, 0)] (pe := 256) (gs := []) (loc' := [.ref 36, .int x1, .int x2, .int x3, .int x4, .int x5, .int x6, .int x7, .int x8, .int x9, .int s0]) (stk' := [.int (x1 - (1024 : Int32))]) (σ' := σ) (by decide +kernel) rfl).trans ?_
    exact hb_r_iret (hb_fe_ok (r := (.ireturn, 1, 0, 0, 0, 0, 0)) (by decide +kernel))
  · refine (hb_blk [(.ldc 9, 2, 0, 0, 0, (-1000000), 0)] (pe := 248) (gs := []) (loc' := [.ref 36, .int x1, .int x2, .int x3, .int x4, .int x5, .int x6, .int x7, .int x8, .int x9, .int s0]) (stk' := [.int (-1000000)]) (σ' := σ) (by decide +kernel) rfl).trans ?_
    refine (hb_r_goto (hb_fe_ok (r := (.goto 8, 3, 256, 0, 0, 0, 0)) (by decide +kernel))).trans ?_
    exact hb_r_iret (hb_fe_ok (r := (.ireturn, 1, 0, 0, 0, 0, 0)) (by decide +kernel))
set_option maxRecDepth 8000 in
theorem e11_0  (σ : hbM) (x0 : Int32) : hb_run hbSH 11 (0, [.int x0], [], σ) = if (x0 = (1 : Int32)) then (some (some (.int 1), σ)) else (if (¬ x0 = (2 : Int32)) then (some (some (.int 0), σ)) else (some (some (.int 1), σ))) := by
  refine (hb_blk [(.iload_n 0, 1, 0, 0, 0, 0, 0), (.iconst 1, 1, 0, 0, 0, 1, 0)] (pe := 2) (gs := []) (loc' := [.int x0]) (stk' := [.int 1, .int x0]) (σ' := σ) (by decide +kernel) rfl).trans ?_
  refine hb_br (hb_fe_ok (r := (.if_icmp .eq 8, 3, 10, 0, 0, 0, 0)) (by decide +kernel)) rfl ?_ ?_
  · refine (hb_blk [(.iconst 1, 1, 0, 0, 0, 1, 0)] (pe := 11) (gs := []) (loc' := [.int x0]) (stk' := [.int 1]) (σ' := σ) (by decide +kernel) rfl).trans ?_
    refine (hb_r_goto (hb_fe_ok (r := (.goto 4, 3, 15, 0, 0, 0, 0)) (by decide +kernel))).trans ?_
    exact hb_r_zret1 (hb_fe_ok (r := (.ireturn, 1, 0, 0, 1, 0, 0)) (by decide +kernel)) (by decide)
  · refine (hb_blk [(.iload_n 0, 1, 0, 0, 0, 0, 0), (.iconst 2, 1, 0, 0, 0, 2, 0)] (pe := 7) (gs := []) (loc' := [.int x0]) (stk' := [.int 2, .int x0]) (σ' := σ) (by decide +kernel) rfl).trans ?_
    refine hb_br (hb_fe_ok (r := (.if_icmp .ne 7, 3, 14, 0, 0, 0, 0)) (by decide +kernel)) rfl ?_ ?_
    · refine (hb_blk [(.iconst 0, 1, 0, 0, 0, 0, 0)] (pe := 15) (gs := []) (loc' := [.int x0]) (stk' := [.int 0]) (σ' := σ) (by decide +kernel) rfl).trans ?_
      exact hb_r_zret1 (hb_fe_ok (r := (.ireturn, 1, 0, 0, 1, 0, 0)) (by decide +kernel)) (by decide)
    · refine (hb_blk [(.iconst 1, 1, 0, 0, 0, 1, 0)] (pe := 11) (gs := []) (loc' := [.int x0]) (stk' := [.int 1]) (σ' := σ) (by decide +kernel) rfl).trans ?_
      refine (hb_r_goto (hb_fe_ok (r := (.goto 4, 3, 15, 0, 0, 0, 0)) (by decide +kernel))).trans ?_
      exact hb_r_zret1 (hb_fe_ok (r := (.ireturn, 1, 0, 0, 1, 0, 0)) (by decide +kernel)) (by decide)
set_option maxRecDepth 8000 in
theorem e12_0a  (σ : hbM) (x1 : Int32) (x2 : Int32) : hb_run hbSH 12 (0, [.ref 1, .int x1, .int x2], [], σ) = if ((4 : Int32) ≤ (σ 1 3)) then (some (none, σ)) else (hb_ci (hb_ev hbSH 110 [.int x1, .int 3] σ) (fun y10 σ10 => if (y10 = (0 : Int32)) then (some (none, σ10)) else (hb_g [hb_in (((σ10 1 3) * (3 : Int32)) + x1) 12, hb_in (σ10 1 3) 4] (some (none, (hb_up (hb_up σ10 2 (Int32.toNatClampNeg (((σ10 1 3) * (3 : Int32)) + x1)) x2) 3 (Int32.toNatClampNeg (σ10 1 3)) (x1 + (1 : Int32)))))))) := by
  refine (hb_blk [(.aload_n 0, 1, 0, 0, 0, 0, 0), (.getfield 18, 3, 2, 3, 0, 0, 0), (.iconst 4, 1, 0, 0, 0, 4, 0)] (pe := 5) (gs := []) (loc' := [.ref 1, .int x1, .int x2]) (stk' := [.int 4, .int (σ 1 3)]) (σ' := σ) (by decide +kernel) rfl).trans ?_
  refine hb_br (hb_fe_ok (r := (.if_icmp .ge 37, 3, 42, 0, 0, 0, 0)) (by decide +kernel)) rfl ?_ ?_
  · exact hb_r_vret (hb_fe_ok (r := (.return_, 1, 0, 0, 0, 0, 0)) (by decide +kernel))
  · refine (hb_blk [(.iload_n 1, 1, 1, 0, 0, 0, 0), (.iconst 3, 1, 0, 0, 0, 3, 0)] (pe := 10) (gs := []) (loc' := [.ref 1, .int x1, .int x2]) (stk' := [.int 3, .int x1]) (σ' := σ) (by decide +kernel) rfl).trans ?_
    refine hb_Si (hb_fe_ok (r := (.invokestatic 22, 3, 110, 2, 1, 0, 0)) (by decide +kernel)) (by decide) (by decide +kernel) (as := [.int x1, .int 3]) (rest := []) rfl (Nat.le_of_ble_eq_true rfl) (fun y10 σ10 => ?_)
    refine hb_br0 (hb_fe_ok (r := (.ifCond .eq 29, 3, 42, 0, 0, 0, 0)) (by decide +kernel)) rfl ?_ ?_
    · exact hb_r_vret (hb_fe_ok (r := (.return_, 1, 0, 0, 0, 0, 0)) (by decide +kernel))
    · refine (hb_blk [(.aload_n 0, 1, 0, 0, 0, 0, 0), (.getfield 9, 3, 2, 0, 0, 0, 0), (.aload_n 0, 1, 0, 0, 0, 0, 0), (.getfield 18, 3, 2, 3, 0, 0, 0), (.iconst 3, 1, 0, 0, 0, 3, 0), (.imul, 1, 0, 0, 0, 0, 0), (.iload_n 1, 1, 1, 0, 0, 0, 0), (.iadd, 1, 0, 0, 0, 0, 0), (.iload_n 2, 1, 2, 0, 0, 0, 0), (.iastore, 1, 0, 0, 0, 0, 0), (.aload_n 0, 1, 0, 0, 0, 0, 0), (.getfield 15, 3, 2, 1, 0, 0, 0), (.aload_n 0, 1, 0, 0, 0, 0, 0), (.getfield 18, 3, 2, 3, 0, 0, 0), (.iload_n 1, 1, 1, 0, 0, 0, 0), (.iconst 1, 1, 0, 0, 0, 1, 0), (.iadd, 1, 0, 0, 0, 0, 0), (.iastore, 1, 0, 0, 0, 0, 0)] (pe := 42) (gs := [hb_in (((σ10 1 3) * (3 : Int32)) + x1) 12, hb_in (σ10 1 3) 4]) (loc' := [.ref 1, .int x1, .int x2]) (stk' := []) (σ' := (hb_up (hb_up σ10 2 (Int32.toNatClampNeg (((σ10 1 3) * (3 : Int32)) + x1)) x2) 3 (Int32.toNatClampNeg (σ10 1 3)) (x1 + (1 : Int32)))) (by decide +kernel) rfl).trans ?_
      refine congrArg (hb_g _) ?_
      exact hb_r_vret (hb_fe_ok (r := (.return_, 1, 0, 0, 0, 0, 0)) (by decide +kernel))
set_option maxRecDepth 8000 in
theorem e12_0b  (σ : hbM) (x1 : Int32) (x2 : Int32) : hb_run hbSH 12 (0, [.ref 4, .int x1, .int x2], [], σ) = if ((4 : Int32) ≤ (σ 4 3)) then (some (none, σ)) else (hb_ci (hb_ev hbSH 110 [.int x1, .int 3] σ) (fun y10 σ10 => if (y10 = (0 : Int32)) then (some (none, σ10)) else (hb_g [hb_in (((σ10 4 3) * (3 : Int32)) + x1) 12, hb_in (σ10 4 3) 4] (some (none, (hb_up (hb_up σ10 5 (Int32.toNatClampNeg (((σ10 4 3) * (3 : Int32)) + x1)) x2) 6 (Int32.toNatClampNeg (σ10 4 3)) (x1 + (1 : Int32)))))))) := by
  refine (hb_blk [(.aload_n 0, 1, 0, 0, 0, 0, 0), (.getfield 18, 3, 2, 3, 0, 0, 0), (.iconst 4, 1, 0, 0, 0, 4, 0)] (pe := 5) (gs := []) (loc' := [.ref 4, .int x1, .int x2]) (stk' := [.int 4, .int (σ 4 3)]) (σ' := σ) (by decide +kernel) rfl).trans ?_
  refine hb_br (hb_fe_ok (r := (.if_icmp .ge 37, 3, 42, 0, 0, 0, 0)) (by decide +kernel)) rfl ?_ ?_
  · exact hb_r_vret (hb_fe_ok (r := (.return_, 1, 0, 0, 0, 0, 0)) (by decide +kernel))
  · refine (hb_blk [(.iload_n 1, 1, 1, 0, 0, 0, 0), (.iconst 3, 1, 0, 0, 0, 3, 0)] (pe := 10) (gs := []) (loc' := [.ref 4, .int x1, .int x2]) (stk' := [.int 3, .int x1]) (σ' := σ) (by decide +kernel) rfl).trans ?_
    refine hb_Si (hb_fe_ok (r := (.invokestatic 22, 3, 110, 2, 1, 0, 0)) (by decide +kernel)) (by decide) (by decide +kernel) (as := [.int x1, .int 3]) (rest := []) rfl (Nat.le_of_ble_eq_true rfl) (fun y10 σ10 => ?_)
    refine hb_br0 (hb_fe_ok (r := (.ifCond .eq 29, 3, 42, 0, 0, 0, 0)) (by decide +kernel)) rfl ?_ ?_
    · exact hb_r_vret (hb_fe_ok (r := (.return_, 1, 0, 0, 0, 0, 0)) (by decide +kernel))
    · refine (hb_blk [(.aload_n 0, 1, 0, 0, 0, 0, 0), (.getfield 9, 3, 2, 0, 0, 0, 0), (.aload_n 0, 1, 0, 0, 0, 0, 0), (.getfield 18, 3, 2, 3, 0, 0, 0), (.iconst 3, 1, 0, 0, 0, 3, 0), (.imul, 1, 0, 0, 0, 0, 0), (.iload_n 1, 1, 1, 0, 0, 0, 0), (.iadd, 1, 0, 0, 0, 0, 0), (.iload_n 2, 1, 2, 0, 0, 0, 0), (.iastore, 1, 0, 0, 0, 0, 0), (.aload_n 0, 1, 0, 0, 0, 0, 0), (.getfield 15, 3, 2, 1, 0, 0, 0), (.aload_n 0, 1, 0, 0, 0, 0, 0), (.getfield 18, 3, 2, 3, 0, 0, 0), (.iload_n 1, 1, 1, 0, 0, 0, 0), (.iconst 1, 1, 0, 0, 0, 1, 0), (.iadd, 1, 0, 0, 0, 0, 0), (.iastore, 1, 0, 0, 0, 0, 0)] (pe := 42) (gs := [hb_in (((σ10 4 3) * (3 : Int32)) + x1) 12, hb_in (σ10 4 3) 4]) (loc' := [.ref 4, .int x1, .int x2]) (stk' := []) (σ' := (hb_up (hb_up σ10 5 (Int32.toNatClampNeg (((σ10 4 3) * (3 : Int32)) + x1)) x2) 6 (Int32.toNatClampNeg (σ10 4 3)) (x1 + (1 : Int32)))) (by decide +kernel) rfl).trans ?_
      refine congrArg (hb_g _) ?_
      exact hb_r_vret (hb_fe_ok (r := (.return_, 1, 0, 0, 0, 0, 0)) (by decide +kernel))
set_option maxRecDepth 8000 in
theorem e14_0  (σ : hbM) : hb_run hbSH 14 (0, [.ref 43, .null, .null], [], σ) = hb_cv (hb_ev hbSH 44 [.ref 39] σ) (fun σ4 => hb_cv (hb_ev hbSH 73 [.ref 0] σ4) (fun σ11 => hb_g [hb_in 0 401] (hb_run hbSH 14 (50, [.ref 43, .int 1, .int 0], [], (hb_up (hb_up (hb_up σ11 31 5 (σ11 31 4)) 43 5 0) 43 6 (σ11 42 (Int32.toNatClampNeg 0))))))) := by
  refine (hb_blk [(.aload_n 0, 1, 0, 0, 0, 0, 0), (.getfield 9, 3, 3, 0, 0, 0, 0)] (pe := 4) (gs := []) (loc' := [.ref 43, .null, .null]) (stk' := [.ref 39]) (σ' := σ) (by decide +kernel) rfl).trans ?_
  refine hb_Vv (hb_fe_ok (r := (.invokevirtual 23, 3, 44, 0, 0, 0, 0)) (by decide +kernel)) (by decide +kernel) (as := []) (v := .ref 39) (rest := []) rfl rfl (Nat.le_of_ble_eq_true rfl) (fun σ4 => ?_)
  refine (hb_blk [(.aload_n 0, 1, 0, 0, 0, 0, 0), (.getfield 15, 3, 3, 1, 0, 0, 0)] (pe := 11) (gs := []) (loc' := [.ref 43, .null, .null]) (stk' := [.ref 0]) (σ' := σ4) (by decide +kernel) rfl).trans ?_
  refine hb_Vv (hb_fe_ok (r := (.invokevirtual 28, 3, 73, 0, 0, 0, 0)) (by decide +kernel)) (by decide +kernel) (as := []) (v := .ref 0) (rest := []) rfl rfl (Nat.le_of_ble_eq_true rfl) (fun σ11 => ?_)
  refine (hb_blk [(.aload_n 0, 1, 0, 0, 0, 0, 0), (.getfield 19, 3, 3, 2, 0, 0, 0), (.aload_n 0, 1, 0, 0, 0, 0, 0), (.getfield 19, 3, 3, 2, 0, 0, 0), (.getfield 33, 3, 6, 4, 0, 0, 0), (.putfield 39, 3, 6, 5, 0, 0, 0), (.aload_n 0, 1, 0, 0, 0, 0, 0), (.iconst 0, 1, 0, 0, 0, 0, 0), (.putfield 42, 3, 3, 5, 0, 0, 0), (.aload_n 0, 1, 0, 0, 0, 0, 0), (.aload_n 0, 1, 0, 0, 0, 0, 0), (.getfield 9, 3, 3, 0, 0, 0, 0), (.getfield 45, 3, 7, 2, 0, 0, 0), (.iconst 0, 1, 0, 0, 0, 0, 0), (.iaload, 1, 0, 0, 0, 0, 0), (.putfield 49, 3, 3, 6, 0, 0, 0), (.iconst 1, 1, 0, 0, 0, 1, 0), (.istore_n 1, 1, 1, 0, 0, 0, 0), (.iconst 0, 1, 0, 0, 0, 0, 0), (.istore_n 2, 1, 2, 0, 0, 0, 0)] (pe := 50) (gs := [hb_in 0 401]) (loc' := [.ref 43, .int 1, .int 0]) (stk' := []) (σ' := (hb_up (hb_up (hb_up σ11 31 5 (σ11 31 4)) 43 5 0) 43 6 (σ11 42 (Int32.toNatClampNeg 0)))) (by decide +kernel) rfl).trans ?_
  refine congrArg (hb_g _) ?_
  exact rfl
set_option maxRecDepth 8000 in
theorem e14_50  (σ : hbM) (x1 : Int32) (x2 : Int32) : hb_run hbSH 14 (50, [.ref 43, .int x1, .int x2], [], σ) = if ((400 : Int32) ≤ x2) then (if (x1 = (0 : Int32)) then (hb_g [hb_01 x1] (some (some (.int x1), (hb_up σ 39 3 0)))) else (hb_cv (hb_ev hbSH 74 [.ref 0] σ) (fun σ89 => hb_g [hb_01 x1] (some (some (.int x1), (hb_up (hb_up σ89 31 4 (σ89 31 5)) 39 3 0)))))) else (if (x1 = (0 : Int32)) then (if (x1 = (0 : Int32)) then (hb_g [hb_01 x1] (some (some (.int x1), (hb_up σ 39 3 0)))) else (hb_cv (hb_ev hbSH 74 [.ref 0] σ) (fun σ89 => hb_g [hb_01 x1] (some (some (.int x1), (hb_up (hb_up σ89 31 4 (σ89 31 5)) 39 3 0)))))) else (if ((σ 43 6) = (21 : Int32)) then (if (x1 = (0 : Int32)) then (hb_g [hb_01 x1] (some (some (.int x1), (hb_up σ 39 3 0)))) else (hb_cv (hb_ev hbSH 74 [.ref 0] σ) (fun σ89 => hb_g [hb_01 x1] (some (some (.int x1), (hb_up (hb_up σ89 31 4 (σ89 31 5)) 39 3 0)))))) else (hb_ci (hb_ev hbSH 15 [.ref 43] σ) (fun y71 σ71 => hb_run hbSH 14 (50, [.ref 43, .int y71, .int (x2 + (1 : Int32))], [], σ71))))) := by
  refine (hb_blk [(.iload_n 2, 1, 2, 0, 0, 0, 0), (.sipush 400, 3, 0, 0, 0, 400, 0)] (pe := 54) (gs := []) (loc' := [.ref 43, .int x1, .int x2]) (stk' := [.int 400, .int x2]) (σ' := σ) (by decide +kernel) rfl).trans ?_
  refine hb_br (hb_fe_ok (r := (.if_icmp .ge 27, 3, 81, 0, 0, 0, 0)) (by decide +kernel)) rfl ?_ ?_
  · refine (hb_blk [(.iload_n 1, 1, 1, 0, 0, 0, 0)] (pe := 82) (gs := []) (loc' := [.ref 43, .int x1, .int x2]) (stk' := [.int x1]) (σ' := σ) (by decide +kernel) rfl).trans ?_
    refine hb_br0 (hb_fe_ok (r := (.ifCond .eq 24, 3, 106, 0, 0, 0, 0)) (by decide +kernel)) rfl ?_ ?_
    · refine (hb_blk [(.aload_n 0, 1, 0, 0, 0, 0, 0), (.getfield 9, 3, 3, 0, 0, 0, 0), (.iconst 0, 1, 0, 0, 0, 0, 0), (.putfield 59, 3, 7, 3, 0, 0, 0), (.iload_n 1, 1, 1, 0, 0, 0, 0)] (pe := 115) (gs := []) (loc' := [.ref 43, .int x1, .int x2]) (stk' := [.int x1]) (σ' := (hb_up σ 39 3 0)) (by decide +kernel) rfl).trans ?_
      exact hb_r_zret (hb_fe_ok (r := (.ireturn, 1, 0, 0, 1, 0, 0)) (by decide +kernel))
    · refine (hb_blk [(.aload_n 0, 1, 0, 0, 0, 0, 0), (.getfield 15, 3, 3, 1, 0, 0, 0)] (pe := 89) (gs := []) (loc' := [.ref 43, .int x1, .int x2]) (stk' := [.ref 0]) (σ' := σ) (by decide +kernel) rfl).trans ?_
      refine hb_Vv (hb_fe_ok (r := (.invokevirtual 56, 3, 74, 0, 0, 0, 0)) (by decide +kernel)) (by decide +kernel) (as := []) (v := .ref 0) (rest := []) rfl rfl (Nat.le_of_ble_eq_true rfl) (fun σ89 => ?_)
      refine (hb_blk [(.aload_n 0, 1, 0, 0, 0, 0, 0), (.getfield 19, 3, 3, 2, 0, 0, 0), (.aload_n 0, 1, 0, 0, 0, 0, 0), (.getfield 19, 3, 3, 2, 0, 0, 0), (.getfield 39, 3, 6, 5, 0, 0, 0), (.putfield 33, 3, 6, 4, 0, 0, 0)] (pe := 106) (gs := []) (loc' := [.ref 43, .int x1, .int x2]) (stk' := []) (σ' := (hb_up σ89 31 4 (σ89 31 5))) (by decide +kernel) rfl).trans ?_
      refine (hb_blk [(.aload_n 0, 1, 0, 0, 0, 0, 0), (.getfield 9, 3, 3, 0, 0, 0, 0), (.iconst 0, 1, 0, 0, 0, 0, 0), (.putfield 59, 3, 7, 3, 0, 0, 0), (.iload_n 1, 1, 1, 0, 0, 0, 0)] (pe := 115) (gs := []) (loc' := [.ref 43, .int x1, .int x2]) (stk' := [.int x1]) (σ' := (hb_up (hb_up σ89 31 4 (σ89 31 5)) 39 3 0)) (by decide +kernel) rfl).trans ?_
      exact hb_r_zret (hb_fe_ok (r := (.ireturn, 1, 0, 0, 1, 0, 0)) (by decide +kernel))
  · refine (hb_blk [(.iload_n 1, 1, 1, 0, 0, 0, 0)] (pe := 58) (gs := []) (loc' := [.ref 43, .int x1, .int x2]) (stk' := [.int x1]) (σ' := σ) (by decide +kernel) rfl).trans ?_
    refine hb_br0 (hb_fe_ok (r := (.ifCond .eq 23, 3, 81, 0, 0, 0, 0)) (by decide +kernel)) rfl ?_ ?_
    · refine (hb_blk [(.iload_n 1, 1, 1, 0, 0, 0, 0)] (pe := 82) (gs := []) (loc' := [.ref 43, .int x1, .int x2]) (stk' := [.int x1]) (σ' := σ) (by decide +kernel) rfl).trans ?_
      refine hb_br0 (hb_fe_ok (r := (.ifCond .eq 24, 3, 106, 0, 0, 0, 0)) (by decide +kernel)) rfl ?_ ?_
      · refine (hb_blk [(.aload_n 0, 1, 0, 0, 0, 0, 0), (.getfield 9, 3, 3, 0, 0, 0, 0), (.iconst 0, 1, 0, 0, 0, 0, 0), (.putfield 59, 3, 7, 3, 0, 0, 0), (.iload_n 1, 1, 1, 0, 0, 0, 0)] (pe := 115) (gs := []) (loc' := [.ref 43, .int x1, .int x2]) (stk' := [.int x1]) (σ' := (hb_up σ 39 3 0)) (by decide +kernel) rfl).trans ?_
        exact hb_r_zret (hb_fe_ok (r := (.ireturn, 1, 0, 0, 1, 0, 0)) (by decide +kernel))
      · refine (hb_blk [(.aload_n 0, 1, 0, 0, 0, 0, 0), (.getfield 15, 3, 3, 1, 0, 0, 0)] (pe := 89) (gs := []) (loc' := [.ref 43, .int x1, .int x2]) (stk' := [.ref 0]) (σ' := σ) (by decide +kernel) rfl).trans ?_
        refine hb_Vv (hb_fe_ok (r := (.invokevirtual 56, 3, 74, 0, 0, 0, 0)) (by decide +kernel)) (by decide +kernel) (as := []) (v := .ref 0) (rest := []) rfl rfl (Nat.le_of_ble_eq_true rfl) (fun σ89 => ?_)
        refine (hb_blk [(.aload_n 0, 1, 0, 0, 0, 0, 0), (.getfield 19, 3, 3, 2, 0, 0, 0), (.aload_n 0, 1, 0, 0, 0, 0, 0), (.getfield 19, 3, 3, 2, 0, 0, 0), (.getfield 39, 3, 6, 5, 0, 0, 0), (.putfield 33, 3, 6, 4, 0, 0, 0)] (pe := 106) (gs := []) (loc' := [.ref 43, .int x1, .int x2]) (stk' := []) (σ' := (hb_up σ89 31 4 (σ89 31 5))) (by decide +kernel) rfl).trans ?_
        refine (hb_blk [(.aload_n 0, 1, 0, 0, 0, 0, 0), (.getfield 9, 3, 3, 0, 0, 0, 0), (.iconst 0, 1, 0, 0, 0, 0, 0), (.putfield 59, 3, 7, 3, 0, 0, 0), (.iload_n 1, 1, 1, 0, 0, 0, 0)] (pe := 115) (gs := []) (loc' := [.ref 43, .int x1, .int x2]) (stk' := [.int x1]) (σ' := (hb_up (hb_up σ89 31 4 (σ89 31 5)) 39 3 0)) (by decide +kernel) rfl).trans ?_
        exact hb_r_zret (hb_fe_ok (r := (.ireturn, 1, 0, 0, 1, 0, 0)) (by decide +kernel))
    · refine (hb_blk [(.aload_n 0, 1, 0, 0, 0, 0, 0), (.getfield 49, 3, 3, 6, 0, 0, 0), (.bipush 21, 2, 0, 0, 0, 21, 0)] (pe := 67) (gs := []) (loc' := [.ref 43, .int x1, .int x2]) (stk' := [.int 21, .int (σ 43 6)]) (σ' := σ) (by decide +kernel) rfl).trans ?_
      refine hb_br (hb_fe_ok (r := (.if_icmp .eq 14, 3, 81, 0, 0, 0, 0)) (by decide +kernel)) rfl ?_ ?_
      · refine (hb_blk [(.iload_n 1, 1, 1, 0, 0, 0, 0)] (pe := 82) (gs := []) (loc' := [.ref 43, .int x1, .int x2]) (stk' := [.int x1]) (σ' := σ) (by decide +kernel) rfl).trans ?_
        refine hb_br0 (hb_fe_ok (r := (.ifCond .eq 24, 3, 106, 0, 0, 0, 0)) (by decide +kernel)) rfl ?_ ?_
        · refine (hb_blk [(.aload_n 0, 1, 0, 0, 0, 0, 0), (.getfield 9, 3, 3, 0, 0, 0, 0), (.iconst 0, 1, 0, 0, 0, 0, 0), (.putfield 59, 3, 7, 3, 0, 0, 0), (.iload_n 1, 1, 1, 0, 0, 0, 0)] (pe := 115) (gs := []) (loc' := [.ref 43, .int x1, .int x2]) (stk' := [.int x1]) (σ' := (hb_up σ 39 3 0)) (by decide +kernel) rfl).trans ?_
          exact hb_r_zret (hb_fe_ok (r := (.ireturn, 1, 0, 0, 1, 0, 0)) (by decide +kernel))
        · refine (hb_blk [(.aload_n 0, 1, 0, 0, 0, 0, 0), (.getfield 15, 3, 3, 1, 0, 0, 0)] (pe := 89) (gs := []) (loc' := [.ref 43, .int x1, .int x2]) (stk' := [.ref 0]) (σ' := σ) (by decide +kernel) rfl).trans ?_
          refine hb_Vv (hb_fe_ok (r := (.invokevirtual 56, 3, 74, 0, 0, 0, 0)) (by decide +kernel)) (by decide +kernel) (as := []) (v := .ref 0) (rest := []) rfl rfl (Nat.le_of_ble_eq_true rfl) (fun σ89 => ?_)
          refine (hb_blk [(.aload_n 0, 1, 0, 0, 0, 0, 0), (.getfield 19, 3, 3, 2, 0, 0, 0), (.aload_n 0, 1, 0, 0, 0, 0, 0), (.getfield 19, 3, 3, 2, 0, 0, 0), (.getfield 39, 3, 6, 5, 0, 0, 0), (.putfield 33, 3, 6, 4, 0, 0, 0)] (pe := 106) (gs := []) (loc' := [.ref 43, .int x1, .int x2]) (stk' := []) (σ' := (hb_up σ89 31 4 (σ89 31 5))) (by decide +kernel) rfl).trans ?_
          refine (hb_blk [(.aload_n 0, 1, 0, 0, 0, 0, 0), (.getfield 9, 3, 3, 0, 0, 0, 0), (.iconst 0, 1, 0, 0, 0, 0, 0), (.putfield 59, 3, 7, 3, 0, 0, 0), (.iload_n 1, 1, 1, 0, 0, 0, 0)] (pe := 115) (gs := []) (loc' := [.ref 43, .int x1, .int x2]) (stk' := [.int x1]) (σ' := (hb_up (hb_up σ89 31 4 (σ89 31 5)) 39 3 0)) (by decide +kernel) rfl).trans ?_
          exact hb_r_zret (hb_fe_ok (r := (.ireturn, 1, 0, 0, 1, 0, 0)) (by decide +kernel))
      · refine (hb_blk [(.aload_n 0, 1, 0, 0, 0, 0, 0)] (pe := 71) (gs := []) (loc' := [.ref 43, .int x1, .int x2]) (stk' := [.ref 43]) (σ' := σ) (by decide +kernel) rfl).trans ?_
        refine hb_Vi (hb_fe_ok (r := (.invokevirtual 52, 3, 15, 0, 0, 0, 0)) (by decide +kernel)) (by decide +kernel) (as := []) (v := .ref 43) (rest := []) rfl rfl (Nat.le_of_ble_eq_true rfl) (fun y71 σ71 => ?_)
        refine (hb_blk [(.istore_n 1, 1, 1, 0, 0, 0, 0), (.iinc 2 1, 3, 2, 0, 0, 1, 0)] (pe := 78) (gs := []) (loc' := [.ref 43, .int y71, .int (x2 + (1 : Int32))]) (stk' := []) (σ' := σ71) (by decide +kernel) rfl).trans ?_
        refine (hb_r_goto (hb_fe_ok (r := (.goto (-28), 3, 50, 0, 0, 0, 0)) (by decide +kernel))).trans ?_
        exact rfl
set_option maxRecDepth 8000 in
theorem e15_0  (σ : hbM) : hb_run hbSH 15 (0, [.ref 43], [], σ) = if ((σ 43 6) = 0) then (hb_ci (hb_ev hbSH 16 [.ref 43] σ) (fun y37 σ37 => hb_g [hb_01 y37] (some (some (.int y37), σ37)))) else (if ((σ 43 6) = 1) then (hb_ci (hb_ev hbSH 17 [.ref 43, .ref 1] σ) (fun y49 σ49 => hb_g [hb_01 y49] (some (some (.int y49), σ49)))) else (if ((σ 43 6) = 2) then (hb_ci (hb_ev hbSH 17 [.ref 43, .ref 4] σ) (fun y61 σ61 => hb_g [hb_01 y61] (some (some (.int y61), σ61)))) else (if ((σ 43 6) = 3) then (hb_ci (hb_ev hbSH 18 [.ref 43] σ) (fun y66 σ66 => hb_g [hb_01 y66] (some (some (.int y66), σ66)))) else (hb_ci (hb_ev hbSH 25 [.ref 43, .int 1] σ) (fun y72 σ72 => hb_g [hb_01 y72] (some (some (.int y72), σ72))))))) := by
  refine (hb_blk [(.aload_n 0, 1, 0, 0, 0, 0, 0), (.getfield 49, 3, 3, 6, 0, 0, 0)] (pe := 4) (gs := []) (loc' := [.ref 43]) (stk' := [.int (σ 43 6)]) (σ' := σ) (by decide +kernel) rfl).trans ?_
  refine hb_r_sw (hb_fe_ok (r := (.tableswitch 66 0 3 #[32, 37, 49, 61], 32, 0, 0, 0, 0, 0)) (by decide +kernel)) ?_
  refine hb_swc (z := 0) (q := 36) ?_ ?_
  · refine (hb_blk [(.aload_n 0, 1, 0, 0, 0, 0, 0)] (pe := 37) (gs := []) (loc' := [.ref 43]) (stk' := [.ref 43]) (σ' := σ) (by decide +kernel) rfl).trans ?_
    refine hb_Vi (hb_fe_ok (r := (.invokevirtual 62, 3, 16, 0, 0, 0, 0)) (by decide +kernel)) (by decide +kernel) (as := []) (v := .ref 43) (rest := []) rfl rfl (Nat.le_of_ble_eq_true rfl) (fun y37 σ37 => ?_)
    exact hb_r_zret (hb_fe_ok (r := (.ireturn, 1, 0, 0, 1, 0, 0)) (by decide +kernel))
  refine hb_swc (z := 1) (q := 41) ?_ ?_
  · refine (hb_blk [(.aload_n 0, 1, 0, 0, 0, 0, 0), (.aload_n 0, 1, 0, 0, 0, 0, 0), (.getfield 15, 3, 3, 1, 0, 0, 0), (.getfield 65, 3, 10, 0, 0, 0, 0)] (pe := 49) (gs := []) (loc' := [.ref 43]) (stk' := [.ref 1, .ref 43]) (σ' := σ) (by decide +kernel) rfl).trans ?_
    refine hb_Vi (hb_fe_ok (r := (.invokevirtual 69, 3, 17, 1, 0, 0, 0)) (by decide +kernel)) (by decide +kernel) (as := [.ref 1]) (v := .ref 43) (rest := []) rfl rfl (Nat.le_of_ble_eq_true rfl) (fun y49 σ49 => ?_)
    exact hb_r_zret (hb_fe_ok (r := (.ireturn, 1, 0, 0, 1, 0, 0)) (by decide +kernel))
  refine hb_swc (z := 2) (q := 53) ?_ ?_
  · refine (hb_blk [(.aload_n 0, 1, 0, 0, 0, 0, 0), (.aload_n 0, 1, 0, 0, 0, 0, 0), (.getfield 15, 3, 3, 1, 0, 0, 0), (.getfield 73, 3, 10, 1, 0, 0, 0)] (pe := 61) (gs := []) (loc' := [.ref 43]) (stk' := [.ref 4, .ref 43]) (σ' := σ) (by decide +kernel) rfl).trans ?_
    refine hb_Vi (hb_fe_ok (r := (.invokevirtual 69, 3, 17, 1, 0, 0, 0)) (by decide +kernel)) (by decide +kernel) (as := [.ref 4]) (v := .ref 43) (rest := []) rfl rfl (Nat.le_of_ble_eq_true rfl) (fun y61 σ61 => ?_)
    exact hb_r_zret (hb_fe_ok (r := (.ireturn, 1, 0, 0, 1, 0, 0)) (by decide +kernel))
  refine hb_swc (z := 3) (q := 65) ?_ ?_
  · refine (hb_blk [(.aload_n 0, 1, 0, 0, 0, 0, 0)] (pe := 66) (gs := []) (loc' := [.ref 43]) (stk' := [.ref 43]) (σ' := σ) (by decide +kernel) rfl).trans ?_
    refine hb_Vi (hb_fe_ok (r := (.invokevirtual 76, 3, 18, 0, 0, 0, 0)) (by decide +kernel)) (by decide +kernel) (as := []) (v := .ref 43) (rest := []) rfl rfl (Nat.le_of_ble_eq_true rfl) (fun y66 σ66 => ?_)
    exact hb_r_zret (hb_fe_ok (r := (.ireturn, 1, 0, 0, 1, 0, 0)) (by decide +kernel))
  refine hb_swd 70 rfl ?_
  refine (hb_blk [(.aload_n 0, 1, 0, 0, 0, 0, 0), (.iconst 1, 1, 0, 0, 0, 1, 0)] (pe := 72) (gs := []) (loc' := [.ref 43]) (stk' := [.int 1, .ref 43]) (σ' := σ) (by decide +kernel) rfl).trans ?_
  refine hb_Vi (hb_fe_ok (r := (.invokevirtual 79, 3, 25, 1, 0, 0, 0)) (by decide +kernel)) (by decide +kernel) (as := [.int 1]) (v := .ref 43) (rest := []) rfl rfl (Nat.le_of_ble_eq_true rfl) (fun y72 σ72 => ?_)
  exact hb_r_zret (hb_fe_ok (r := (.ireturn, 1, 0, 0, 1, 0, 0)) (by decide +kernel))
set_option maxRecDepth 8000 in
theorem e16_0  (σ : hbM) : hb_run hbSH 16 (0, [.ref 43, .null, .null], [], σ) = if ((σ 0 9) < (8 : Int32)) then (hb_cv (hb_ev hbSH 26 [.ref 43] σ) (fun σ19 => hb_ci (hb_ev hbSH 23 [.ref 43, .int 4] σ19) (fun y24 σ24 => if (¬ y24 = (-1000000 : Int32)) then (hb_ci (hb_ev hbSH 23 [.ref 43, .int 2] σ24) (fun y41 σ41 => if (¬ y41 = (-1000000 : Int32)) then (if ((σ41 43 6) = (5 : Int32)) then (hb_run hbSH 16 (76, [.ref 43, .int y24, .int y41], [], σ41)) else (if ((σ41 43 6) = (6 : Int32)) then (hb_run hbSH 16 (76, [.ref 43, .int y24, .int y41], [], σ41)) else (hb_ci (hb_ev hbSH 25 [.ref 43, .int 1] σ41) (fun y72 σ72 => hb_g [hb_01 y72] (some (some (.int y72), σ72)))))) else (some (some (.int 0), σ41)))) else (some (some (.int 0), σ24))))) else (hb_ci (hb_ev hbSH 25 [.ref 43, .int 3] σ) (fun y14 σ14 => hb_g [hb_01 y14] (some (some (.int y14), σ14)))) := by
  refine (hb_blk [(.aload_n 0, 1, 0, 0, 0, 0, 0), (.getfield 15, 3, 3, 1, 0, 0, 0), (.getfield 83, 3, 10, 9, 0, 0, 0), (.bipush 8, 2, 0, 0, 0, 8, 0)] (pe := 9) (gs := []) (loc' := [.ref 43, .null, .null]) (stk' := [.int 8, .int (σ 0 9)]) (σ' := σ) (by decide +kernel) rfl).trans ?_
  refine hb_br (hb_fe_ok (r := (.if_icmp .lt 9, 3, 18, 0, 0, 0, 0)) (by decide +kernel)) rfl ?_ ?_
  · refine (hb_blk [(.aload_n 0, 1, 0, 0, 0, 0, 0)] (pe := 19) (gs := []) (loc' := [.ref 43, .null, .null]) (stk' := [.ref 43]) (σ' := σ) (by decide +kernel) rfl).trans ?_
    refine hb_Vv (hb_fe_ok (r := (.invokevirtual 86, 3, 26, 0, 0, 0, 0)) (by decide +kernel)) (by decide +kernel) (as := []) (v := .ref 43) (rest := []) rfl rfl (Nat.le_of_ble_eq_true rfl) (fun σ19 => ?_)
    refine (hb_blk [(.aload_n 0, 1, 0, 0, 0, 0, 0), (.iconst 4, 1, 0, 0, 0, 4, 0)] (pe := 24) (gs := []) (loc' := [.ref 43, .null, .null]) (stk' := [.int 4, .ref 43]) (σ' := σ19) (by decide +kernel) rfl).trans ?_
    refine hb_Vi (hb_fe_ok (r := (.invokevirtual 89, 3, 23, 1, 0, 0, 0)) (by decide +kernel)) (by decide +kernel) (as := [.int 4]) (v := .ref 43) (rest := []) rfl rfl (Nat.le_of_ble_eq_true rfl) (fun y24 σ24 => ?_)
    refine (hb_blk [(.istore_n 1, 1, 1, 0, 0, 0, 0), (.iload_n 1, 1, 1, 0, 0, 0, 0), (.ldc 93, 2, 0, 0, 0, (-1000000), 0)] (pe := 31) (gs := []) (loc' := [.ref 43, .int y24, .null]) (stk' := [.int (-1000000), .int y24]) (σ' := σ24) (by decide +kernel) rfl).trans ?_
    refine hb_br (hb_fe_ok (r := (.if_icmp .ne 8, 3, 39, 0, 0, 0, 0)) (by decide +kernel)) rfl ?_ ?_
    · refine (hb_blk [(.aload_n 0, 1, 0, 0, 0, 0, 0), (.iconst 2, 1, 0, 0, 0, 2, 0)] (pe := 41) (gs := []) (loc' := [.ref 43, .int y24, .null]) (stk' := [.int 2, .ref 43]) (σ' := σ24) (by decide +kernel) rfl).trans ?_
      refine hb_Vi (hb_fe_ok (r := (.invokevirtual 89, 3, 23, 1, 0, 0, 0)) (by decide +kernel)) (by decide +kernel) (as := [.int 2]) (v := .ref 43) (rest := []) rfl rfl (Nat.le_of_ble_eq_true rfl) (fun y41 σ41 => ?_)
      refine (hb_blk [(.istore_n 2, 1, 2, 0, 0, 0, 0), (.iload_n 2, 1, 2, 0, 0, 0, 0), (.ldc 93, 2, 0, 0, 0, (-1000000), 0)] (pe := 48) (gs := []) (loc' := [.ref 43, .int y24, .int y41]) (stk' := [.int (-1000000), .int y41]) (σ' := σ41) (by decide +kernel) rfl).trans ?_
      refine hb_br (hb_fe_ok (r := (.if_icmp .ne 5, 3, 53, 0, 0, 0, 0)) (by decide +kernel)) rfl ?_ ?_
      · refine (hb_blk [(.aload_n 0, 1, 0, 0, 0, 0, 0), (.getfield 49, 3, 3, 6, 0, 0, 0), (.iconst 5, 1, 0, 0, 0, 5, 0)] (pe := 58) (gs := []) (loc' := [.ref 43, .int y24, .int y41]) (stk' := [.int 5, .int (σ41 43 6)]) (σ' := σ41) (by decide +kernel) rfl).trans ?_
        refine hb_br (hb_fe_ok (r := (.if_icmp .eq 18, 3, 76, 0, 0, 0, 0)) (by decide +kernel)) rfl ?_ ?_
        · exact rfl
        · refine (hb_blk [(.aload_n 0, 1, 0, 0, 0, 0, 0), (.getfield 49, 3, 3, 6, 0, 0, 0), (.bipush 6, 2, 0, 0, 0, 6, 0)] (pe := 67) (gs := []) (loc' := [.ref 43, .int y24, .int y41]) (stk' := [.int 6, .int (σ41 43 6)]) (σ' := σ41) (by decide +kernel) rfl).trans ?_
          refine hb_br (hb_fe_ok (r := (.if_icmp .eq 9, 3, 76, 0, 0, 0, 0)) (by decide +kernel)) rfl ?_ ?_
          · exact rfl
          · refine (hb_blk [(.aload_n 0, 1, 0, 0, 0, 0, 0), (.iconst 1, 1, 0, 0, 0, 1, 0)] (pe := 72) (gs := []) (loc' := [.ref 43, .int y24, .int y41]) (stk' := [.int 1, .ref 43]) (σ' := σ41) (by decide +kernel) rfl).trans ?_
            refine hb_Vi (hb_fe_ok (r := (.invokevirtual 79, 3, 25, 1, 0, 0, 0)) (by decide +kernel)) (by decide +kernel) (as := [.int 1]) (v := .ref 43) (rest := []) rfl rfl (Nat.le_of_ble_eq_true rfl) (fun y72 σ72 => ?_)
            exact hb_r_zret (hb_fe_ok (r := (.ireturn, 1, 0, 0, 1, 0, 0)) (by decide +kernel))
      · refine (hb_blk [(.iconst 0, 1, 0, 0, 0, 0, 0)] (pe := 52) (gs := []) (loc' := [.ref 43, .int y24, .int y41]) (stk' := [.int 0]) (σ' := σ41) (by decide +kernel) rfl).trans ?_
        exact hb_r_zret1 (hb_fe_ok (r := (.ireturn, 1, 0, 0, 1, 0, 0)) (by decide +kernel)) (by decide)
    · refine (hb_blk [(.ldc 93, 2, 0, 0, 0, (-1000000), 0)] (pe := 36) (gs := []) (loc' := [.ref 43, .int y24, .null]) (stk' := [.int (-1000000)]) (σ' := σ24) (by decide +kernel) rfl).trans ?_
      refine (hb_r_goto (hb_fe_ok (r := (.goto 8, 3, 44, 0, 0, 0, 0)) (by decide +kernel))).trans ?_
      refine (hb_blk [(.istore_n 2, 1, 2, 0, 0, 0, 0), (.iload_n 2, 1, 2, 0, 0, 0, 0), (.ldc 93, 2, 0, 0, 0, (-1000000), 0)] (pe := 48) (gs := []) (loc' := [.ref 43, .int y24, .int (-1000000)]) (stk' := [.int (-1000000), .int (-1000000)]) (σ' := σ24) (by decide +kernel) rfl).trans ?_
      refine hb_brF (hb_fe_ok (r := (.if_icmp .ne 5, 3, 53, 0, 0, 0, 0)) (by decide +kernel)) (by decide) ?_
      refine (hb_blk [(.iconst 0, 1, 0, 0, 0, 0, 0)] (pe := 52) (gs := []) (loc' := [.ref 43, .int y24, .int (-1000000)]) (stk' := [.int 0]) (σ' := σ24) (by decide +kernel) rfl).trans ?_
      exact hb_r_zret1 (hb_fe_ok (r := (.ireturn, 1, 0, 0, 1, 0, 0)) (by decide +kernel)) (by decide)
  · refine (hb_blk [(.aload_n 0, 1, 0, 0, 0, 0, 0), (.iconst 3, 1, 0, 0, 0, 3, 0)] (pe := 14) (gs := []) (loc' := [.ref 43, .null, .null]) (stk' := [.int 3, .ref 43]) (σ' := σ) (by decide +kernel) rfl).trans ?_
    refine hb_Vi (hb_fe_ok (r := (.invokevirtual 79, 3, 25, 1, 0, 0, 0)) (by decide +kernel)) (by decide +kernel) (as := [.int 3]) (v := .ref 43) (rest := []) rfl rfl (Nat.le_of_ble_eq_true rfl) (fun y14 σ14 => ?_)
    exact hb_r_zret (hb_fe_ok (r := (.ireturn, 1, 0, 0, 1, 0, 0)) (by decide +kernel))
set_option maxRecDepth 8000 in
theorem e16_76  (σ : hbM) (x1 : Int32) (x2 : Int32) : hb_run hbSH 16 (76, [.ref 43, .int x1, .int x2], [], σ) = if (¬ (σ 43 6) = (5 : Int32)) then (hb_run hbSH 16 (95, [.ref 43, .int x1, .int x2], [.int (-1), .int x2, .int x1, .ref 0], σ)) else (hb_run hbSH 16 (95, [.ref 43, .int x1, .int x2], [.int 1, .int x2, .int x1, .ref 0], σ)) := by
  refine (hb_blk [(.aload_n 0, 1, 0, 0, 0, 0, 0), (.getfield 15, 3, 3, 1, 0, 0, 0), (.iload_n 1, 1, 1, 0, 0, 0, 0), (.iload_n 2, 1, 2, 0, 0, 0, 0), (.aload_n 0, 1, 0, 0, 0, 0, 0), (.getfield 49, 3, 3, 6, 0, 0, 0), (.iconst 5, 1, 0, 0, 0, 5, 0)] (pe := 87) (gs := []) (loc' := [.ref 43, .int x1, .int x2]) (stk' := [.int 5, .int (σ 43 6), .int x2, .int x1, .ref 0]) (σ' := σ) (by decide +kernel) rfl).trans ?_
  refine hb_br (hb_fe_ok (r := (.if_icmp .ne 7, 3, 94, 0, 0, 0, 0)) (by decide +kernel)) rfl ?_ ?_
  · refine (hb_blk [(.iconst (-1), 1, 0, 0, 0, (-1), 0)] (pe := 95) (gs := []) (loc' := [.ref 43, .int x1, .int x2]) (stk' := [.int (-1), .int x2, .int x1, .ref 0]) (σ' := σ) (by decide +kernel) rfl).trans ?_
    exact rfl
  · refine (hb_blk [(.iconst 1, 1, 0, 0, 0, 1, 0)] (pe := 91) (gs := []) (loc' := [.ref 43, .int x1, .int x2]) (stk' := [.int 1, .int x2, .int x1, .ref 0]) (σ' := σ) (by decide +kernel) rfl).trans ?_
    refine (hb_r_goto (hb_fe_ok (r := (.goto 4, 3, 95, 0, 0, 0, 0)) (by decide +kernel))).trans ?_
    exact rfl
set_option maxRecDepth 8000 in
theorem e16_95  (σ : hbM) (x1 : Int32) (x2 : Int32) (s0 : Int32) (s1 : Int32) (s2 : Int32) : hb_run hbSH 16 (95, [.ref 43, .int x1, .int x2], [.int s0, .int s1, .int s2, .ref 0], σ) = hb_cv (hb_ev hbSH 72 [.ref 0, .int s2, .int s1, .int s0] σ) (fun σ95 => hb_cv (hb_ev hbSH 26 [.ref 43] σ95) (fun σ99 => hb_ci (hb_ev hbSH 24 [.ref 43] σ99) (fun y103 σ103 => hb_g [hb_01 y103] (some (some (.int y103), σ103))))) := by
  refine hb_Vv (hb_fe_ok (r := (.invokevirtual 94, 3, 72, 3, 0, 0, 0)) (by decide +kernel)) (by decide +kernel) (as := [.int s2, .int s1, .int s0]) (v := .ref 0) (rest := []) rfl rfl (Nat.le_of_ble_eq_true rfl) (fun σ95 => ?_)
  refine (hb_blk [(.aload_n 0, 1, 0, 0, 0, 0, 0)] (pe := 99) (gs := []) (loc' := [.ref 43, .int x1, .int x2]) (stk' := [.ref 43]) (σ' := σ95) (by decide +kernel) rfl).trans ?_
  refine hb_Vv (hb_fe_ok (r := (.invokevirtual 86, 3, 26, 0, 0, 0, 0)) (by decide +kernel)) (by decide +kernel) (as := []) (v := .ref 43) (rest := []) rfl rfl (Nat.le_of_ble_eq_true rfl) (fun σ99 => ?_)
  refine (hb_blk [(.aload_n 0, 1, 0, 0, 0, 0, 0)] (pe := 103) (gs := []) (loc' := [.ref 43, .int x1, .int x2]) (stk' := [.ref 43]) (σ' := σ99) (by decide +kernel) rfl).trans ?_
  refine hb_Vi (hb_fe_ok (r := (.invokevirtual 98, 3, 24, 0, 0, 0, 0)) (by decide +kernel)) (by decide +kernel) (as := []) (v := .ref 43) (rest := []) rfl rfl (Nat.le_of_ble_eq_true rfl) (fun y103 σ103 => ?_)
  exact hb_r_zret (hb_fe_ok (r := (.ireturn, 1, 0, 0, 1, 0, 0)) (by decide +kernel))
set_option maxRecDepth 8000 in
theorem e17_0a  (σ : hbM) : hb_run hbSH 17 (0, [.ref 43, .ref 1, .null, .null], [], σ) = if ((σ 1 3) < (4 : Int32)) then (hb_cv (hb_ev hbSH 26 [.ref 43] σ) (fun σ15 => hb_run hbSH 17 (20, [.ref 43, .ref 1, .int 0, .null], [], σ15))) else (hb_ci (hb_ev hbSH 25 [.ref 43, .int 3] σ) (fun y10 σ10 => hb_g [hb_01 y10] (some (some (.int y10), σ10)))) := by
  refine (hb_blk [(.aload_n 1, 1, 1, 0, 0, 0, 0), (.getfield 101, 3, 2, 3, 0, 0, 0), (.iconst 4, 1, 0, 0, 0, 4, 0)] (pe := 5) (gs := []) (loc' := [.ref 43, .ref 1, .null, .null]) (stk' := [.int 4, .int (σ 1 3)]) (σ' := σ) (by decide +kernel) rfl).trans ?_
  refine hb_br (hb_fe_ok (r := (.if_icmp .lt 9, 3, 14, 0, 0, 0, 0)) (by decide +kernel)) rfl ?_ ?_
  · refine (hb_blk [(.aload_n 0, 1, 0, 0, 0, 0, 0)] (pe := 15) (gs := []) (loc' := [.ref 43, .ref 1, .null, .null]) (stk' := [.ref 43]) (σ' := σ) (by decide +kernel) rfl).trans ?_
    refine hb_Vv (hb_fe_ok (r := (.invokevirtual 86, 3, 26, 0, 0, 0, 0)) (by decide +kernel)) (by decide +kernel) (as := []) (v := .ref 43) (rest := []) rfl rfl (Nat.le_of_ble_eq_true rfl) (fun σ15 => ?_)
    refine (hb_blk [(.iconst 0, 1, 0, 0, 0, 0, 0), (.istore_n 2, 1, 2, 0, 0, 0, 0)] (pe := 20) (gs := []) (loc' := [.ref 43, .ref 1, .int 0, .null]) (stk' := []) (σ' := σ15) (by decide +kernel) rfl).trans ?_
    exact rfl
  · refine (hb_blk [(.aload_n 0, 1, 0, 0, 0, 0, 0), (.iconst 3, 1, 0, 0, 0, 3, 0)] (pe := 10) (gs := []) (loc' := [.ref 43, .ref 1, .null, .null]) (stk' := [.int 3, .ref 43]) (σ' := σ) (by decide +kernel) rfl).trans ?_
    refine hb_Vi (hb_fe_ok (r := (.invokevirtual 79, 3, 25, 1, 0, 0, 0)) (by decide +kernel)) (by decide +kernel) (as := [.int 3]) (v := .ref 43) (rest := []) rfl rfl (Nat.le_of_ble_eq_true rfl) (fun y10 σ10 => ?_)
    exact hb_r_zret (hb_fe_ok (r := (.ireturn, 1, 0, 0, 1, 0, 0)) (by decide +kernel))
set_option maxRecDepth 8000 in
theorem e17_20a  (σ : hbM) (x2 : Int32) (v3 : Value) : hb_run hbSH 17 (20, [.ref 43, .ref 1, .int x2, v3], [], σ) = if ((3 : Int32) ≤ x2) then (hb_ci (hb_ev hbSH 21 [.ref 43] σ) (fun y79 σ79 => if (¬ y79 = (-1000000 : Int32)) then (hb_run hbSH 17 (92, [.ref 43, .ref 1, .int x2, v3], [.int 3, .ref 43], σ79)) else (hb_run hbSH 17 (92, [.ref 43, .ref 1, .int x2, v3], [.int 1, .ref 43], σ79)))) else (hb_ci (hb_ev hbSH 20 [.ref 43] σ) (fun y26 σ26 => if (¬ y26 = (-1000000 : Int32)) then (hb_cv (hb_ev hbSH 12 [.ref 1, .int x2, .int y26] σ26) (fun σ41 => if ((σ41 43 6) = (4 : Int32)) then (hb_cv (hb_ev hbSH 26 [.ref 43] σ41) (fun σ68 => hb_run hbSH 17 (20, [.ref 43, .ref 1, .int (x2 + (1 : Int32)), .int y26], [], σ68))) else (hb_ci (hb_ev hbSH 24 [.ref 43] (hb_up σ41 1 3 ((σ41 1 3) + (1 : Int32)))) (fun y63 σ63 => hb_g [hb_01 y63] (some (some (.int y63), σ63)))))) else (some (some (.int 0), σ26)))) := by
  refine (hb_blk [(.iload_n 2, 1, 2, 0, 0, 0, 0), (.iconst 3, 1, 0, 0, 0, 3, 0)] (pe := 22) (gs := []) (loc' := [.ref 43, .ref 1, .int x2, v3]) (stk' := [.int 3, .int x2]) (σ' := σ) (by decide +kernel) rfl).trans ?_
  refine hb_br (hb_fe_ok (r := (.if_icmp .ge 55, 3, 77, 0, 0, 0, 0)) (by decide +kernel)) rfl ?_ ?_
  · refine (hb_blk [(.aload_n 0, 1, 0, 0, 0, 0, 0), (.aload_n 0, 1, 0, 0, 0, 0, 0)] (pe := 79) (gs := []) (loc' := [.ref 43, .ref 1, .int x2, v3]) (stk' := [.ref 43, .ref 43]) (σ' := σ) (by decide +kernel) rfl).trans ?_
    refine hb_Vi (hb_fe_ok (r := (.invokevirtual 112, 3, 21, 0, 0, 0, 0)) (by decide +kernel)) (by decide +kernel) (as := []) (v := .ref 43) (rest := [.ref 43]) rfl rfl (Nat.le_of_ble_eq_true rfl) (fun y79 σ79 => ?_)
    refine (hb_blk [(.ldc 93, 2, 0, 0, 0, (-1000000), 0)] (pe := 84) (gs := []) (loc' := [.ref 43, .ref 1, .int x2, v3]) (stk' := [.int (-1000000), .int y79, .ref 43]) (σ' := σ79) (by decide +kernel) rfl).trans ?_
    refine hb_br (hb_fe_ok (r := (.if_icmp .ne 7, 3, 91, 0, 0, 0, 0)) (by decide +kernel)) rfl ?_ ?_
    · refine (hb_blk [(.iconst 3, 1, 0, 0, 0, 3, 0)] (pe := 92) (gs := []) (loc' := [.ref 43, .ref 1, .int x2, v3]) (stk' := [.int 3, .ref 43]) (σ' := σ79) (by decide +kernel) rfl).trans ?_
      exact rfl
    · refine (hb_blk [(.iconst 1, 1, 0, 0, 0, 1, 0)] (pe := 88) (gs := []) (loc' := [.ref 43, .ref 1, .int x2, v3]) (stk' := [.int 1, .ref 43]) (σ' := σ79) (by decide +kernel) rfl).trans ?_
      refine (hb_r_goto (hb_fe_ok (r := (.goto 4, 3, 92, 0, 0, 0, 0)) (by decide +kernel))).trans ?_
      exact rfl
  · refine (hb_blk [(.aload_n 0, 1, 0, 0, 0, 0, 0)] (pe := 26) (gs := []) (loc' := [.ref 43, .ref 1, .int x2, v3]) (stk' := [.ref 43]) (σ' := σ) (by decide +kernel) rfl).trans ?_
    refine hb_Vi (hb_fe_ok (r := (.invokevirtual 104, 3, 20, 0, 0, 0, 0)) (by decide +kernel)) (by decide +kernel) (as := []) (v := .ref 43) (rest := []) rfl rfl (Nat.le_of_ble_eq_true rfl) (fun y26 σ26 => ?_)
    refine (hb_blk [(.istore_n 3, 1, 3, 0, 0, 0, 0), (.iload_n 3, 1, 3, 0, 0, 0, 0), (.ldc 93, 2, 0, 0, 0, (-1000000), 0)] (pe := 33) (gs := []) (loc' := [.ref 43, .ref 1, .int x2, .int y26]) (stk' := [.int (-1000000), .int y26]) (σ' := σ26) (by decide +kernel) rfl).trans ?_
    refine hb_br (hb_fe_ok (r := (.if_icmp .ne 5, 3, 38, 0, 0, 0, 0)) (by decide +kernel)) rfl ?_ ?_
    · refine (hb_blk [(.aload_n 1, 1, 1, 0, 0, 0, 0), (.iload_n 2, 1, 2, 0, 0, 0, 0), (.iload_n 3, 1, 3, 0, 0, 0, 0)] (pe := 41) (gs := []) (loc' := [.ref 43, .ref 1, .int x2, .int y26]) (stk' := [.int y26, .int x2, .ref 1]) (σ' := σ26) (by decide +kernel) rfl).trans ?_
      refine hb_Vv (hb_fe_ok (r := (.invokevirtual 108, 3, 12, 2, 0, 0, 0)) (by decide +kernel)) (by decide +kernel) (as := [.int x2, .int y26]) (v := .ref 1) (rest := []) rfl rfl (Nat.le_of_ble_eq_true rfl) (fun σ41 => ?_)
      refine (hb_blk [(.aload_n 0, 1, 0, 0, 0, 0, 0), (.getfield 49, 3, 3, 6, 0, 0, 0), (.iconst 4, 1, 0, 0, 0, 4, 0)] (pe := 49) (gs := []) (loc' := [.ref 43, .ref 1, .int x2, .int y26]) (stk' := [.int 4, .int (σ41 43 6)]) (σ' := σ41) (by decide +kernel) rfl).trans ?_
      refine hb_br (hb_fe_ok (r := (.if_icmp .eq 18, 3, 67, 0, 0, 0, 0)) (by decide +kernel)) rfl ?_ ?_
      · refine (hb_blk [(.aload_n 0, 1, 0, 0, 0, 0, 0)] (pe := 68) (gs := []) (loc' := [.ref 43, .ref 1, .int x2, .int y26]) (stk' := [.ref 43]) (σ' := σ41) (by decide +kernel) rfl).trans ?_
        refine hb_Vv (hb_fe_ok (r := (.invokevirtual 86, 3, 26, 0, 0, 0, 0)) (by decide +kernel)) (by decide +kernel) (as := []) (v := .ref 43) (rest := []) rfl rfl (Nat.le_of_ble_eq_true rfl) (fun σ68 => ?_)
        refine (hb_blk [(.iinc 2 1, 3, 2, 0, 0, 1, 0)] (pe := 74) (gs := []) (loc' := [.ref 43, .ref 1, .int (x2 + (1 : Int32)), .int y26]) (stk' := []) (σ' := σ68) (by decide +kernel) rfl).trans ?_
        refine (hb_r_goto (hb_fe_ok (r := (.goto (-54), 3, 20, 0, 0, 0, 0)) (by decide +kernel))).trans ?_
        exact rfl
      · refine (hb_blk [(.aload_n 1, 1, 1, 0, 0, 0, 0), (.dup, 1, 0, 0, 0, 0, 0), (.getfield 101, 3, 2, 3, 0, 0, 0), (.iconst 1, 1, 0, 0, 0, 1, 0), (.iadd, 1, 0, 0, 0, 0, 0), (.putfield 101, 3, 2, 3, 0, 0, 0), (.aload_n 0, 1, 0, 0, 0, 0, 0)] (pe := 63) (gs := []) (loc' := [.ref 43, .ref 1, .int x2, .int y26]) (stk' := [.ref 43]) (σ' := (hb_up σ41 1 3 ((σ41 1 3) + (1 : Int32)))) (by decide +kernel) rfl).trans ?_
        refine hb_Vi (hb_fe_ok (r := (.invokevirtual 98, 3, 24, 0, 0, 0, 0)) (by decide +kernel)) (by decide +kernel) (as := []) (v := .ref 43) (rest := []) rfl rfl (Nat.le_of_ble_eq_true rfl) (fun y63 σ63 => ?_)
        exact hb_r_zret (hb_fe_ok (r := (.ireturn, 1, 0, 0, 1, 0, 0)) (by decide +kernel))
    · refine (hb_blk [(.iconst 0, 1, 0, 0, 0, 0, 0)] (pe := 37) (gs := []) (loc' := [.ref 43, .ref 1, .int x2, .int y26]) (stk' := [.int 0]) (σ' := σ26) (by decide +kernel) rfl).trans ?_
      exact hb_r_zret1 (hb_fe_ok (r := (.ireturn, 1, 0, 0, 1, 0, 0)) (by decide +kernel)) (by decide)
set_option maxRecDepth 8000 in
theorem e17_92a  (σ : hbM) (x2 : Int32) (v3 : Value) (s0 : Int32) : hb_run hbSH 17 (92, [.ref 43, .ref 1, .int x2, v3], [.int s0, .ref 43], σ) = hb_ci (hb_ev hbSH 25 [.ref 43, .int s0] σ) (fun y92 σ92 => hb_g [hb_01 y92] (some (some (.int y92), σ92))) := by
  refine hb_Vi (hb_fe_ok (r := (.invokevirtual 79, 3, 25, 1, 0, 0, 0)) (by decide +kernel)) (by decide +kernel) (as := [.int s0]) (v := .ref 43) (rest := []) rfl rfl (Nat.le_of_ble_eq_true rfl) (fun y92 σ92 => ?_)
  exact hb_r_zret (hb_fe_ok (r := (.ireturn, 1, 0, 0, 1, 0, 0)) (by decide +kernel))
set_option maxRecDepth 8000 in
theorem e17_0b  (σ : hbM) : hb_run hbSH 17 (0, [.ref 43, .ref 4, .null, .null], [], σ) = if ((σ 4 3) < (4 : Int32)) then (hb_cv (hb_ev hbSH 26 [.ref 43] σ) (fun σ15 => hb_run hbSH 17 (20, [.ref 43, .ref 4, .int 0, .null], [], σ15))) else (hb_ci (hb_ev hbSH 25 [.ref 43, .int 3] σ) (fun y10 σ10 => hb_g [hb_01 y10] (some (some (.int y10), σ10)))) := by
  refine (hb_blk [(.aload_n 1, 1, 1, 0, 0, 0, 0), (.getfield 101, 3, 2, 3, 0, 0, 0), (.iconst 4, 1, 0, 0, 0, 4, 0)] (pe := 5) (gs := []) (loc' := [.ref 43, .ref 4, .null, .null]) (stk' := [.int 4, .int (σ 4 3)]) (σ' := σ) (by decide +kernel) rfl).trans ?_
  refine hb_br (hb_fe_ok (r := (.if_icmp .lt 9, 3, 14, 0, 0, 0, 0)) (by decide +kernel)) rfl ?_ ?_
  · refine (hb_blk [(.aload_n 0, 1, 0, 0, 0, 0, 0)] (pe := 15) (gs := []) (loc' := [.ref 43, .ref 4, .null, .null]) (stk' := [.ref 43]) (σ' := σ) (by decide +kernel) rfl).trans ?_
    refine hb_Vv (hb_fe_ok (r := (.invokevirtual 86, 3, 26, 0, 0, 0, 0)) (by decide +kernel)) (by decide +kernel) (as := []) (v := .ref 43) (rest := []) rfl rfl (Nat.le_of_ble_eq_true rfl) (fun σ15 => ?_)
    refine (hb_blk [(.iconst 0, 1, 0, 0, 0, 0, 0), (.istore_n 2, 1, 2, 0, 0, 0, 0)] (pe := 20) (gs := []) (loc' := [.ref 43, .ref 4, .int 0, .null]) (stk' := []) (σ' := σ15) (by decide +kernel) rfl).trans ?_
    exact rfl
  · refine (hb_blk [(.aload_n 0, 1, 0, 0, 0, 0, 0), (.iconst 3, 1, 0, 0, 0, 3, 0)] (pe := 10) (gs := []) (loc' := [.ref 43, .ref 4, .null, .null]) (stk' := [.int 3, .ref 43]) (σ' := σ) (by decide +kernel) rfl).trans ?_
    refine hb_Vi (hb_fe_ok (r := (.invokevirtual 79, 3, 25, 1, 0, 0, 0)) (by decide +kernel)) (by decide +kernel) (as := [.int 3]) (v := .ref 43) (rest := []) rfl rfl (Nat.le_of_ble_eq_true rfl) (fun y10 σ10 => ?_)
    exact hb_r_zret (hb_fe_ok (r := (.ireturn, 1, 0, 0, 1, 0, 0)) (by decide +kernel))
set_option maxRecDepth 8000 in
theorem e17_20b  (σ : hbM) (x2 : Int32) (v3 : Value) : hb_run hbSH 17 (20, [.ref 43, .ref 4, .int x2, v3], [], σ) = if ((3 : Int32) ≤ x2) then (hb_ci (hb_ev hbSH 21 [.ref 43] σ) (fun y79 σ79 => if (¬ y79 = (-1000000 : Int32)) then (hb_run hbSH 17 (92, [.ref 43, .ref 4, .int x2, v3], [.int 3, .ref 43], σ79)) else (hb_run hbSH 17 (92, [.ref 43, .ref 4, .int x2, v3], [.int 1, .ref 43], σ79)))) else (hb_ci (hb_ev hbSH 20 [.ref 43] σ) (fun y26 σ26 => if (¬ y26 = (-1000000 : Int32)) then (hb_cv (hb_ev hbSH 12 [.ref 4, .int x2, .int y26] σ26) (fun σ41 => if ((σ41 43 6) = (4 : Int32)) then (hb_cv (hb_ev hbSH 26 [.ref 43] σ41) (fun σ68 => hb_run hbSH 17 (20, [.ref 43, .ref 4, .int (x2 + (1 : Int32)), .int y26], [], σ68))) else (hb_ci (hb_ev hbSH 24 [.ref 43] (hb_up σ41 4 3 ((σ41 4 3) + (1 : Int32)))) (fun y63 σ63 => hb_g [hb_01 y63] (some (some (.int y63), σ63)))))) else (some (some (.int 0), σ26)))) := by
  refine (hb_blk [(.iload_n 2, 1, 2, 0, 0, 0, 0), (.iconst 3, 1, 0, 0, 0, 3, 0)] (pe := 22) (gs := []) (loc' := [.ref 43, .ref 4, .int x2, v3]) (stk' := [.int 3, .int x2]) (σ' := σ) (by decide +kernel) rfl).trans ?_
  refine hb_br (hb_fe_ok (r := (.if_icmp .ge 55, 3, 77, 0, 0, 0, 0)) (by decide +kernel)) rfl ?_ ?_
  · refine (hb_blk [(.aload_n 0, 1, 0, 0, 0, 0, 0), (.aload_n 0, 1, 0, 0, 0, 0, 0)] (pe := 79) (gs := []) (loc' := [.ref 43, .ref 4, .int x2, v3]) (stk' := [.ref 43, .ref 43]) (σ' := σ) (by decide +kernel) rfl).trans ?_
    refine hb_Vi (hb_fe_ok (r := (.invokevirtual 112, 3, 21, 0, 0, 0, 0)) (by decide +kernel)) (by decide +kernel) (as := []) (v := .ref 43) (rest := [.ref 43]) rfl rfl (Nat.le_of_ble_eq_true rfl) (fun y79 σ79 => ?_)
    refine (hb_blk [(.ldc 93, 2, 0, 0, 0, (-1000000), 0)] (pe := 84) (gs := []) (loc' := [.ref 43, .ref 4, .int x2, v3]) (stk' := [.int (-1000000), .int y79, .ref 43]) (σ' := σ79) (by decide +kernel) rfl).trans ?_
    refine hb_br (hb_fe_ok (r := (.if_icmp .ne 7, 3, 91, 0, 0, 0, 0)) (by decide +kernel)) rfl ?_ ?_
    · refine (hb_blk [(.iconst 3, 1, 0, 0, 0, 3, 0)] (pe := 92) (gs := []) (loc' := [.ref 43, .ref 4, .int x2, v3]) (stk' := [.int 3, .ref 43]) (σ' := σ79) (by decide +kernel) rfl).trans ?_
      exact rfl
    · refine (hb_blk [(.iconst 1, 1, 0, 0, 0, 1, 0)] (pe := 88) (gs := []) (loc' := [.ref 43, .ref 4, .int x2, v3]) (stk' := [.int 1, .ref 43]) (σ' := σ79) (by decide +kernel) rfl).trans ?_
      refine (hb_r_goto (hb_fe_ok (r := (.goto 4, 3, 92, 0, 0, 0, 0)) (by decide +kernel))).trans ?_
      exact rfl
  · refine (hb_blk [(.aload_n 0, 1, 0, 0, 0, 0, 0)] (pe := 26) (gs := []) (loc' := [.ref 43, .ref 4, .int x2, v3]) (stk' := [.ref 43]) (σ' := σ) (by decide +kernel) rfl).trans ?_
    refine hb_Vi (hb_fe_ok (r := (.invokevirtual 104, 3, 20, 0, 0, 0, 0)) (by decide +kernel)) (by decide +kernel) (as := []) (v := .ref 43) (rest := []) rfl rfl (Nat.le_of_ble_eq_true rfl) (fun y26 σ26 => ?_)
    refine (hb_blk [(.istore_n 3, 1, 3, 0, 0, 0, 0), (.iload_n 3, 1, 3, 0, 0, 0, 0), (.ldc 93, 2, 0, 0, 0, (-1000000), 0)] (pe := 33) (gs := []) (loc' := [.ref 43, .ref 4, .int x2, .int y26]) (stk' := [.int (-1000000), .int y26]) (σ' := σ26) (by decide +kernel) rfl).trans ?_
    refine hb_br (hb_fe_ok (r := (.if_icmp .ne 5, 3, 38, 0, 0, 0, 0)) (by decide +kernel)) rfl ?_ ?_
    · refine (hb_blk [(.aload_n 1, 1, 1, 0, 0, 0, 0), (.iload_n 2, 1, 2, 0, 0, 0, 0), (.iload_n 3, 1, 3, 0, 0, 0, 0)] (pe := 41) (gs := []) (loc' := [.ref 43, .ref 4, .int x2, .int y26]) (stk' := [.int y26, .int x2, .ref 4]) (σ' := σ26) (by decide +kernel) rfl).trans ?_
      refine hb_Vv (hb_fe_ok (r := (.invokevirtual 108, 3, 12, 2, 0, 0, 0)) (by decide +kernel)) (by decide +kernel) (as := [.int x2, .int y26]) (v := .ref 4) (rest := []) rfl rfl (Nat.le_of_ble_eq_true rfl) (fun σ41 => ?_)
      refine (hb_blk [(.aload_n 0, 1, 0, 0, 0, 0, 0), (.getfield 49, 3, 3, 6, 0, 0, 0), (.iconst 4, 1, 0, 0, 0, 4, 0)] (pe := 49) (gs := []) (loc' := [.ref 43, .ref 4, .int x2, .int y26]) (stk' := [.int 4, .int (σ41 43 6)]) (σ' := σ41) (by decide +kernel) rfl).trans ?_
      refine hb_br (hb_fe_ok (r := (.if_icmp .eq 18, 3, 67, 0, 0, 0, 0)) (by decide +kernel)) rfl ?_ ?_
      · refine (hb_blk [(.aload_n 0, 1, 0, 0, 0, 0, 0)] (pe := 68) (gs := []) (loc' := [.ref 43, .ref 4, .int x2, .int y26]) (stk' := [.ref 43]) (σ' := σ41) (by decide +kernel) rfl).trans ?_
        refine hb_Vv (hb_fe_ok (r := (.invokevirtual 86, 3, 26, 0, 0, 0, 0)) (by decide +kernel)) (by decide +kernel) (as := []) (v := .ref 43) (rest := []) rfl rfl (Nat.le_of_ble_eq_true rfl) (fun σ68 => ?_)
        refine (hb_blk [(.iinc 2 1, 3, 2, 0, 0, 1, 0)] (pe := 74) (gs := []) (loc' := [.ref 43, .ref 4, .int (x2 + (1 : Int32)), .int y26]) (stk' := []) (σ' := σ68) (by decide +kernel) rfl).trans ?_
        refine (hb_r_goto (hb_fe_ok (r := (.goto (-54), 3, 20, 0, 0, 0, 0)) (by decide +kernel))).trans ?_
        exact rfl
      · refine (hb_blk [(.aload_n 1, 1, 1, 0, 0, 0, 0), (.dup, 1, 0, 0, 0, 0, 0), (.getfield 101, 3, 2, 3, 0, 0, 0), (.iconst 1, 1, 0, 0, 0, 1, 0), (.iadd, 1, 0, 0, 0, 0, 0), (.putfield 101, 3, 2, 3, 0, 0, 0), (.aload_n 0, 1, 0, 0, 0, 0, 0)] (pe := 63) (gs := []) (loc' := [.ref 43, .ref 4, .int x2, .int y26]) (stk' := [.ref 43]) (σ' := (hb_up σ41 4 3 ((σ41 4 3) + (1 : Int32)))) (by decide +kernel) rfl).trans ?_
        refine hb_Vi (hb_fe_ok (r := (.invokevirtual 98, 3, 24, 0, 0, 0, 0)) (by decide +kernel)) (by decide +kernel) (as := []) (v := .ref 43) (rest := []) rfl rfl (Nat.le_of_ble_eq_true rfl) (fun y63 σ63 => ?_)
        exact hb_r_zret (hb_fe_ok (r := (.ireturn, 1, 0, 0, 1, 0, 0)) (by decide +kernel))
    · refine (hb_blk [(.iconst 0, 1, 0, 0, 0, 0, 0)] (pe := 37) (gs := []) (loc' := [.ref 43, .ref 4, .int x2, .int y26]) (stk' := [.int 0]) (σ' := σ26) (by decide +kernel) rfl).trans ?_
      exact hb_r_zret1 (hb_fe_ok (r := (.ireturn, 1, 0, 0, 1, 0, 0)) (by decide +kernel)) (by decide)
set_option maxRecDepth 8000 in
theorem e17_92b  (σ : hbM) (x2 : Int32) (v3 : Value) (s0 : Int32) : hb_run hbSH 17 (92, [.ref 43, .ref 4, .int x2, v3], [.int s0, .ref 43], σ) = hb_ci (hb_ev hbSH 25 [.ref 43, .int s0] σ) (fun y92 σ92 => hb_g [hb_01 y92] (some (some (.int y92), σ92))) := by
  refine hb_Vi (hb_fe_ok (r := (.invokevirtual 79, 3, 25, 1, 0, 0, 0)) (by decide +kernel)) (by decide +kernel) (as := [.int s0]) (v := .ref 43) (rest := []) rfl rfl (Nat.le_of_ble_eq_true rfl) (fun y92 σ92 => ?_)
  exact hb_r_zret (hb_fe_ok (r := (.ireturn, 1, 0, 0, 1, 0, 0)) (by decide +kernel))
set_option maxRecDepth 8000 in
theorem e18_0  (σ : hbM) : hb_run hbSH 18 (0, [.ref 43, .null, .null, .null], [], σ) = if ((σ 31 5) < (16 : Int32)) then (hb_cv (hb_ev hbSH 26 [.ref 43] σ) (fun σ19 => hb_ci (hb_ev hbSH 22 [.ref 43] σ19) (fun y23 σ23 => if (¬ y23 = (-1000000 : Int32)) then (hb_cv (hb_ev hbSH 26 [.ref 43] σ23) (fun σ40 => if (y23 = (2 : Int32)) then (hb_run hbSH 18 (53, [.ref 43, .int y23, .null, .null], [], σ40)) else (if (¬ y23 = (3 : Int32)) then (hb_ci (hb_ev hbSH 19 [.ref 43, .int y23] σ40) (fun y75 σ75 => if (¬ y75 = (-1000000 : Int32)) then (hb_cv (hb_ev hbSH 34 [.ref 31, .int y23, .int y75, .int 0] σ75) (fun σ94 => hb_ci (hb_ev hbSH 24 [.ref 43] σ94) (fun y98 σ98 => hb_g [hb_01 y98] (some (some (.int y98), σ98))))) else (some (some (.int 0), σ75)))) else (hb_run hbSH 18 (53, [.ref 43, .int y23, .null, .null], [], σ40))))) else (hb_ci (hb_ev hbSH 25 [.ref 43, .int 1] σ23) (fun y35 σ35 => hb_g [hb_01 y35] (some (some (.int y35), σ35))))))) else (hb_ci (hb_ev hbSH 25 [.ref 43, .int 3] σ) (fun y14 σ14 => hb_g [hb_01 y14] (some (some (.int y14), σ14)))) := by
  refine (hb_blk [(.aload_n 0, 1, 0, 0, 0, 0, 0), (.getfield 19, 3, 3, 2, 0, 0, 0), (.getfield 39, 3, 6, 5, 0, 0, 0), (.bipush 16, 2, 0, 0, 0, 16, 0)] (pe := 9) (gs := []) (loc' := [.ref 43, .null, .null, .null]) (stk' := [.int 16, .int (σ 31 5)]) (σ' := σ) (by decide +kernel) rfl).trans ?_
  refine hb_br (hb_fe_ok (r := (.if_icmp .lt 9, 3, 18, 0, 0, 0, 0)) (by decide +kernel)) rfl ?_ ?_
  · refine (hb_blk [(.aload_n 0, 1, 0, 0, 0, 0, 0)] (pe := 19) (gs := []) (loc' := [.ref 43, .null, .null, .null]) (stk' := [.ref 43]) (σ' := σ) (by decide +kernel) rfl).trans ?_
    refine hb_Vv (hb_fe_ok (r := (.invokevirtual 86, 3, 26, 0, 0, 0, 0)) (by decide +kernel)) (by decide +kernel) (as := []) (v := .ref 43) (rest := []) rfl rfl (Nat.le_of_ble_eq_true rfl) (fun σ19 => ?_)
    refine (hb_blk [(.aload_n 0, 1, 0, 0, 0, 0, 0)] (pe := 23) (gs := []) (loc' := [.ref 43, .null, .null, .null]) (stk' := [.ref 43]) (σ' := σ19) (by decide +kernel) rfl).trans ?_
    refine hb_Vi (hb_fe_ok (r := (.invokevirtual 115, 3, 22, 0, 0, 0, 0)) (by decide +kernel)) (by decide +kernel) (as := []) (v := .ref 43) (rest := []) rfl rfl (Nat.le_of_ble_eq_true rfl) (fun y23 σ23 => ?_)
    refine (hb_blk [(.istore_n 1, 1, 1, 0, 0, 0, 0), (.iload_n 1, 1, 1, 0, 0, 0, 0), (.ldc 93, 2, 0, 0, 0, (-1000000), 0)] (pe := 30) (gs := []) (loc' := [.ref 43, .int y23, .null, .null]) (stk' := [.int (-1000000), .int y23]) (σ' := σ23) (by decide +kernel) rfl).trans ?_
    refine hb_br (hb_fe_ok (r := (.if_icmp .ne 9, 3, 39, 0, 0, 0, 0)) (by decide +kernel)) rfl ?_ ?_
    · refine (hb_blk [(.aload_n 0, 1, 0, 0, 0, 0, 0)] (pe := 40) (gs := []) (loc' := [.ref 43, .int y23, .null, .null]) (stk' := [.ref 43]) (σ' := σ23) (by decide +kernel) rfl).trans ?_
      refine hb_Vv (hb_fe_ok (r := (.invokevirtual 86, 3, 26, 0, 0, 0, 0)) (by decide +kernel)) (by decide +kernel) (as := []) (v := .ref 43) (rest := []) rfl rfl (Nat.le_of_ble_eq_true rfl) (fun σ40 => ?_)
      refine (hb_blk [(.iload_n 1, 1, 1, 0, 0, 0, 0), (.iconst 2, 1, 0, 0, 0, 2, 0)] (pe := 45) (gs := []) (loc' := [.ref 43, .int y23, .null, .null]) (stk' := [.int 2, .int y23]) (σ' := σ40) (by decide +kernel) rfl).trans ?_
      refine hb_br (hb_fe_ok (r := (.if_icmp .eq 8, 3, 53, 0, 0, 0, 0)) (by decide +kernel)) rfl ?_ ?_
      · exact rfl
      · refine (hb_blk [(.iload_n 1, 1, 1, 0, 0, 0, 0), (.iconst 3, 1, 0, 0, 0, 3, 0)] (pe := 50) (gs := []) (loc' := [.ref 43, .int y23, .null, .null]) (stk' := [.int 3, .int y23]) (σ' := σ40) (by decide +kernel) rfl).trans ?_
        refine hb_br (hb_fe_ok (r := (.if_icmp .ne 10, 3, 60, 0, 0, 0, 0)) (by decide +kernel)) rfl ?_ ?_
        · refine (hb_blk [(.iconst 0, 1, 0, 0, 0, 0, 0)] (pe := 61) (gs := []) (loc' := [.ref 43, .int y23, .null, .null]) (stk' := [.int 0]) (σ' := σ40) (by decide +kernel) rfl).trans ?_
          refine (hb_blk [(.istore_n 2, 1, 2, 0, 0, 0, 0), (.iload_n 2, 1, 2, 0, 0, 0, 0), (.ldc 93, 2, 0, 0, 0, (-1000000), 0)] (pe := 65) (gs := []) (loc' := [.ref 43, .int y23, .int 0, .null]) (stk' := [.int (-1000000), .int 0]) (σ' := σ40) (by decide +kernel) rfl).trans ?_
          refine hb_brT (hb_fe_ok (r := (.if_icmp .ne 8, 3, 73, 0, 0, 0, 0)) (by decide +kernel)) (by decide) ?_
          refine (hb_blk [(.aload_n 0, 1, 0, 0, 0, 0, 0), (.iload_n 1, 1, 1, 0, 0, 0, 0)] (pe := 75) (gs := []) (loc' := [.ref 43, .int y23, .int 0, .null]) (stk' := [.int y23, .ref 43]) (σ' := σ40) (by decide +kernel) rfl).trans ?_
          refine hb_Vi (hb_fe_ok (r := (.invokevirtual 118, 3, 19, 1, 0, 0, 0)) (by decide +kernel)) (by decide +kernel) (as := [.int y23]) (v := .ref 43) (rest := []) rfl rfl (Nat.le_of_ble_eq_true rfl) (fun y75 σ75 => ?_)
          refine (hb_blk [(.istore_n 3, 1, 3, 0, 0, 0, 0), (.iload_n 3, 1, 3, 0, 0, 0, 0), (.ldc 93, 2, 0, 0, 0, (-1000000), 0)] (pe := 82) (gs := []) (loc' := [.ref 43, .int y23, .int 0, .int y75]) (stk' := [.int (-1000000), .int y75]) (σ' := σ75) (by decide +kernel) rfl).trans ?_
          refine hb_br (hb_fe_ok (r := (.if_icmp .ne 5, 3, 87, 0, 0, 0, 0)) (by decide +kernel)) rfl ?_ ?_
          · refine (hb_blk [(.aload_n 0, 1, 0, 0, 0, 0, 0), (.getfield 19, 3, 3, 2, 0, 0, 0), (.iload_n 1, 1, 1, 0, 0, 0, 0), (.iload_n 3, 1, 3, 0, 0, 0, 0), (.iload_n 2, 1, 2, 0, 0, 0, 0)] (pe := 94) (gs := []) (loc' := [.ref 43, .int y23, .int 0, .int y75]) (stk' := [.int 0, .int y75, .int y23, .ref 31]) (σ' := σ75) (by decide +kernel) rfl).trans ?_
            refine hb_Vv (hb_fe_ok (r := (.invokevirtual 121, 3, 34, 3, 0, 0, 0)) (by decide +kernel)) (by decide +kernel) (as := [.int y23, .int y75, .int 0]) (v := .ref 31) (rest := []) rfl rfl (Nat.le_of_ble_eq_true rfl) (fun σ94 => ?_)
            refine (hb_blk [(.aload_n 0, 1, 0, 0, 0, 0, 0)] (pe := 98) (gs := []) (loc' := [.ref 43, .int y23, .int 0, .int y75]) (stk' := [.ref 43]) (σ' := σ94) (by decide +kernel) rfl).trans ?_
            refine hb_Vi (hb_fe_ok (r := (.invokevirtual 98, 3, 24, 0, 0, 0, 0)) (by decide +kernel)) (by decide +kernel) (as := []) (v := .ref 43) (rest := []) rfl rfl (Nat.le_of_ble_eq_true rfl) (fun y98 σ98 => ?_)
            exact hb_r_zret (hb_fe_ok (r := (.ireturn, 1, 0, 0, 1, 0, 0)) (by decide +kernel))
          · refine (hb_blk [(.iconst 0, 1, 0, 0, 0, 0, 0)] (pe := 86) (gs := []) (loc' := [.ref 43, .int y23, .int 0, .int y75]) (stk' := [.int 0]) (σ' := σ75) (by decide +kernel) rfl).trans ?_
            exact hb_r_zret1 (hb_fe_ok (r := (.ireturn, 1, 0, 0, 1, 0, 0)) (by decide +kernel)) (by decide)
        · exact rfl
    · refine (hb_blk [(.aload_n 0, 1, 0, 0, 0, 0, 0), (.iconst 1, 1, 0, 0, 0, 1, 0)] (pe := 35) (gs := []) (loc' := [.ref 43, .int y23, .null, .null]) (stk' := [.int 1, .ref 43]) (σ' := σ23) (by decide +kernel) rfl).trans ?_
      refine hb_Vi (hb_fe_ok (r := (.invokevirtual 79, 3, 25, 1, 0, 0, 0)) (by decide +kernel)) (by decide +kernel) (as := [.int 1]) (v := .ref 43) (rest := []) rfl rfl (Nat.le_of_ble_eq_true rfl) (fun y35 σ35 => ?_)
      exact hb_r_zret (hb_fe_ok (r := (.ireturn, 1, 0, 0, 1, 0, 0)) (by decide +kernel))
  · refine (hb_blk [(.aload_n 0, 1, 0, 0, 0, 0, 0), (.iconst 3, 1, 0, 0, 0, 3, 0)] (pe := 14) (gs := []) (loc' := [.ref 43, .null, .null, .null]) (stk' := [.int 3, .ref 43]) (σ' := σ) (by decide +kernel) rfl).trans ?_
    refine hb_Vi (hb_fe_ok (r := (.invokevirtual 79, 3, 25, 1, 0, 0, 0)) (by decide +kernel)) (by decide +kernel) (as := [.int 3]) (v := .ref 43) (rest := []) rfl rfl (Nat.le_of_ble_eq_true rfl) (fun y14 σ14 => ?_)
    exact hb_r_zret (hb_fe_ok (r := (.ireturn, 1, 0, 0, 1, 0, 0)) (by decide +kernel))
set_option maxRecDepth 8000 in
theorem e18_53  (σ : hbM) (x1 : Int32) : hb_run hbSH 18 (53, [.ref 43, .int x1, .null, .null], [], σ) = hb_ci (hb_ev hbSH 20 [.ref 43] σ) (fun y54 σ54 => if (¬ y54 = (-1000000 : Int32)) then (hb_ci (hb_ev hbSH 19 [.ref 43, .int x1] σ54) (fun y75 σ75 => if (¬ y75 = (-1000000 : Int32)) then (hb_cv (hb_ev hbSH 34 [.ref 31, .int x1, .int y75, .int y54] σ75) (fun σ94 => hb_ci (hb_ev hbSH 24 [.ref 43] σ94) (fun y98 σ98 => hb_g [hb_01 y98] (some (some (.int y98), σ98))))) else (some (some (.int 0), σ75)))) else (some (some (.int 0), σ54))) := by
  refine (hb_blk [(.aload_n 0, 1, 0, 0, 0, 0, 0)] (pe := 54) (gs := []) (loc' := [.ref 43, .int x1, .null, .null]) (stk' := [.ref 43]) (σ' := σ) (by decide +kernel) rfl).trans ?_
  refine hb_Vi (hb_fe_ok (r := (.invokevirtual 104, 3, 20, 0, 0, 0, 0)) (by decide +kernel)) (by decide +kernel) (as := []) (v := .ref 43) (rest := []) rfl rfl (Nat.le_of_ble_eq_true rfl) (fun y54 σ54 => ?_)
  refine (hb_r_goto (hb_fe_ok (r := (.goto 4, 3, 61, 0, 0, 0, 0)) (by decide +kernel))).trans ?_
  refine (hb_blk [(.istore_n 2, 1, 2, 0, 0, 0, 0), (.iload_n 2, 1, 2, 0, 0, 0, 0), (.ldc 93, 2, 0, 0, 0, (-1000000), 0)] (pe := 65) (gs := []) (loc' := [.ref 43, .int x1, .int y54, .null]) (stk' := [.int (-1000000), .int y54]) (σ' := σ54) (by decide +kernel) rfl).trans ?_
  refine hb_br (hb_fe_ok (r := (.if_icmp .ne 8, 3, 73, 0, 0, 0, 0)) (by decide +kernel)) rfl ?_ ?_
  · refine (hb_blk [(.aload_n 0, 1, 0, 0, 0, 0, 0), (.iload_n 1, 1, 1, 0, 0, 0, 0)] (pe := 75) (gs := []) (loc' := [.ref 43, .int x1, .int y54, .null]) (stk' := [.int x1, .ref 43]) (σ' := σ54) (by decide +kernel) rfl).trans ?_
    refine hb_Vi (hb_fe_ok (r := (.invokevirtual 118, 3, 19, 1, 0, 0, 0)) (by decide +kernel)) (by decide +kernel) (as := [.int x1]) (v := .ref 43) (rest := []) rfl rfl (Nat.le_of_ble_eq_true rfl) (fun y75 σ75 => ?_)
    refine (hb_blk [(.istore_n 3, 1, 3, 0, 0, 0, 0), (.iload_n 3, 1, 3, 0, 0, 0, 0), (.ldc 93, 2, 0, 0, 0, (-1000000), 0)] (pe := 82) (gs := []) (loc' := [.ref 43, .int x1, .int y54, .int y75]) (stk' := [.int (-1000000), .int y75]) (σ' := σ75) (by decide +kernel) rfl).trans ?_
    refine hb_br (hb_fe_ok (r := (.if_icmp .ne 5, 3, 87, 0, 0, 0, 0)) (by decide +kernel)) rfl ?_ ?_
    · refine (hb_blk [(.aload_n 0, 1, 0, 0, 0, 0, 0), (.getfield 19, 3, 3, 2, 0, 0, 0), (.iload_n 1, 1, 1, 0, 0, 0, 0), (.iload_n 3, 1, 3, 0, 0, 0, 0), (.iload_n 2, 1, 2, 0, 0, 0, 0)] (pe := 94) (gs := []) (loc' := [.ref 43, .int x1, .int y54, .int y75]) (stk' := [.int y54, .int y75, .int x1, .ref 31]) (σ' := σ75) (by decide +kernel) rfl).trans ?_
      refine hb_Vv (hb_fe_ok (r := (.invokevirtual 121, 3, 34, 3, 0, 0, 0)) (by decide +kernel)) (by decide +kernel) (as := [.int x1, .int y75, .int y54]) (v := .ref 31) (rest := []) rfl rfl (Nat.le_of_ble_eq_true rfl) (fun σ94 => ?_)
      refine (hb_blk [(.aload_n 0, 1, 0, 0, 0, 0, 0)] (pe := 98) (gs := []) (loc' := [.ref 43, .int x1, .int y54, .int y75]) (stk' := [.ref 43]) (σ' := σ94) (by decide +kernel) rfl).trans ?_
      refine hb_Vi (hb_fe_ok (r := (.invokevirtual 98, 3, 24, 0, 0, 0, 0)) (by decide +kernel)) (by decide +kernel) (as := []) (v := .ref 43) (rest := []) rfl rfl (Nat.le_of_ble_eq_true rfl) (fun y98 σ98 => ?_)
      exact hb_r_zret (hb_fe_ok (r := (.ireturn, 1, 0, 0, 1, 0, 0)) (by decide +kernel))
    · refine (hb_blk [(.iconst 0, 1, 0, 0, 0, 0, 0)] (pe := 86) (gs := []) (loc' := [.ref 43, .int x1, .int y54, .int y75]) (stk' := [.int 0]) (σ' := σ75) (by decide +kernel) rfl).trans ?_
      exact hb_r_zret1 (hb_fe_ok (r := (.ireturn, 1, 0, 0, 1, 0, 0)) (by decide +kernel)) (by decide)
  · refine (hb_blk [(.ldc 93, 2, 0, 0, 0, (-1000000), 0)] (pe := 70) (gs := []) (loc' := [.ref 43, .int x1, .int y54, .null]) (stk' := [.int (-1000000)]) (σ' := σ54) (by decide +kernel) rfl).trans ?_
    refine (hb_r_goto (hb_fe_ok (r := (.goto 8, 3, 78, 0, 0, 0, 0)) (by decide +kernel))).trans ?_
    refine (hb_blk [(.istore_n 3, 1, 3, 0, 0, 0, 0), (.iload_n 3, 1, 3, 0, 0, 0, 0), (.ldc 93, 2, 0, 0, 0, (-1000000), 0)] (pe := 82) (gs := []) (loc' := [.ref 43, .int x1, .int y54, .int (-1000000)]) (stk' := [.int (-1000000), .int (-1000000)]) (σ' := σ54) (by decide +kernel) rfl).trans ?_
    refine hb_brF (hb_fe_ok (r := (.if_icmp .ne 5, 3, 87, 0, 0, 0, 0)) (by decide +kernel)) (by decide) ?_
    refine (hb_blk [(.iconst 0, 1, 0, 0, 0, 0, 0)] (pe := 86) (gs := []) (loc' := [.ref 43, .int x1, .int y54, .int (-1000000)]) (stk' := [.int 0]) (σ' := σ54) (by decide +kernel) rfl).trans ?_
    exact hb_r_zret1 (hb_fe_ok (r := (.ireturn, 1, 0, 0, 1, 0, 0)) (by decide +kernel)) (by decide)
set_option maxRecDepth 8000 in
theorem e19_0  (σ : hbM) (x1 : Int32) : hb_run hbSH 19 (0, [.ref 43, .int x1], [], σ) = if (x1 = 0) then (hb_ci (hb_ev hbSH 23 [.ref 43, .int 4] σ) (fun y38 σ38 => some (some (.int y38), σ38))) else (if (x1 = 1) then (hb_ci (hb_ev hbSH 23 [.ref 43, .int 4] σ) (fun y38 σ38 => some (some (.int y38), σ38))) else (if (x1 = 2) then (some (some (.int 0), σ)) else (if (x1 = 3) then (hb_ci (hb_ev hbSH 23 [.ref 43, .int 16] σ) (fun y45 σ45 => some (some (.int y45), σ45))) else (if (x1 = 4) then (hb_ci (hb_ev hbSH 23 [.ref 43, .int 16] σ) (fun y45 σ45 => some (some (.int y45), σ45))) else (some (some (.int 0), σ)))))) := by
  refine (hb_blk [(.iload_n 1, 1, 1, 0, 0, 0, 0)] (pe := 1) (gs := []) (loc' := [.ref 43, .int x1]) (stk' := [.int x1]) (σ' := σ) (by decide +kernel) rfl).trans ?_
  refine hb_r_sw (hb_fe_ok (r := (.tableswitch 48 0 4 #[35, 35, 48, 41, 41], 35, 0, 0, 0, 0, 0)) (by decide +kernel)) ?_
  refine hb_swc (z := 0) (q := 36) ?_ ?_
  · refine (hb_blk [(.aload_n 0, 1, 0, 0, 0, 0, 0), (.iconst 4, 1, 0, 0, 0, 4, 0)] (pe := 38) (gs := []) (loc' := [.ref 43, .int x1]) (stk' := [.int 4, .ref 43]) (σ' := σ) (by decide +kernel) rfl).trans ?_
    refine hb_Vi (hb_fe_ok (r := (.invokevirtual 89, 3, 23, 1, 0, 0, 0)) (by decide +kernel)) (by decide +kernel) (as := [.int 4]) (v := .ref 43) (rest := []) rfl rfl (Nat.le_of_ble_eq_true rfl) (fun y38 σ38 => ?_)
    exact hb_r_iret (hb_fe_ok (r := (.ireturn, 1, 0, 0, 0, 0, 0)) (by decide +kernel))
  refine hb_swc (z := 1) (q := 36) ?_ ?_
  · refine (hb_blk [(.aload_n 0, 1, 0, 0, 0, 0, 0), (.iconst 4, 1, 0, 0, 0, 4, 0)] (pe := 38) (gs := []) (loc' := [.ref 43, .int x1]) (stk' := [.int 4, .ref 43]) (σ' := σ) (by decide +kernel) rfl).trans ?_
    refine hb_Vi (hb_fe_ok (r := (.invokevirtual 89, 3, 23, 1, 0, 0, 0)) (by decide +kernel)) (by decide +kernel) (as := [.int 4]) (v := .ref 43) (rest := []) rfl rfl (Nat.le_of_ble_eq_true rfl) (fun y38 σ38 => ?_)
    exact hb_r_iret (hb_fe_ok (r := (.ireturn, 1, 0, 0, 0, 0, 0)) (by decide +kernel))
  refine hb_swc (z := 2) (q := 49) ?_ ?_
  · refine (hb_blk [(.iconst 0, 1, 0, 0, 0, 0, 0)] (pe := 50) (gs := []) (loc' := [.ref 43, .int x1]) (stk' := [.int 0]) (σ' := σ) (by decide +kernel) rfl).trans ?_
    exact hb_r_iret (hb_fe_ok (r := (.ireturn, 1, 0, 0, 0, 0, 0)) (by decide +kernel))
  refine hb_swc (z := 3) (q := 42) ?_ ?_
  · refine (hb_blk [(.aload_n 0, 1, 0, 0, 0, 0, 0), (.bipush 16, 2, 0, 0, 0, 16, 0)] (pe := 45) (gs := []) (loc' := [.ref 43, .int x1]) (stk' := [.int 16, .ref 43]) (σ' := σ) (by decide +kernel) rfl).trans ?_
    refine hb_Vi (hb_fe_ok (r := (.invokevirtual 89, 3, 23, 1, 0, 0, 0)) (by decide +kernel)) (by decide +kernel) (as := [.int 16]) (v := .ref 43) (rest := []) rfl rfl (Nat.le_of_ble_eq_true rfl) (fun y45 σ45 => ?_)
    exact hb_r_iret (hb_fe_ok (r := (.ireturn, 1, 0, 0, 0, 0, 0)) (by decide +kernel))
  refine hb_swc (z := 4) (q := 42) ?_ ?_
  · refine (hb_blk [(.aload_n 0, 1, 0, 0, 0, 0, 0), (.bipush 16, 2, 0, 0, 0, 16, 0)] (pe := 45) (gs := []) (loc' := [.ref 43, .int x1]) (stk' := [.int 16, .ref 43]) (σ' := σ) (by decide +kernel) rfl).trans ?_
    refine hb_Vi (hb_fe_ok (r := (.invokevirtual 89, 3, 23, 1, 0, 0, 0)) (by decide +kernel)) (by decide +kernel) (as := [.int 16]) (v := .ref 43) (rest := []) rfl rfl (Nat.le_of_ble_eq_true rfl) (fun y45 σ45 => ?_)
    exact hb_r_iret (hb_fe_ok (r := (.ireturn, 1, 0, 0, 0, 0, 0)) (by decide +kernel))
  refine hb_swd 49 rfl ?_
  refine (hb_blk [(.iconst 0, 1, 0, 0, 0, 0, 0)] (pe := 50) (gs := []) (loc' := [.ref 43, .int x1]) (stk' := [.int 0]) (σ' := σ) (by decide +kernel) rfl).trans ?_
  exact hb_r_iret (hb_fe_ok (r := (.ireturn, 1, 0, 0, 0, 0, 0)) (by decide +kernel))
set_option maxRecDepth 8000 in
theorem e20_0  (σ : hbM) : hb_run hbSH 20 (0, [.ref 43, .null, .null, .null, .null], [], σ) = hb_ci (hb_ev hbSH 21 [.ref 43] σ) (fun y1 σ1 => if (¬ y1 = (-1000000 : Int32)) then (hb_cv (hb_ev hbSH 26 [.ref 43] σ1) (fun σ21 => if (y1 = (0 : Int32)) then (hb_run hbSH 20 (49, [.ref 43, .int y1, .int 1, .null, .null], [.int 4, .ref 43], σ21)) else (if (¬ y1 = (1 : Int32)) then (hb_run hbSH 20 (49, [.ref 43, .int y1, .int 0, .null, .null], [.int 2, .ref 43], σ21)) else (hb_run hbSH 20 (49, [.ref 43, .int y1, .int 1, .null, .null], [.int 4, .ref 43], σ21))))) else (hb_ci (hb_ev hbSH 25 [.ref 43, .int 1] σ1) (fun y13 σ13 => some (some (.int (-1000000)), σ13)))) := by
  refine (hb_blk [(.aload_n 0, 1, 0, 0, 0, 0, 0)] (pe := 1) (gs := []) (loc' := [.ref 43, .null, .null, .null, .null]) (stk' := [.ref 43]) (σ' := σ) (by decide +kernel) rfl).trans ?_
  refine hb_Vi (hb_fe_ok (r := (.invokevirtual 112, 3, 21, 0, 0, 0, 0)) (by decide +kernel)) (by decide +kernel) (as := []) (v := .ref 43) (rest := []) rfl rfl (Nat.le_of_ble_eq_true rfl) (fun y1 σ1 => ?_)
  refine (hb_blk [(.istore_n 1, 1, 1, 0, 0, 0, 0), (.iload_n 1, 1, 1, 0, 0, 0, 0), (.ldc 93, 2, 0, 0, 0, (-1000000), 0)] (pe := 8) (gs := []) (loc' := [.ref 43, .int y1, .null, .null, .null]) (stk' := [.int (-1000000), .int y1]) (σ' := σ1) (by decide +kernel) rfl).trans ?_
  refine hb_br (hb_fe_ok (r := (.if_icmp .ne 12, 3, 20, 0, 0, 0, 0)) (by decide +kernel)) rfl ?_ ?_
  · refine (hb_blk [(.aload_n 0, 1, 0, 0, 0, 0, 0)] (pe := 21) (gs := []) (loc' := [.ref 43, .int y1, .null, .null, .null]) (stk' := [.ref 43]) (σ' := σ1) (by decide +kernel) rfl).trans ?_
    refine hb_Vv (hb_fe_ok (r := (.invokevirtual 86, 3, 26, 0, 0, 0, 0)) (by decide +kernel)) (by decide +kernel) (as := []) (v := .ref 43) (rest := []) rfl rfl (Nat.le_of_ble_eq_true rfl) (fun σ21 => ?_)
    refine (hb_blk [(.iload_n 1, 1, 1, 0, 0, 0, 0)] (pe := 25) (gs := []) (loc' := [.ref 43, .int y1, .null, .null, .null]) (stk' := [.int y1]) (σ' := σ21) (by decide +kernel) rfl).trans ?_
    refine hb_br0 (hb_fe_ok (r := (.ifCond .eq 8, 3, 33, 0, 0, 0, 0)) (by decide +kernel)) rfl ?_ ?_
    · refine (hb_blk [(.iconst 1, 1, 0, 0, 0, 1, 0)] (pe := 34) (gs := []) (loc' := [.ref 43, .int y1, .null, .null, .null]) (stk' := [.int 1]) (σ' := σ21) (by decide +kernel) rfl).trans ?_
      refine (hb_r_goto (hb_fe_ok (r := (.goto 4, 3, 38, 0, 0, 0, 0)) (by decide +kernel))).trans ?_
      refine (hb_blk [(.istore_n 2, 1, 2, 0, 0, 0, 0), (.aload_n 0, 1, 0, 0, 0, 0, 0), (.iload_n 2, 1, 2, 0, 0, 0, 0)] (pe := 41) (gs := []) (loc' := [.ref 43, .int y1, .int 1, .null, .null]) (stk' := [.int 1, .ref 43]) (σ' := σ21) (by decide +kernel) rfl).trans ?_
      refine hb_br0F (hb_fe_ok (r := (.ifCond .eq 7, 3, 48, 0, 0, 0, 0)) (by decide +kernel)) (by decide) ?_
      refine (hb_blk [(.iconst 4, 1, 0, 0, 0, 4, 0)] (pe := 45) (gs := []) (loc' := [.ref 43, .int y1, .int 1, .null, .null]) (stk' := [.int 4, .ref 43]) (σ' := σ21) (by decide +kernel) rfl).trans ?_
      refine (hb_r_goto (hb_fe_ok (r := (.goto 4, 3, 49, 0, 0, 0, 0)) (by decide +kernel))).trans ?_
      exact rfl
    · refine (hb_blk [(.iload_n 1, 1, 1, 0, 0, 0, 0), (.iconst 1, 1, 0, 0, 0, 1, 0)] (pe := 30) (gs := []) (loc' := [.ref 43, .int y1, .null, .null, .null]) (stk' := [.int 1, .int y1]) (σ' := σ21) (by decide +kernel) rfl).trans ?_
      refine hb_br (hb_fe_ok (r := (.if_icmp .ne 7, 3, 37, 0, 0, 0, 0)) (by decide +kernel)) rfl ?_ ?_
      · refine (hb_blk [(.iconst 0, 1, 0, 0, 0, 0, 0)] (pe := 38) (gs := []) (loc' := [.ref 43, .int y1, .null, .null, .null]) (stk' := [.int 0]) (σ' := σ21) (by decide +kernel) rfl).trans ?_
        refine (hb_blk [(.istore_n 2, 1, 2, 0, 0, 0, 0), (.aload_n 0, 1, 0, 0, 0, 0, 0), (.iload_n 2, 1, 2, 0, 0, 0, 0)] (pe := 41) (gs := []) (loc' := [.ref 43, .int y1, .int 0, .null, .null]) (stk' := [.int 0, .ref 43]) (σ' := σ21) (by decide +kernel) rfl).trans ?_
        refine hb_br0T (hb_fe_ok (r := (.ifCond .eq 7, 3, 48, 0, 0, 0, 0)) (by decide +kernel)) (by decide) ?_
        refine (hb_blk [(.iconst 2, 1, 0, 0, 0, 2, 0)] (pe := 49) (gs := []) (loc' := [.ref 43, .int y1, .int 0, .null, .null]) (stk' := [.int 2, .ref 43]) (σ' := σ21) (by decide +kernel) rfl).trans ?_
        exact rfl
      · refine (hb_blk [(.iconst 1, 1, 0, 0, 0, 1, 0)] (pe := 34) (gs := []) (loc' := [.ref 43, .int y1, .null, .null, .null]) (stk' := [.int 1]) (σ' := σ21) (by decide +kernel) rfl).trans ?_
        refine (hb_r_goto (hb_fe_ok (r := (.goto 4, 3, 38, 0, 0, 0, 0)) (by decide +kernel))).trans ?_
        refine (hb_blk [(.istore_n 2, 1, 2, 0, 0, 0, 0), (.aload_n 0, 1, 0, 0, 0, 0, 0), (.iload_n 2, 1, 2, 0, 0, 0, 0)] (pe := 41) (gs := []) (loc' := [.ref 43, .int y1, .int 1, .null, .null]) (stk' := [.int 1, .ref 43]) (σ' := σ21) (by decide +kernel) rfl).trans ?_
        refine hb_br0F (hb_fe_ok (r := (.ifCond .eq 7, 3, 48, 0, 0, 0, 0)) (by decide +kernel)) (by decide) ?_
        refine (hb_blk [(.iconst 4, 1, 0, 0, 0, 4, 0)] (pe := 45) (gs := []) (loc' := [.ref 43, .int y1, .int 1, .null, .null]) (stk' := [.int 4, .ref 43]) (σ' := σ21) (by decide +kernel) rfl).trans ?_
        refine (hb_r_goto (hb_fe_ok (r := (.goto 4, 3, 49, 0, 0, 0, 0)) (by decide +kernel))).trans ?_
        exact rfl
  · refine (hb_blk [(.aload_n 0, 1, 0, 0, 0, 0, 0), (.iconst 1, 1, 0, 0, 0, 1, 0)] (pe := 13) (gs := []) (loc' := [.ref 43, .int y1, .null, .null, .null]) (stk' := [.int 1, .ref 43]) (σ' := σ1) (by decide +kernel) rfl).trans ?_
    refine hb_Vi (hb_fe_ok (r := (.invokevirtual 79, 3, 25, 1, 0, 0, 0)) (by decide +kernel)) (by decide +kernel) (as := [.int 1]) (v := .ref 43) (rest := []) rfl rfl (Nat.le_of_ble_eq_true rfl) (fun y13 σ13 => ?_)
    refine (hb_blk [(.pop, 1, 0, 0, 0, 0, 0), (.ldc 93, 2, 0, 0, 0, (-1000000), 0)] (pe := 19) (gs := []) (loc' := [.ref 43, .int y1, .null, .null, .null]) (stk' := [.int (-1000000)]) (σ' := σ13) (by decide +kernel) rfl).trans ?_
    exact hb_r_iret (hb_fe_ok (r := (.ireturn, 1, 0, 0, 0, 0, 0)) (by decide +kernel))
set_option maxRecDepth 8000 in
theorem e20_49  (σ : hbM) (x1 : Int32) (x2 : Int32) (s0 : Int32) : hb_run hbSH 20 (49, [.ref 43, .int x1, .int x2, .null, .null], [.int s0, .ref 43], σ) = hb_ci (hb_ev hbSH 23 [.ref 43, .int s0] σ) (fun y49 σ49 => if (¬ y49 = (-1000000 : Int32)) then (if (x2 = (0 : Int32)) then (hb_ci (hb_ev hbSH 23 [.ref 43, .int 8] σ49) (fun y73 σ73 => if (¬ y73 = (-1000000 : Int32)) then (hb_ci (hb_ev hbSH 69 [.int x1, .int y49, .int y73] σ73) (fun y94 σ94 => some (some (.int y94), σ94))) else (some (some (.int (-1000000)), σ73)))) else (hb_ci (hb_ev hbSH 69 [.int x1, .int y49, .int 0] σ49) (fun y94 σ94 => some (some (.int y94), σ94)))) else (some (some (.int (-1000000)), σ49))) := by
  refine hb_Vi (hb_fe_ok (r := (.invokevirtual 89, 3, 23, 1, 0, 0, 0)) (by decide +kernel)) (by decide +kernel) (as := [.int s0]) (v := .ref 43) (rest := []) rfl rfl (Nat.le_of_ble_eq_true rfl) (fun y49 σ49 => ?_)
  refine (hb_blk [(.istore_n 3, 1, 3, 0, 0, 0, 0), (.iload_n 3, 1, 3, 0, 0, 0, 0), (.ldc 93, 2, 0, 0, 0, (-1000000), 0)] (pe := 56) (gs := []) (loc' := [.ref 43, .int x1, .int x2, .int y49, .null]) (stk' := [.int (-1000000), .int y49]) (σ' := σ49) (by decide +kernel) rfl).trans ?_
  refine hb_br (hb_fe_ok (r := (.if_icmp .ne 6, 3, 62, 0, 0, 0, 0)) (by decide +kernel)) rfl ?_ ?_
  · refine (hb_blk [(.iload_n 2, 1, 2, 0, 0, 0, 0)] (pe := 63) (gs := []) (loc' := [.ref 43, .int x1, .int x2, .int y49, .null]) (stk' := [.int x2]) (σ' := σ49) (by decide +kernel) rfl).trans ?_
    refine hb_br0 (hb_fe_ok (r := (.ifCond .eq 7, 3, 70, 0, 0, 0, 0)) (by decide +kernel)) rfl ?_ ?_
    · refine (hb_blk [(.aload_n 0, 1, 0, 0, 0, 0, 0), (.bipush 8, 2, 0, 0, 0, 8, 0)] (pe := 73) (gs := []) (loc' := [.ref 43, .int x1, .int x2, .int y49, .null]) (stk' := [.int 8, .ref 43]) (σ' := σ49) (by decide +kernel) rfl).trans ?_
      refine hb_Vi (hb_fe_ok (r := (.invokevirtual 89, 3, 23, 1, 0, 0, 0)) (by decide +kernel)) (by decide +kernel) (as := [.int 8]) (v := .ref 43) (rest := []) rfl rfl (Nat.le_of_ble_eq_true rfl) (fun y73 σ73 => ?_)
      refine (hb_blk [(.istore 4, 2, 4, 0, 0, 0, 0), (.iload 4, 2, 4, 0, 0, 0, 0), (.ldc 93, 2, 0, 0, 0, (-1000000), 0)] (pe := 82) (gs := []) (loc' := [.ref 43, .int x1, .int x2, .int y49, .int y73]) (stk' := [.int (-1000000), .int y73]) (σ' := σ73) (by decide +kernel) rfl).trans ?_
      refine hb_br (hb_fe_ok (r := (.if_icmp .ne 8, 3, 90, 0, 0, 0, 0)) (by decide +kernel)) rfl ?_ ?_
      · refine (hb_blk [(.iload_n 1, 1, 1, 0, 0, 0, 0), (.iload_n 3, 1, 3, 0, 0, 0, 0), (.iload 4, 2, 4, 0, 0, 0, 0)] (pe := 94) (gs := []) (loc' := [.ref 43, .int x1, .int x2, .int y49, .int y73]) (stk' := [.int y73, .int y49, .int x1]) (σ' := σ73) (by decide +kernel) rfl).trans ?_
        refine hb_Si (hb_fe_ok (r := (.invokestatic 124, 3, 69, 3, 0, 0, 0)) (by decide +kernel)) (by decide) (by decide +kernel) (as := [.int x1, .int y49, .int y73]) (rest := []) rfl (Nat.le_of_ble_eq_true rfl) (fun y94 σ94 => ?_)
        exact hb_r_iret (hb_fe_ok (r := (.ireturn, 1, 0, 0, 0, 0, 0)) (by decide +kernel))
      · refine (hb_blk [(.ldc 93, 2, 0, 0, 0, (-1000000), 0)] (pe := 87) (gs := []) (loc' := [.ref 43, .int x1, .int x2, .int y49, .int y73]) (stk' := [.int (-1000000)]) (σ' := σ73) (by decide +kernel) rfl).trans ?_
        refine (hb_r_goto (hb_fe_ok (r := (.goto 10, 3, 97, 0, 0, 0, 0)) (by decide +kernel))).trans ?_
        exact hb_r_iret (hb_fe_ok (r := (.ireturn, 1, 0, 0, 0, 0, 0)) (by decide +kernel))
    · refine (hb_blk [(.iconst 0, 1, 0, 0, 0, 0, 0)] (pe := 67) (gs := []) (loc' := [.ref 43, .int x1, .int x2, .int y49, .null]) (stk' := [.int 0]) (σ' := σ49) (by decide +kernel) rfl).trans ?_
      refine (hb_r_goto (hb_fe_ok (r := (.goto 9, 3, 76, 0, 0, 0, 0)) (by decide +kernel))).trans ?_
      refine (hb_blk [(.istore 4, 2, 4, 0, 0, 0, 0), (.iload 4, 2, 4, 0, 0, 0, 0), (.ldc 93, 2, 0, 0, 0, (-1000000), 0)] (pe := 82) (gs := []) (loc' := [.ref 43, .int x1, .int x2, .int y49, .int 0]) (stk' := [.int (-1000000), .int 0]) (σ' := σ49) (by decide +kernel) rfl).trans ?_
      refine hb_brT (hb_fe_ok (r := (.if_icmp .ne 8, 3, 90, 0, 0, 0, 0)) (by decide +kernel)) (by decide) ?_
      refine (hb_blk [(.iload_n 1, 1, 1, 0, 0, 0, 0), (.iload_n 3, 1, 3, 0, 0, 0, 0), (.iload 4, 2, 4, 0, 0, 0, 0)] (pe := 94) (gs := []) (loc' := [.ref 43, .int x1, .int x2, .int y49, .int 0]) (stk' := [.int 0, .int y49, .int x1]) (σ' := σ49) (by decide +kernel) rfl).trans ?_
      refine hb_Si (hb_fe_ok (r := (.invokestatic 124, 3, 69, 3, 0, 0, 0)) (by decide +kernel)) (by decide) (by decide +kernel) (as := [.int x1, .int y49, .int 0]) (rest := []) rfl (Nat.le_of_ble_eq_true rfl) (fun y94 σ94 => ?_)
      exact hb_r_iret (hb_fe_ok (r := (.ireturn, 1, 0, 0, 0, 0, 0)) (by decide +kernel))
  · refine (hb_blk [(.ldc 93, 2, 0, 0, 0, (-1000000), 0)] (pe := 61) (gs := []) (loc' := [.ref 43, .int x1, .int x2, .int y49, .null]) (stk' := [.int (-1000000)]) (σ' := σ49) (by decide +kernel) rfl).trans ?_
    exact hb_r_iret (hb_fe_ok (r := (.ireturn, 1, 0, 0, 0, 0, 0)) (by decide +kernel))
set_option maxRecDepth 8000 in
theorem e21_0  (σ : hbM) : hb_run hbSH 21 (0, [.ref 43], [], σ) = if ((σ 43 6) = 7) then (some (some (.int 0), σ)) else (if ((σ 43 6) = 8) then (some (some (.int 1), σ)) else (if ((σ 43 6) = 9) then (some (some (.int 2), σ)) else (if ((σ 43 6) = 10) then (some (some (.int 3), σ)) else (some (some (.int (-1000000)), σ))))) := by
  refine (hb_blk [(.aload_n 0, 1, 0, 0, 0, 0, 0), (.getfield 49, 3, 3, 6, 0, 0, 0)] (pe := 4) (gs := []) (loc' := [.ref 43]) (stk' := [.int (σ 43 6)]) (σ' := σ) (by decide +kernel) rfl).trans ?_
  refine hb_r_sw (hb_fe_ok (r := (.tableswitch 40 7 10 #[32, 34, 36, 38], 32, 0, 0, 0, 0, 0)) (by decide +kernel)) ?_
  refine hb_swc (z := 7) (q := 36) ?_ ?_
  · refine (hb_blk [(.iconst 0, 1, 0, 0, 0, 0, 0)] (pe := 37) (gs := []) (loc' := [.ref 43]) (stk' := [.int 0]) (σ' := σ) (by decide +kernel) rfl).trans ?_
    exact hb_r_iret (hb_fe_ok (r := (.ireturn, 1, 0, 0, 0, 0, 0)) (by decide +kernel))
  refine hb_swc (z := 8) (q := 38) ?_ ?_
  · refine (hb_blk [(.iconst 1, 1, 0, 0, 0, 1, 0)] (pe := 39) (gs := []) (loc' := [.ref 43]) (stk' := [.int 1]) (σ' := σ) (by decide +kernel) rfl).trans ?_
    exact hb_r_iret (hb_fe_ok (r := (.ireturn, 1, 0, 0, 0, 0, 0)) (by decide +kernel))
  refine hb_swc (z := 9) (q := 40) ?_ ?_
  · refine (hb_blk [(.iconst 2, 1, 0, 0, 0, 2, 0)] (pe := 41) (gs := []) (loc' := [.ref 43]) (stk' := [.int 2]) (σ' := σ) (by decide +kernel) rfl).trans ?_
    exact hb_r_iret (hb_fe_ok (r := (.ireturn, 1, 0, 0, 0, 0, 0)) (by decide +kernel))
  refine hb_swc (z := 10) (q := 42) ?_ ?_
  · refine (hb_blk [(.iconst 3, 1, 0, 0, 0, 3, 0)] (pe := 43) (gs := []) (loc' := [.ref 43]) (stk' := [.int 3]) (σ' := σ) (by decide +kernel) rfl).trans ?_
    exact hb_r_iret (hb_fe_ok (r := (.ireturn, 1, 0, 0, 0, 0, 0)) (by decide +kernel))
  refine hb_swd 44 rfl ?_
  refine (hb_blk [(.ldc 93, 2, 0, 0, 0, (-1000000), 0)] (pe := 46) (gs := []) (loc' := [.ref 43]) (stk' := [.int (-1000000)]) (σ' := σ) (by decide +kernel) rfl).trans ?_
  exact hb_r_iret (hb_fe_ok (r := (.ireturn, 1, 0, 0, 0, 0, 0)) (by decide +kernel))
set_option maxRecDepth 8000 in
theorem e22_0  (σ : hbM) : hb_run hbSH 22 (0, [.ref 43], [], σ) = if ((σ 43 6) = 7) then (some (some (.int 0), σ)) else (if ((σ 43 6) = 8) then (some (some (.int 1), σ)) else (if ((σ 43 6) = 9) then (some (some (.int (-1000000)), σ)) else (if ((σ 43 6) = 10) then (some (some (.int (-1000000)), σ)) else (if ((σ 43 6) = 11) then (some (some (.int 2), σ)) else (if ((σ 43 6) = 12) then (some (some (.int 3), σ)) else (if ((σ 43 6) = 13) then (some (some (.int 4), σ)) else (if ((σ 43 6) = 14) then (some (some (.int 5), σ)) else (some (some (.int (-1000000)), σ))))))))) := by
  refine (hb_blk [(.aload_n 0, 1, 0, 0, 0, 0, 0), (.getfield 49, 3, 3, 6, 0, 0, 0)] (pe := 4) (gs := []) (loc' := [.ref 43]) (stk' := [.int (σ 43 6)]) (σ' := σ) (by decide +kernel) rfl).trans ?_
  refine hb_r_sw (hb_fe_ok (r := (.tableswitch 60 7 14 #[48, 50, 60, 60, 52, 54, 56, 58], 48, 0, 0, 0, 0, 0)) (by decide +kernel)) ?_
  refine hb_swc (z := 7) (q := 52) ?_ ?_
  · refine (hb_blk [(.iconst 0, 1, 0, 0, 0, 0, 0)] (pe := 53) (gs := []) (loc' := [.ref 43]) (stk' := [.int 0]) (σ' := σ) (by decide +kernel) rfl).trans ?_
    exact hb_r_iret (hb_fe_ok (r := (.ireturn, 1, 0, 0, 0, 0, 0)) (by decide +kernel))
  refine hb_swc (z := 8) (q := 54) ?_ ?_
  · refine (hb_blk [(.iconst 1, 1, 0, 0, 0, 1, 0)] (pe := 55) (gs := []) (loc' := [.ref 43]) (stk' := [.int 1]) (σ' := σ) (by decide +kernel) rfl).trans ?_
    exact hb_r_iret (hb_fe_ok (r := (.ireturn, 1, 0, 0, 0, 0, 0)) (by decide +kernel))
  refine hb_swc (z := 9) (q := 64) ?_ ?_
  · refine (hb_blk [(.ldc 93, 2, 0, 0, 0, (-1000000), 0)] (pe := 66) (gs := []) (loc' := [.ref 43]) (stk' := [.int (-1000000)]) (σ' := σ) (by decide +kernel) rfl).trans ?_
    exact hb_r_iret (hb_fe_ok (r := (.ireturn, 1, 0, 0, 0, 0, 0)) (by decide +kernel))
  refine hb_swc (z := 10) (q := 64) ?_ ?_
  · refine (hb_blk [(.ldc 93, 2, 0, 0, 0, (-1000000), 0)] (pe := 66) (gs := []) (loc' := [.ref 43]) (stk' := [.int (-1000000)]) (σ' := σ) (by decide +kernel) rfl).trans ?_
    exact hb_r_iret (hb_fe_ok (r := (.ireturn, 1, 0, 0, 0, 0, 0)) (by decide +kernel))
  refine hb_swc (z := 11) (q := 56) ?_ ?_
  · refine (hb_blk [(.iconst 2, 1, 0, 0, 0, 2, 0)] (pe := 57) (gs := []) (loc' := [.ref 43]) (stk' := [.int 2]) (σ' := σ) (by decide +kernel) rfl).trans ?_
    exact hb_r_iret (hb_fe_ok (r := (.ireturn, 1, 0, 0, 0, 0, 0)) (by decide +kernel))
  refine hb_swc (z := 12) (q := 58) ?_ ?_
  · refine (hb_blk [(.iconst 3, 1, 0, 0, 0, 3, 0)] (pe := 59) (gs := []) (loc' := [.ref 43]) (stk' := [.int 3]) (σ' := σ) (by decide +kernel) rfl).trans ?_
    exact hb_r_iret (hb_fe_ok (r := (.ireturn, 1, 0, 0, 0, 0, 0)) (by decide +kernel))
  refine hb_swc (z := 13) (q := 60) ?_ ?_
  · refine (hb_blk [(.iconst 4, 1, 0, 0, 0, 4, 0)] (pe := 61) (gs := []) (loc' := [.ref 43]) (stk' := [.int 4]) (σ' := σ) (by decide +kernel) rfl).trans ?_
    exact hb_r_iret (hb_fe_ok (r := (.ireturn, 1, 0, 0, 0, 0, 0)) (by decide +kernel))
  refine hb_swc (z := 14) (q := 62) ?_ ?_
  · refine (hb_blk [(.iconst 5, 1, 0, 0, 0, 5, 0)] (pe := 63) (gs := []) (loc' := [.ref 43]) (stk' := [.int 5]) (σ' := σ) (by decide +kernel) rfl).trans ?_
    exact hb_r_iret (hb_fe_ok (r := (.ireturn, 1, 0, 0, 0, 0, 0)) (by decide +kernel))
  refine hb_swd 64 rfl ?_
  refine (hb_blk [(.ldc 93, 2, 0, 0, 0, (-1000000), 0)] (pe := 66) (gs := []) (loc' := [.ref 43]) (stk' := [.int (-1000000)]) (σ' := σ) (by decide +kernel) rfl).trans ?_
  exact hb_r_iret (hb_fe_ok (r := (.ireturn, 1, 0, 0, 0, 0, 0)) (by decide +kernel))
set_option maxRecDepth 8000 in
theorem e23_0  (σ : hbM) (x1 : Int32) : hb_run hbSH 23 (0, [.ref 43, .int x1, .null], [], σ) = if (((σ 43 6) - (100 : Int32)) < (0 : Int32)) then (if ((0 : Int32) ≤ ((σ 43 6) - (100 : Int32))) then (hb_run hbSH 23 (27, [.ref 43, .int x1, .int ((σ 43 6) - (100 : Int32))], [.int 2, .ref 43], σ)) else (hb_run hbSH 23 (27, [.ref 43, .int x1, .int ((σ 43 6) - (100 : Int32))], [.int 1, .ref 43], σ))) else (if (((σ 43 6) - (100 : Int32)) < x1) then (hb_cv (hb_ev hbSH 26 [.ref 43] σ) (fun σ35 => some (some (.int ((σ 43 6) - (100 : Int32))), σ35))) else (if ((0 : Int32) ≤ ((σ 43 6) - (100 : Int32))) then (hb_run hbSH 23 (27, [.ref 43, .int x1, .int ((σ 43 6) - (100 : Int32))], [.int 2, .ref 43], σ)) else (hb_run hbSH 23 (27, [.ref 43, .int x1, .int ((σ 43 6) - (100 : Int32))], [.int 1, .ref 43], σ)))) := by
  refine (hb_blk [(.aload_n 0, 1, 0, 0, 0, 0, 0), (.getfield 49, 3, 3, 6, 0, 0, 0), (.bipush 100, 2, 0, 0, 0, 100, 0), (.isub, 1, 0, 0, 0, 0, 0), (.istore_n 2, 1, 2, 0, 0, 0, 0), (.iload_n 2, 1, 2, 0, 0, 0, 0)] (pe := 9) (gs := []) (loc' := [.ref 43, .int x1, .int ((σ 43 6) - (100 : Int32))]) (stk' := [.int ((σ 43 6) - (100 : Int32))]) (σ' := σ) (by decide +kernel) rfl).trans ?_
  refine hb_br0 (hb_fe_ok (r := (.ifCond .lt 8, 3, 17, 0, 0, 0, 0)) (by decide +kernel)) rfl ?_ ?_
  · refine (hb_blk [(.aload_n 0, 1, 0, 0, 0, 0, 0), (.iload_n 2, 1, 2, 0, 0, 0, 0)] (pe := 19) (gs := []) (loc' := [.ref 43, .int x1, .int ((σ 43 6) - (100 : Int32))]) (stk' := [.int ((σ 43 6) - (100 : Int32)), .ref 43]) (σ' := σ) (by decide +kernel) rfl).trans ?_
    refine hb_br0 (hb_fe_ok (r := (.ifCond .ge 7, 3, 26, 0, 0, 0, 0)) (by decide +kernel)) rfl ?_ ?_
    · refine (hb_blk [(.iconst 2, 1, 0, 0, 0, 2, 0)] (pe := 27) (gs := []) (loc' := [.ref 43, .int x1, .int ((σ 43 6) - (100 : Int32))]) (stk' := [.int 2, .ref 43]) (σ' := σ) (by decide +kernel) rfl).trans ?_
      exact rfl
    · refine (hb_blk [(.iconst 1, 1, 0, 0, 0, 1, 0)] (pe := 23) (gs := []) (loc' := [.ref 43, .int x1, .int ((σ 43 6) - (100 : Int32))]) (stk' := [.int 1, .ref 43]) (σ' := σ) (by decide +kernel) rfl).trans ?_
      refine (hb_r_goto (hb_fe_ok (r := (.goto 4, 3, 27, 0, 0, 0, 0)) (by decide +kernel))).trans ?_
      exact rfl
  · refine (hb_blk [(.iload_n 2, 1, 2, 0, 0, 0, 0), (.iload_n 1, 1, 1, 0, 0, 0, 0)] (pe := 14) (gs := []) (loc' := [.ref 43, .int x1, .int ((σ 43 6) - (100 : Int32))]) (stk' := [.int x1, .int ((σ 43 6) - (100 : Int32))]) (σ' := σ) (by decide +kernel) rfl).trans ?_
    refine hb_br (hb_fe_ok (r := (.if_icmp .lt 20, 3, 34, 0, 0, 0, 0)) (by decide +kernel)) rfl ?_ ?_
    · refine (hb_blk [(.aload_n 0, 1, 0, 0, 0, 0, 0)] (pe := 35) (gs := []) (loc' := [.ref 43, .int x1, .int ((σ 43 6) - (100 : Int32))]) (stk' := [.ref 43]) (σ' := σ) (by decide +kernel) rfl).trans ?_
      refine hb_Vv (hb_fe_ok (r := (.invokevirtual 86, 3, 26, 0, 0, 0, 0)) (by decide +kernel)) (by decide +kernel) (as := []) (v := .ref 43) (rest := []) rfl rfl (Nat.le_of_ble_eq_true rfl) (fun σ35 => ?_)
      refine (hb_blk [(.iload_n 2, 1, 2, 0, 0, 0, 0)] (pe := 39) (gs := []) (loc' := [.ref 43, .int x1, .int ((σ 43 6) - (100 : Int32))]) (stk' := [.int ((σ 43 6) - (100 : Int32))]) (σ' := σ35) (by decide +kernel) rfl).trans ?_
      exact hb_r_iret (hb_fe_ok (r := (.ireturn, 1, 0, 0, 0, 0, 0)) (by decide +kernel))
    · refine (hb_blk [(.aload_n 0, 1, 0, 0, 0, 0, 0), (.iload_n 2, 1, 2, 0, 0, 0, 0)] (pe := 19) (gs := []) (loc' := [.ref 43, .int x1, .int ((σ 43 6) - (100 : Int32))]) (stk' := [.int ((σ 43 6) - (100 : Int32)), .ref 43]) (σ' := σ) (by decide +kernel) rfl).trans ?_
      refine hb_br0 (hb_fe_ok (r := (.ifCond .ge 7, 3, 26, 0, 0, 0, 0)) (by decide +kernel)) rfl ?_ ?_
      · refine (hb_blk [(.iconst 2, 1, 0, 0, 0, 2, 0)] (pe := 27) (gs := []) (loc' := [.ref 43, .int x1, .int ((σ 43 6) - (100 : Int32))]) (stk' := [.int 2, .ref 43]) (σ' := σ) (by decide +kernel) rfl).trans ?_
        exact rfl
      · refine (hb_blk [(.iconst 1, 1, 0, 0, 0, 1, 0)] (pe := 23) (gs := []) (loc' := [.ref 43, .int x1, .int ((σ 43 6) - (100 : Int32))]) (stk' := [.int 1, .ref 43]) (σ' := σ) (by decide +kernel) rfl).trans ?_
        refine (hb_r_goto (hb_fe_ok (r := (.goto 4, 3, 27, 0, 0, 0, 0)) (by decide +kernel))).trans ?_
        exact rfl
set_option maxRecDepth 8000 in
theorem e23_27  (σ : hbM) (x1 : Int32) (x2 : Int32) (s0 : Int32) : hb_run hbSH 23 (27, [.ref 43, .int x1, .int x2], [.int s0, .ref 43], σ) = hb_ci (hb_ev hbSH 25 [.ref 43, .int s0] σ) (fun y27 σ27 => some (some (.int (-1000000)), σ27)) := by
  refine hb_Vi (hb_fe_ok (r := (.invokevirtual 79, 3, 25, 1, 0, 0, 0)) (by decide +kernel)) (by decide +kernel) (as := [.int s0]) (v := .ref 43) (rest := []) rfl rfl (Nat.le_of_ble_eq_true rfl) (fun y27 σ27 => ?_)
  refine (hb_blk [(.pop, 1, 0, 0, 0, 0, 0), (.ldc 93, 2, 0, 0, 0, (-1000000), 0)] (pe := 33) (gs := []) (loc' := [.ref 43, .int x1, .int x2]) (stk' := [.int (-1000000)]) (σ' := σ27) (by decide +kernel) rfl).trans ?_
  exact hb_r_iret (hb_fe_ok (r := (.ireturn, 1, 0, 0, 0, 0, 0)) (by decide +kernel))
set_option maxRecDepth 8000 in
theorem e24_0  (σ : hbM) : hb_run hbSH 24 (0, [.ref 43], [], σ) = if ((σ 43 6) = (20 : Int32)) then (hb_cv (hb_ev hbSH 26 [.ref 43] σ) (fun σ16 => some (some (.int 1), σ16))) else (hb_ci (hb_ev hbSH 25 [.ref 43, .int 1] σ) (fun y11 σ11 => hb_g [hb_01 y11] (some (some (.int y11), σ11)))) := by
  refine (hb_blk [(.aload_n 0, 1, 0, 0, 0, 0, 0), (.getfield 49, 3, 3, 6, 0, 0, 0), (.bipush 20, 2, 0, 0, 0, 20, 0)] (pe := 6) (gs := []) (loc' := [.ref 43]) (stk' := [.int 20, .int (σ 43 6)]) (σ' := σ) (by decide +kernel) rfl).trans ?_
  refine hb_br (hb_fe_ok (r := (.if_icmp .eq 9, 3, 15, 0, 0, 0, 0)) (by decide +kernel)) rfl ?_ ?_
  · refine (hb_blk [(.aload_n 0, 1, 0, 0, 0, 0, 0)] (pe := 16) (gs := []) (loc' := [.ref 43]) (stk' := [.ref 43]) (σ' := σ) (by decide +kernel) rfl).trans ?_
    refine hb_Vv (hb_fe_ok (r := (.invokevirtual 86, 3, 26, 0, 0, 0, 0)) (by decide +kernel)) (by decide +kernel) (as := []) (v := .ref 43) (rest := []) rfl rfl (Nat.le_of_ble_eq_true rfl) (fun σ16 => ?_)
    refine (hb_blk [(.iconst 1, 1, 0, 0, 0, 1, 0)] (pe := 20) (gs := []) (loc' := [.ref 43]) (stk' := [.int 1]) (σ' := σ16) (by decide +kernel) rfl).trans ?_
    exact hb_r_zret1 (hb_fe_ok (r := (.ireturn, 1, 0, 0, 1, 0, 0)) (by decide +kernel)) (by decide)
  · refine (hb_blk [(.aload_n 0, 1, 0, 0, 0, 0, 0), (.iconst 1, 1, 0, 0, 0, 1, 0)] (pe := 11) (gs := []) (loc' := [.ref 43]) (stk' := [.int 1, .ref 43]) (σ' := σ) (by decide +kernel) rfl).trans ?_
    refine hb_Vi (hb_fe_ok (r := (.invokevirtual 79, 3, 25, 1, 0, 0, 0)) (by decide +kernel)) (by decide +kernel) (as := [.int 1]) (v := .ref 43) (rest := []) rfl rfl (Nat.le_of_ble_eq_true rfl) (fun y11 σ11 => ?_)
    exact hb_r_zret (hb_fe_ok (r := (.ireturn, 1, 0, 0, 1, 0, 0)) (by decide +kernel))
set_option maxRecDepth 8000 in
theorem e25_0  (σ : hbM) (x1 : Int32) : hb_run hbSH 25 (0, [.ref 43, .int x1], [], σ) = hb_g [hb_in (σ 43 5) 401] (some (some (.int 0), (hb_up (hb_up σ 43 3 x1) 43 4 (σ 41 (Int32.toNatClampNeg (σ 43 5)))))) := by
  refine (hb_blk [(.aload_n 0, 1, 0, 0, 0, 0, 0), (.iload_n 1, 1, 1, 0, 0, 0, 0), (.putfield 128, 3, 3, 3, 0, 0, 0), (.aload_n 0, 1, 0, 0, 0, 0, 0), (.aload_n 0, 1, 0, 0, 0, 0, 0), (.getfield 9, 3, 3, 0, 0, 0, 0), (.getfield 131, 3, 7, 1, 0, 0, 0), (.aload_n 0, 1, 0, 0, 0, 0, 0), (.getfield 42, 3, 3, 5, 0, 0, 0), (.iaload, 1, 0, 0, 0, 0, 0), (.putfield 134, 3, 3, 4, 0, 0, 0), (.iconst 0, 1, 0, 0, 0, 0, 0)] (pe := 22) (gs := [hb_in (σ 43 5) 401]) (loc' := [.ref 43, .int x1]) (stk' := [.int 0]) (σ' := (hb_up (hb_up σ 43 3 x1) 43 4 (σ 41 (Int32.toNatClampNeg (σ 43 5))))) (by decide +kernel) rfl).trans ?_
  refine congrArg (hb_g _) ?_
  exact hb_r_zret1 (hb_fe_ok (r := (.ireturn, 1, 0, 0, 1, 0, 0)) (by decide +kernel)) (by decide)
set_option maxRecDepth 8000 in
theorem e26_0  (σ : hbM) : hb_run hbSH 26 (0, [.ref 43], [], σ) = if ((σ 43 6) = (21 : Int32)) then (some (none, σ)) else (if ((400 : Int32) ≤ (σ 43 5)) then (some (none, σ)) else (hb_g [hb_in ((σ 43 5) + (1 : Int32)) 401] (some (none, (hb_up (hb_up σ 43 5 ((σ 43 5) + (1 : Int32))) 43 6 (σ 42 (Int32.toNatClampNeg ((σ 43 5) + (1 : Int32))))))))) := by
  refine (hb_blk [(.aload_n 0, 1, 0, 0, 0, 0, 0), (.getfield 49, 3, 3, 6, 0, 0, 0), (.bipush 21, 2, 0, 0, 0, 21, 0)] (pe := 6) (gs := []) (loc' := [.ref 43]) (stk' := [.int 21, .int (σ 43 6)]) (σ' := σ) (by decide +kernel) rfl).trans ?_
  refine hb_br (hb_fe_ok (r := (.if_icmp .eq 39, 3, 45, 0, 0, 0, 0)) (by decide +kernel)) rfl ?_ ?_
  · exact hb_r_vret (hb_fe_ok (r := (.return_, 1, 0, 0, 0, 0, 0)) (by decide +kernel))
  · refine (hb_blk [(.aload_n 0, 1, 0, 0, 0, 0, 0), (.getfield 42, 3, 3, 5, 0, 0, 0), (.sipush 400, 3, 0, 0, 0, 400, 0)] (pe := 16) (gs := []) (loc' := [.ref 43]) (stk' := [.int 400, .int (σ 43 5)]) (σ' := σ) (by decide +kernel) rfl).trans ?_
    refine hb_br (hb_fe_ok (r := (.if_icmp .ge 29, 3, 45, 0, 0, 0, 0)) (by decide +kernel)) rfl ?_ ?_
    · exact hb_r_vret (hb_fe_ok (r := (.return_, 1, 0, 0, 0, 0, 0)) (by decide +kernel))
    · refine (hb_blk [(.aload_n 0, 1, 0, 0, 0, 0, 0), (.dup, 1, 0, 0, 0, 0, 0), (.getfield 42, 3, 3, 5, 0, 0, 0), (.iconst 1, 1, 0, 0, 0, 1, 0), (.iadd, 1, 0, 0, 0, 0, 0), (.putfield 42, 3, 3, 5, 0, 0, 0), (.aload_n 0, 1, 0, 0, 0, 0, 0), (.aload_n 0, 1, 0, 0, 0, 0, 0), (.getfield 9, 3, 3, 0, 0, 0, 0), (.getfield 45, 3, 7, 2, 0, 0, 0), (.aload_n 0, 1, 0, 0, 0, 0, 0), (.getfield 42, 3, 3, 5, 0, 0, 0), (.iaload, 1, 0, 0, 0, 0, 0), (.putfield 49, 3, 3, 6, 0, 0, 0)] (pe := 45) (gs := [hb_in ((σ 43 5) + (1 : Int32)) 401]) (loc' := [.ref 43]) (stk' := []) (σ' := (hb_up (hb_up σ 43 5 ((σ 43 5) + (1 : Int32))) 43 6 (σ 42 (Int32.toNatClampNeg ((σ 43 5) + (1 : Int32)))))) (by decide +kernel) rfl).trans ?_
      refine congrArg (hb_g _) ?_
      exact hb_r_vret (hb_fe_ok (r := (.return_, 1, 0, 0, 0, 0, 0)) (by decide +kernel))
set_option maxRecDepth 8000 in
theorem e27_0  (σ : hbM) : hb_run hbSH 27 (0, [.ref 44], [], σ) = some (none, (hb_up σ 44 4 ((σ 44 4) + (1 : Int32)))) := by
  refine (hb_blk [(.aload_n 0, 1, 0, 0, 0, 0, 0), (.dup, 1, 0, 0, 0, 0, 0), (.getfield 24, 3, 4, 4, 0, 0, 0), (.iconst 1, 1, 0, 0, 0, 1, 0), (.iadd, 1, 0, 0, 0, 0, 0), (.putfield 24, 3, 4, 4, 0, 0, 0)] (pe := 10) (gs := []) (loc' := [.ref 44]) (stk' := []) (σ' := (hb_up σ 44 4 ((σ 44 4) + (1 : Int32)))) (by decide +kernel) rfl).trans ?_
  exact hb_r_vret (hb_fe_ok (r := (.return_, 1, 0, 0, 0, 0, 0)) (by decide +kernel))
set_option maxRecDepth 8000 in
theorem e28_0  (σ : hbM) (x1 : Int32) (x2 : Int32) : hb_run hbSH 28 (0, [.ref 44, .int x1, .int x2, .null, .null, .null], [], σ) = hb_g [hb_in x1 17408] (if (¬ ((σ 48 (Int32.toNatClampNeg x1)) >>> (3 : Int32)) = (σ 44 4)) then (hb_run hbSH 28 (25, [.ref 44, .int x1, .int x2, .int (σ 48 (Int32.toNatClampNeg x1)), .null, .null], [.int 0], σ)) else (hb_run hbSH 28 (25, [.ref 44, .int x1, .int x2, .int (σ 48 (Int32.toNatClampNeg x1)), .null, .null], [.int ((σ 48 (Int32.toNatClampNeg x1)) &&& (7 : Int32))], σ))) := by
  refine (hb_blk [(.aload_n 0, 1, 0, 0, 0, 0, 0), (.getfield 21, 3, 4, 3, 0, 0, 0), (.iload_n 1, 1, 1, 0, 0, 0, 0), (.iaload, 1, 0, 0, 0, 0, 0), (.istore_n 3, 1, 3, 0, 0, 0, 0), (.iload_n 3, 1, 3, 0, 0, 0, 0), (.iconst 3, 1, 0, 0, 0, 3, 0), (.ishr, 1, 0, 0, 0, 0, 0), (.aload_n 0, 1, 0, 0, 0, 0, 0), (.getfield 24, 3, 4, 4, 0, 0, 0)] (pe := 14) (gs := [hb_in x1 17408]) (loc' := [.ref 44, .int x1, .int x2, .int (σ 48 (Int32.toNatClampNeg x1)), .null, .null]) (stk' := [.int (σ 44 4), .int ((σ 48 (Int32.toNatClampNeg x1)) >>> (3 : Int32))]) (σ' := σ) (by decide +kernel) rfl).trans ?_
  refine congrArg (hb_g _) ?_
  refine hb_br (hb_fe_ok (r := (.if_icmp .ne 10, 3, 24, 0, 0, 0, 0)) (by decide +kernel)) rfl ?_ ?_
  · refine (hb_blk [(.iconst 0, 1, 0, 0, 0, 0, 0)] (pe := 25) (gs := []) (loc' := [.ref 44, .int x1, .int x2, .int (σ 48 (Int32.toNatClampNeg x1)), .null, .null]) (stk' := [.int 0]) (σ' := σ) (by decide +kernel) rfl).trans ?_
    exact rfl
  · refine (hb_blk [(.iload_n 3, 1, 3, 0, 0, 0, 0), (.bipush 7, 2, 0, 0, 0, 7, 0), (.iand, 1, 0, 0, 0, 0, 0)] (pe := 21) (gs := []) (loc' := [.ref 44, .int x1, .int x2, .int (σ 48 (Int32.toNatClampNeg x1)), .null, .null]) (stk' := [.int ((σ 48 (Int32.toNatClampNeg x1)) &&& (7 : Int32))]) (σ' := σ) (by decide +kernel) rfl).trans ?_
    refine (hb_r_goto (hb_fe_ok (r := (.goto 4, 3, 25, 0, 0, 0, 0)) (by decide +kernel))).trans ?_
    exact rfl
set_option maxRecDepth 8000 in
theorem e28_25  (σ : hbM) (x1 : Int32) (x2 : Int32) (x3 : Int32) (s0 : Int32) : hb_run hbSH 28 (25, [.ref 44, .int x1, .int x2, .int x3, .null, .null], [.int s0], σ) = hb_g [hb_in x1 17408] (if (¬ (s0 &&& ((1 : Int32) <<< (x2 &&& 31))) = (0 : Int32)) then (some (some (.int 0), (hb_up σ 48 (Int32.toNatClampNeg x1) ((((σ 44 4) <<< (3 : Int32)) ||| s0) ||| ((1 : Int32) <<< (x2 &&& 31)))))) else (some (some (.int 1), (hb_up σ 48 (Int32.toNatClampNeg x1) ((((σ 44 4) <<< (3 : Int32)) ||| s0) ||| ((1 : Int32) <<< (x2 &&& 31))))))) := by
  refine (hb_blk [(.istore 4, 2, 4, 0, 0, 0, 0), (.iconst 1, 1, 0, 0, 0, 1, 0), (.iload_n 2, 1, 2, 0, 0, 0, 0), (.ishl, 1, 0, 0, 0, 0, 0), (.istore 5, 2, 5, 0, 0, 0, 0), (.aload_n 0, 1, 0, 0, 0, 0, 0), (.getfield 21, 3, 4, 3, 0, 0, 0), (.iload_n 1, 1, 1, 0, 0, 0, 0), (.aload_n 0, 1, 0, 0, 0, 0, 0), (.getfield 24, 3, 4, 4, 0, 0, 0), (.iconst 3, 1, 0, 0, 0, 3, 0), (.ishl, 1, 0, 0, 0, 0, 0), (.iload 4, 2, 4, 0, 0, 0, 0), (.ior, 1, 0, 0, 0, 0, 0), (.iload 5, 2, 5, 0, 0, 0, 0), (.ior, 1, 0, 0, 0, 0, 0), (.iastore, 1, 0, 0, 0, 0, 0), (.iload 4, 2, 4, 0, 0, 0, 0), (.iload 5, 2, 5, 0, 0, 0, 0), (.iand, 1, 0, 0, 0, 0, 0)] (pe := 55) (gs := [hb_in x1 17408]) (loc' := [.ref 44, .int x1, .int x2, .int x3, .int s0, .int ((1 : Int32) <<< (x2 &&& 31))]) (stk' := [.int (s0 &&& ((1 : Int32) <<< (x2 &&& 31)))]) (σ' := (hb_up σ 48 (Int32.toNatClampNeg x1) ((((σ 44 4) <<< (3 : Int32)) ||| s0) ||| ((1 : Int32) <<< (x2 &&& 31))))) (by decide +kernel) rfl).trans ?_
  refine congrArg (hb_g _) ?_
  refine hb_br0 (hb_fe_ok (r := (.ifCond .ne 7, 3, 62, 0, 0, 0, 0)) (by decide +kernel)) rfl ?_ ?_
  · refine (hb_blk [(.iconst 0, 1, 0, 0, 0, 0, 0)] (pe := 63) (gs := []) (loc' := [.ref 44, .int x1, .int x2, .int x3, .int s0, .int ((1 : Int32) <<< (x2 &&& 31))]) (stk' := [.int 0]) (σ' := (hb_up σ 48 (Int32.toNatClampNeg x1) ((((σ 44 4) <<< (3 : Int32)) ||| s0) ||| ((1 : Int32) <<< (x2 &&& 31))))) (by decide +kernel) rfl).trans ?_
    exact hb_r_zret1 (hb_fe_ok (r := (.ireturn, 1, 0, 0, 1, 0, 0)) (by decide +kernel)) (by decide)
  · refine (hb_blk [(.iconst 1, 1, 0, 0, 0, 1, 0)] (pe := 59) (gs := []) (loc' := [.ref 44, .int x1, .int x2, .int x3, .int s0, .int ((1 : Int32) <<< (x2 &&& 31))]) (stk' := [.int 1]) (σ' := (hb_up σ 48 (Int32.toNatClampNeg x1) ((((σ 44 4) <<< (3 : Int32)) ||| s0) ||| ((1 : Int32) <<< (x2 &&& 31))))) (by decide +kernel) rfl).trans ?_
    refine (hb_r_goto (hb_fe_ok (r := (.goto 4, 3, 63, 0, 0, 0, 0)) (by decide +kernel))).trans ?_
    exact hb_r_zret1 (hb_fe_ok (r := (.ireturn, 1, 0, 0, 1, 0, 0)) (by decide +kernel)) (by decide)
set_option maxRecDepth 8000 in
theorem e32_0  (σ : hbM) (x1 : Int32) : hb_run hbSH 32 (0, [.ref 31, .int x1], [], σ) = if (x1 < (0 : Int32)) then (some (some (.int 0), σ)) else (if ((σ 31 4) ≤ x1) then (some (some (.int 0), σ)) else (some (some (.int 1), σ))) := by
  refine (hb_blk [(.iload_n 1, 1, 1, 0, 0, 0, 0)] (pe := 1) (gs := []) (loc' := [.ref 31, .int x1]) (stk' := [.int x1]) (σ' := σ) (by decide +kernel) rfl).trans ?_
  refine hb_br0 (hb_fe_ok (r := (.ifCond .lt 15, 3, 16, 0, 0, 0, 0)) (by decide +kernel)) rfl ?_ ?_
  · refine (hb_blk [(.iconst 0, 1, 0, 0, 0, 0, 0)] (pe := 17) (gs := []) (loc' := [.ref 31, .int x1]) (stk' := [.int 0]) (σ' := σ) (by decide +kernel) rfl).trans ?_
    exact hb_r_zret1 (hb_fe_ok (r := (.ireturn, 1, 0, 0, 1, 0, 0)) (by decide +kernel)) (by decide)
  · refine (hb_blk [(.iload_n 1, 1, 1, 0, 0, 0, 0), (.aload_n 0, 1, 0, 0, 0, 0, 0), (.getfield 24, 3, 6, 4, 0, 0, 0)] (pe := 9) (gs := []) (loc' := [.ref 31, .int x1]) (stk' := [.int (σ 31 4), .int x1]) (σ' := σ) (by decide +kernel) rfl).trans ?_
    refine hb_br (hb_fe_ok (r := (.if_icmp .ge 7, 3, 16, 0, 0, 0, 0)) (by decide +kernel)) rfl ?_ ?_
    · refine (hb_blk [(.iconst 0, 1, 0, 0, 0, 0, 0)] (pe := 17) (gs := []) (loc' := [.ref 31, .int x1]) (stk' := [.int 0]) (σ' := σ) (by decide +kernel) rfl).trans ?_
      exact hb_r_zret1 (hb_fe_ok (r := (.ireturn, 1, 0, 0, 1, 0, 0)) (by decide +kernel)) (by decide)
    · refine (hb_blk [(.iconst 1, 1, 0, 0, 0, 1, 0)] (pe := 13) (gs := []) (loc' := [.ref 31, .int x1]) (stk' := [.int 1]) (σ' := σ) (by decide +kernel) rfl).trans ?_
      refine (hb_r_goto (hb_fe_ok (r := (.goto 4, 3, 17, 0, 0, 0, 0)) (by decide +kernel))).trans ?_
      exact hb_r_zret1 (hb_fe_ok (r := (.ireturn, 1, 0, 0, 1, 0, 0)) (by decide +kernel)) (by decide)
set_option maxRecDepth 8000 in
theorem e33_0  (σ : hbM) (x1 : Int32) : hb_run hbSH 33 (0, [.ref 31, .int x1], [], σ) = hb_g [hb_in x1 16] (if ((σ 32 (Int32.toNatClampNeg x1)) = (0 : Int32)) then (some (some (.int 1), σ)) else (hb_g [hb_in x1 16] (if (¬ (σ 32 (Int32.toNatClampNeg x1)) = (1 : Int32)) then (some (some (.int 0), σ)) else (some (some (.int 1), σ))))) := by
  refine (hb_blk [(.aload_n 0, 1, 0, 0, 0, 0, 0), (.getfield 9, 3, 6, 0, 0, 0, 0), (.iload_n 1, 1, 1, 0, 0, 0, 0), (.iaload, 1, 0, 0, 0, 0, 0)] (pe := 6) (gs := [hb_in x1 16]) (loc' := [.ref 31, .int x1]) (stk' := [.int (σ 32 (Int32.toNatClampNeg x1))]) (σ' := σ) (by decide +kernel) rfl).trans ?_
  refine congrArg (hb_g _) ?_
  refine hb_br0 (hb_fe_ok (r := (.ifCond .eq 13, 3, 19, 0, 0, 0, 0)) (by decide +kernel)) rfl ?_ ?_
  · refine (hb_blk [(.iconst 1, 1, 0, 0, 0, 1, 0)] (pe := 20) (gs := []) (loc' := [.ref 31, .int x1]) (stk' := [.int 1]) (σ' := σ) (by decide +kernel) rfl).trans ?_
    refine (hb_r_goto (hb_fe_ok (r := (.goto 4, 3, 24, 0, 0, 0, 0)) (by decide +kernel))).trans ?_
    exact hb_r_zret1 (hb_fe_ok (r := (.ireturn, 1, 0, 0, 1, 0, 0)) (by decide +kernel)) (by decide)
  · refine (hb_blk [(.aload_n 0, 1, 0, 0, 0, 0, 0), (.getfield 9, 3, 6, 0, 0, 0, 0), (.iload_n 1, 1, 1, 0, 0, 0, 0), (.iaload, 1, 0, 0, 0, 0, 0), (.iconst 1, 1, 0, 0, 0, 1, 0)] (pe := 16) (gs := [hb_in x1 16]) (loc' := [.ref 31, .int x1]) (stk' := [.int 1, .int (σ 32 (Int32.toNatClampNeg x1))]) (σ' := σ) (by decide +kernel) rfl).trans ?_
    refine congrArg (hb_g _) ?_
    refine hb_br (hb_fe_ok (r := (.if_icmp .ne 7, 3, 23, 0, 0, 0, 0)) (by decide +kernel)) rfl ?_ ?_
    · refine (hb_blk [(.iconst 0, 1, 0, 0, 0, 0, 0)] (pe := 24) (gs := []) (loc' := [.ref 31, .int x1]) (stk' := [.int 0]) (σ' := σ) (by decide +kernel) rfl).trans ?_
      exact hb_r_zret1 (hb_fe_ok (r := (.ireturn, 1, 0, 0, 1, 0, 0)) (by decide +kernel)) (by decide)
    · refine (hb_blk [(.iconst 1, 1, 0, 0, 0, 1, 0)] (pe := 20) (gs := []) (loc' := [.ref 31, .int x1]) (stk' := [.int 1]) (σ' := σ) (by decide +kernel) rfl).trans ?_
      refine (hb_r_goto (hb_fe_ok (r := (.goto 4, 3, 24, 0, 0, 0, 0)) (by decide +kernel))).trans ?_
      exact hb_r_zret1 (hb_fe_ok (r := (.ireturn, 1, 0, 0, 1, 0, 0)) (by decide +kernel)) (by decide)
set_option maxRecDepth 8000 in
theorem e34_0  (σ : hbM) (x1 : Int32) (x2 : Int32) (x3 : Int32) : hb_run hbSH 34 (0, [.ref 31, .int x1, .int x2, .int x3], [], σ) = if ((16 : Int32) ≤ (σ 31 5)) then (some (none, σ)) else (hb_g [hb_in (σ 31 5) 16, hb_in (σ 31 5) 16, hb_in (σ 31 5) 16] (some (none, (hb_up (hb_up (hb_up (hb_up σ 32 (Int32.toNatClampNeg (σ 31 5)) x1) 33 (Int32.toNatClampNeg (σ 31 5)) x2) 34 (Int32.toNatClampNeg (σ 31 5)) x3) 31 5 ((σ 31 5) + (1 : Int32)))))) := by
  refine (hb_blk [(.aload_n 0, 1, 0, 0, 0, 0, 0), (.getfield 28, 3, 6, 5, 0, 0, 0), (.bipush 16, 2, 0, 0, 0, 16, 0)] (pe := 6) (gs := []) (loc' := [.ref 31, .int x1, .int x2, .int x3]) (stk' := [.int 16, .int (σ 31 5)]) (σ' := σ) (by decide +kernel) rfl).trans ?_
  refine hb_br (hb_fe_ok (r := (.if_icmp .ge 43, 3, 49, 0, 0, 0, 0)) (by decide +kernel)) rfl ?_ ?_
  · exact hb_r_vret (hb_fe_ok (r := (.return_, 1, 0, 0, 0, 0, 0)) (by decide +kernel))
  · refine (hb_blk [(.aload_n 0, 1, 0, 0, 0, 0, 0), (.getfield 9, 3, 6, 0, 0, 0, 0), (.aload_n 0, 1, 0, 0, 0, 0, 0), (.getfield 28, 3, 6, 5, 0, 0, 0), (.iload_n 1, 1, 1, 0, 0, 0, 0), (.iastore, 1, 0, 0, 0, 0, 0), (.aload_n 0, 1, 0, 0, 0, 0, 0), (.getfield 15, 3, 6, 1, 0, 0, 0), (.aload_n 0, 1, 0, 0, 0, 0, 0), (.getfield 28, 3, 6, 5, 0, 0, 0), (.iload_n 2, 1, 2, 0, 0, 0, 0), (.iastore, 1, 0, 0, 0, 0, 0), (.aload_n 0, 1, 0, 0, 0, 0, 0), (.getfield 18, 3, 6, 2, 0, 0, 0), (.aload_n 0, 1, 0, 0, 0, 0, 0), (.getfield 28, 3, 6, 5, 0, 0, 0), (.iload_n 3, 1, 3, 0, 0, 0, 0), (.iastore, 1, 0, 0, 0, 0, 0), (.aload_n 0, 1, 0, 0, 0, 0, 0), (.dup, 1, 0, 0, 0, 0, 0), (.getfield 28, 3, 6, 5, 0, 0, 0), (.iconst 1, 1, 0, 0, 0, 1, 0), (.iadd, 1, 0, 0, 0, 0, 0), (.putfield 28, 3, 6, 5, 0, 0, 0)] (pe := 49) (gs := [hb_in (σ 31 5) 16, hb_in (σ 31 5) 16, hb_in (σ 31 5) 16]) (loc' := [.ref 31, .int x1, .int x2, .int x3]) (stk' := []) (σ' := (hb_up (hb_up (hb_up (hb_up σ 32 (Int32.toNatClampNeg (σ 31 5)) x1) 33 (Int32.toNatClampNeg (σ 31 5)) x2) 34 (Int32.toNatClampNeg (σ 31 5)) x3) 31 5 ((σ 31 5) + (1 : Int32)))) (by decide +kernel) rfl).trans ?_
    refine congrArg (hb_g _) ?_
    exact hb_r_vret (hb_fe_ok (r := (.return_, 1, 0, 0, 0, 0, 0)) (by decide +kernel))
set_option maxRecDepth 8000 in
theorem e35_0  (σ : hbM) (x1 : Int32) : hb_run hbSH 35 (0, [.ref 31, .int x1], [], σ) = hb_g [hb_in x1 16] (if ((σ 32 (Int32.toNatClampNeg x1)) = 0) then (some (some (.int 2), σ)) else (if ((σ 32 (Int32.toNatClampNeg x1)) = 1) then (some (some (.int 1), σ)) else (if ((σ 32 (Int32.toNatClampNeg x1)) = 2) then (some (some (.int 3), σ)) else (if ((σ 32 (Int32.toNatClampNeg x1)) = 3) then (some (some (.int 4), σ)) else (if ((σ 32 (Int32.toNatClampNeg x1)) = 4) then (some (some (.int 4), σ)) else (if ((σ 32 (Int32.toNatClampNeg x1)) = 5) then (some (some (.int 5), σ)) else (some (some (.int 4), σ)))))))) := by
  refine (hb_blk [(.aload_n 0, 1, 0, 0, 0, 0, 0), (.getfield 9, 3, 6, 0, 0, 0, 0), (.iload_n 1, 1, 1, 0, 0, 0, 0), (.iaload, 1, 0, 0, 0, 0, 0)] (pe := 6) (gs := [hb_in x1 16]) (loc' := [.ref 31, .int x1]) (stk' := [.int (σ 32 (Int32.toNatClampNeg x1))]) (σ' := σ) (by decide +kernel) rfl).trans ?_
  refine congrArg (hb_g _) ?_
  refine hb_r_sw (hb_fe_ok (r := (.tableswitch 46 0 5 #[38, 40, 42, 46, 46, 44], 38, 0, 0, 0, 0, 0)) (by decide +kernel)) ?_
  refine hb_swc (z := 0) (q := 44) ?_ ?_
  · refine (hb_blk [(.iconst 2, 1, 0, 0, 0, 2, 0)] (pe := 45) (gs := []) (loc' := [.ref 31, .int x1]) (stk' := [.int 2]) (σ' := σ) (by decide +kernel) rfl).trans ?_
    exact hb_r_iret (hb_fe_ok (r := (.ireturn, 1, 0, 0, 0, 0, 0)) (by decide +kernel))
  refine hb_swc (z := 1) (q := 46) ?_ ?_
  · refine (hb_blk [(.iconst 1, 1, 0, 0, 0, 1, 0)] (pe := 47) (gs := []) (loc' := [.ref 31, .int x1]) (stk' := [.int 1]) (σ' := σ) (by decide +kernel) rfl).trans ?_
    exact hb_r_iret (hb_fe_ok (r := (.ireturn, 1, 0, 0, 0, 0, 0)) (by decide +kernel))
  refine hb_swc (z := 2) (q := 48) ?_ ?_
  · refine (hb_blk [(.iconst 3, 1, 0, 0, 0, 3, 0)] (pe := 49) (gs := []) (loc' := [.ref 31, .int x1]) (stk' := [.int 3]) (σ' := σ) (by decide +kernel) rfl).trans ?_
    exact hb_r_iret (hb_fe_ok (r := (.ireturn, 1, 0, 0, 0, 0, 0)) (by decide +kernel))
  refine hb_swc (z := 3) (q := 52) ?_ ?_
  · refine (hb_blk [(.iconst 4, 1, 0, 0, 0, 4, 0)] (pe := 53) (gs := []) (loc' := [.ref 31, .int x1]) (stk' := [.int 4]) (σ' := σ) (by decide +kernel) rfl).trans ?_
    exact hb_r_iret (hb_fe_ok (r := (.ireturn, 1, 0, 0, 0, 0, 0)) (by decide +kernel))
  refine hb_swc (z := 4) (q := 52) ?_ ?_
  · refine (hb_blk [(.iconst 4, 1, 0, 0, 0, 4, 0)] (pe := 53) (gs := []) (loc' := [.ref 31, .int x1]) (stk' := [.int 4]) (σ' := σ) (by decide +kernel) rfl).trans ?_
    exact hb_r_iret (hb_fe_ok (r := (.ireturn, 1, 0, 0, 0, 0, 0)) (by decide +kernel))
  refine hb_swc (z := 5) (q := 50) ?_ ?_
  · refine (hb_blk [(.iconst 5, 1, 0, 0, 0, 5, 0)] (pe := 51) (gs := []) (loc' := [.ref 31, .int x1]) (stk' := [.int 5]) (σ' := σ) (by decide +kernel) rfl).trans ?_
    exact hb_r_iret (hb_fe_ok (r := (.ireturn, 1, 0, 0, 0, 0, 0)) (by decide +kernel))
  refine hb_swd 52 rfl ?_
  refine (hb_blk [(.iconst 4, 1, 0, 0, 0, 4, 0)] (pe := 53) (gs := []) (loc' := [.ref 31, .int x1]) (stk' := [.int 4]) (σ' := σ) (by decide +kernel) rfl).trans ?_
  exact hb_r_iret (hb_fe_ok (r := (.ireturn, 1, 0, 0, 0, 0, 0)) (by decide +kernel))
set_option maxRecDepth 8000 in
theorem e36_0  (σ : hbM) (x1 : Int32) (x2 : Int32) : hb_run hbSH 36 (0, [.ref 31, .int x1, .int x2, .null], [], σ) = hb_ci (hb_ev hbSH 35 [.ref 31, .int x1] σ) (fun y2 σ2 => if (x2 = 0) then (some (some (.int 1), σ2)) else (if (x2 = 1) then (if (y2 = (1 : Int32)) then (some (some (.int 1), σ2)) else (if (¬ y2 = (2 : Int32)) then (some (some (.int 0), σ2)) else (some (some (.int 1), σ2)))) else (if (x2 = 2) then (if (¬ y2 = x2) then (some (some (.int 0), σ2)) else (some (some (.int 1), σ2))) else (if (x2 = 3) then (if (¬ y2 = x2) then (some (some (.int 0), σ2)) else (some (some (.int 1), σ2))) else (if (x2 = 4) then (if (y2 = (4 : Int32)) then (some (some (.int 1), σ2)) else (if (¬ y2 = (5 : Int32)) then (some (some (.int 0), σ2)) else (some (some (.int 1), σ2)))) else (if (¬ y2 = x2) then (some (some (.int 0), σ2)) else (some (some (.int 1), σ2)))))))) := by
  refine (hb_blk [(.aload_n 0, 1, 0, 0, 0, 0, 0), (.iload_n 1, 1, 1, 0, 0, 0, 0)] (pe := 2) (gs := []) (loc' := [.ref 31, .int x1, .int x2, .null]) (stk' := [.int x1, .ref 31]) (σ' := σ) (by decide +kernel) rfl).trans ?_
  refine hb_Vi (hb_fe_ok (r := (.invokevirtual 31, 3, 35, 1, 0, 0, 0)) (by decide +kernel)) (by decide +kernel) (as := [.int x1]) (v := .ref 31) (rest := []) rfl rfl (Nat.le_of_ble_eq_true rfl) (fun y2 σ2 => ?_)
  refine (hb_blk [(.istore_n 3, 1, 3, 0, 0, 0, 0), (.iload_n 2, 1, 2, 0, 0, 0, 0)] (pe := 7) (gs := []) (loc' := [.ref 31, .int x1, .int x2, .int y2]) (stk' := [.int x2]) (σ' := σ2) (by decide +kernel) rfl).trans ?_
  refine hb_r_sw (hb_fe_ok (r := (.tableswitch 67 0 4 #[33, 35, 67, 67, 51], 33, 0, 0, 0, 0, 0)) (by decide +kernel)) ?_
  refine hb_swc (z := 0) (q := 40) ?_ ?_
  · refine (hb_blk [(.iconst 1, 1, 0, 0, 0, 1, 0)] (pe := 41) (gs := []) (loc' := [.ref 31, .int x1, .int x2, .int y2]) (stk' := [.int 1]) (σ' := σ2) (by decide +kernel) rfl).trans ?_
    exact hb_r_zret1 (hb_fe_ok (r := (.ireturn, 1, 0, 0, 1, 0, 0)) (by decide +kernel)) (by decide)
  refine hb_swc (z := 1) (q := 42) ?_ ?_
  · refine (hb_blk [(.iload_n 3, 1, 3, 0, 0, 0, 0), (.iconst 1, 1, 0, 0, 0, 1, 0)] (pe := 44) (gs := []) (loc' := [.ref 31, .int x1, .int x2, .int y2]) (stk' := [.int 1, .int y2]) (σ' := σ2) (by decide +kernel) rfl).trans ?_
    refine hb_br (hb_fe_ok (r := (.if_icmp .eq 8, 3, 52, 0, 0, 0, 0)) (by decide +kernel)) rfl ?_ ?_
    · refine (hb_blk [(.iconst 1, 1, 0, 0, 0, 1, 0)] (pe := 53) (gs := []) (loc' := [.ref 31, .int x1, .int x2, .int y2]) (stk' := [.int 1]) (σ' := σ2) (by decide +kernel) rfl).trans ?_
      refine (hb_r_goto (hb_fe_ok (r := (.goto 4, 3, 57, 0, 0, 0, 0)) (by decide +kernel))).trans ?_
      exact hb_r_zret1 (hb_fe_ok (r := (.ireturn, 1, 0, 0, 1, 0, 0)) (by decide +kernel)) (by decide)
    · refine (hb_blk [(.iload_n 3, 1, 3, 0, 0, 0, 0), (.iconst 2, 1, 0, 0, 0, 2, 0)] (pe := 49) (gs := []) (loc' := [.ref 31, .int x1, .int x2, .int y2]) (stk' := [.int 2, .int y2]) (σ' := σ2) (by decide +kernel) rfl).trans ?_
      refine hb_br (hb_fe_ok (r := (.if_icmp .ne 7, 3, 56, 0, 0, 0, 0)) (by decide +kernel)) rfl ?_ ?_
      · refine (hb_blk [(.iconst 0, 1, 0, 0, 0, 0, 0)] (pe := 57) (gs := []) (loc' := [.ref 31, .int x1, .int x2, .int y2]) (stk' := [.int 0]) (σ' := σ2) (by decide +kernel) rfl).trans ?_
        exact hb_r_zret1 (hb_fe_ok (r := (.ireturn, 1, 0, 0, 1, 0, 0)) (by decide +kernel)) (by decide)
      · refine (hb_blk [(.iconst 1, 1, 0, 0, 0, 1, 0)] (pe := 53) (gs := []) (loc' := [.ref 31, .int x1, .int x2, .int y2]) (stk' := [.int 1]) (σ' := σ2) (by decide +kernel) rfl).trans ?_
        refine (hb_r_goto (hb_fe_ok (r := (.goto 4, 3, 57, 0, 0, 0, 0)) (by decide +kernel))).trans ?_
        exact hb_r_zret1 (hb_fe_ok (r := (.ireturn, 1, 0, 0, 1, 0, 0)) (by decide +kernel)) (by decide)
  refine hb_swc (z := 2) (q := 74) ?_ ?_
  · refine (hb_blk [(.iload_n 3, 1, 3, 0, 0, 0, 0), (.iload_n 2, 1, 2, 0, 0, 0, 0)] (pe := 76) (gs := []) (loc' := [.ref 31, .int x1, .int x2, .int y2]) (stk' := [.int x2, .int y2]) (σ' := σ2) (by decide +kernel) rfl).trans ?_
    refine hb_br (hb_fe_ok (r := (.if_icmp .ne 7, 3, 83, 0, 0, 0, 0)) (by decide +kernel)) rfl ?_ ?_
    · refine (hb_blk [(.iconst 0, 1, 0, 0, 0, 0, 0)] (pe := 84) (gs := []) (loc' := [.ref 31, .int x1, .int x2, .int y2]) (stk' := [.int 0]) (σ' := σ2) (by decide +kernel) rfl).trans ?_
      exact hb_r_zret1 (hb_fe_ok (r := (.ireturn, 1, 0, 0, 1, 0, 0)) (by decide +kernel)) (by decide)
    · refine (hb_blk [(.iconst 1, 1, 0, 0, 0, 1, 0)] (pe := 80) (gs := []) (loc' := [.ref 31, .int x1, .int x2, .int y2]) (stk' := [.int 1]) (σ' := σ2) (by decide +kernel) rfl).trans ?_
      refine (hb_r_goto (hb_fe_ok (r := (.goto 4, 3, 84, 0, 0, 0, 0)) (by decide +kernel))).trans ?_
      exact hb_r_zret1 (hb_fe_ok (r := (.ireturn, 1, 0, 0, 1, 0, 0)) (by decide +kernel)) (by decide)
  refine hb_swc (z := 3) (q := 74) ?_ ?_
  · refine (hb_blk [(.iload_n 3, 1, 3, 0, 0, 0, 0), (.iload_n 2, 1, 2, 0, 0, 0, 0)] (pe := 76) (gs := []) (loc' := [.ref 31, .int x1, .int x2, .int y2]) (stk' := [.int x2, .int y2]) (σ' := σ2) (by decide +kernel) rfl).trans ?_
    refine hb_br (hb_fe_ok (r := (.if_icmp .ne 7, 3, 83, 0, 0, 0, 0)) (by decide +kernel)) rfl ?_ ?_
    · refine (hb_blk [(.iconst 0, 1, 0, 0, 0, 0, 0)] (pe := 84) (gs := []) (loc' := [.ref 31, .int x1, .int x2, .int y2]) (stk' := [.int 0]) (σ' := σ2) (by decide +kernel) rfl).trans ?_
      exact hb_r_zret1 (hb_fe_ok (r := (.ireturn, 1, 0, 0, 1, 0, 0)) (by decide +kernel)) (by decide)
    · refine (hb_blk [(.iconst 1, 1, 0, 0, 0, 1, 0)] (pe := 80) (gs := []) (loc' := [.ref 31, .int x1, .int x2, .int y2]) (stk' := [.int 1]) (σ' := σ2) (by decide +kernel) rfl).trans ?_
      refine (hb_r_goto (hb_fe_ok (r := (.goto 4, 3, 84, 0, 0, 0, 0)) (by decide +kernel))).trans ?_
      exact hb_r_zret1 (hb_fe_ok (r := (.ireturn, 1, 0, 0, 1, 0, 0)) (by decide +kernel)) (by decide)
  refine hb_swc (z := 4) (q := 58) ?_ ?_
  · refine (hb_blk [(.iload_n 3, 1, 3, 0, 0, 0, 0), (.iconst 4, 1, 0, 0, 0, 4, 0)] (pe := 60) (gs := []) (loc' := [.ref 31, .int x1, .int x2, .int y2]) (stk' := [.int 4, .int y2]) (σ' := σ2) (by decide +kernel) rfl).trans ?_
    refine hb_br (hb_fe_ok (r := (.if_icmp .eq 8, 3, 68, 0, 0, 0, 0)) (by decide +kernel)) rfl ?_ ?_
    · refine (hb_blk [(.iconst 1, 1, 0, 0, 0, 1, 0)] (pe := 69) (gs := []) (loc' := [.ref 31, .int x1, .int x2, .int y2]) (stk' := [.int 1]) (σ' := σ2) (by decide +kernel) rfl).trans ?_
      refine (hb_r_goto (hb_fe_ok (r := (.goto 4, 3, 73, 0, 0, 0, 0)) (by decide +kernel))).trans ?_
      exact hb_r_zret1 (hb_fe_ok (r := (.ireturn, 1, 0, 0, 1, 0, 0)) (by decide +kernel)) (by decide)
    · refine (hb_blk [(.iload_n 3, 1, 3, 0, 0, 0, 0), (.iconst 5, 1, 0, 0, 0, 5, 0)] (pe := 65) (gs := []) (loc' := [.ref 31, .int x1, .int x2, .int y2]) (stk' := [.int 5, .int y2]) (σ' := σ2) (by decide +kernel) rfl).trans ?_
      refine hb_br (hb_fe_ok (r := (.if_icmp .ne 7, 3, 72, 0, 0, 0, 0)) (by decide +kernel)) rfl ?_ ?_
      · refine (hb_blk [(.iconst 0, 1, 0, 0, 0, 0, 0)] (pe := 73) (gs := []) (loc' := [.ref 31, .int x1, .int x2, .int y2]) (stk' := [.int 0]) (σ' := σ2) (by decide +kernel) rfl).trans ?_
        exact hb_r_zret1 (hb_fe_ok (r := (.ireturn, 1, 0, 0, 1, 0, 0)) (by decide +kernel)) (by decide)
      · refine (hb_blk [(.iconst 1, 1, 0, 0, 0, 1, 0)] (pe := 69) (gs := []) (loc' := [.ref 31, .int x1, .int x2, .int y2]) (stk' := [.int 1]) (σ' := σ2) (by decide +kernel) rfl).trans ?_
        refine (hb_r_goto (hb_fe_ok (r := (.goto 4, 3, 73, 0, 0, 0, 0)) (by decide +kernel))).trans ?_
        exact hb_r_zret1 (hb_fe_ok (r := (.ireturn, 1, 0, 0, 1, 0, 0)) (by decide +kernel)) (by decide)
  refine hb_swd 74 rfl ?_
  refine (hb_blk [(.iload_n 3, 1, 3, 0, 0, 0, 0), (.iload_n 2, 1, 2, 0, 0, 0, 0)] (pe := 76) (gs := []) (loc' := [.ref 31, .int x1, .int x2, .int y2]) (stk' := [.int x2, .int y2]) (σ' := σ2) (by decide +kernel) rfl).trans ?_
  refine hb_br (hb_fe_ok (r := (.if_icmp .ne 7, 3, 83, 0, 0, 0, 0)) (by decide +kernel)) rfl ?_ ?_
  · refine (hb_blk [(.iconst 0, 1, 0, 0, 0, 0, 0)] (pe := 84) (gs := []) (loc' := [.ref 31, .int x1, .int x2, .int y2]) (stk' := [.int 0]) (σ' := σ2) (by decide +kernel) rfl).trans ?_
    exact hb_r_zret1 (hb_fe_ok (r := (.ireturn, 1, 0, 0, 1, 0, 0)) (by decide +kernel)) (by decide)
  · refine (hb_blk [(.iconst 1, 1, 0, 0, 0, 1, 0)] (pe := 80) (gs := []) (loc' := [.ref 31, .int x1, .int x2, .int y2]) (stk' := [.int 1]) (σ' := σ2) (by decide +kernel) rfl).trans ?_
    refine (hb_r_goto (hb_fe_ok (r := (.goto 4, 3, 84, 0, 0, 0, 0)) (by decide +kernel))).trans ?_
    exact hb_r_zret1 (hb_fe_ok (r := (.ireturn, 1, 0, 0, 1, 0, 0)) (by decide +kernel)) (by decide)
set_option maxRecDepth 8000 in
theorem e37_0  (σ : hbM) (x1 : Int32) : hb_run hbSH 37 (0, [.ref 31, .int x1, .null, .null], [], σ) = hb_run hbSH 37 (4, [.ref 31, .int x1, .int 0, .int 0], [], σ) := by
  refine (hb_blk [(.iconst 0, 1, 0, 0, 0, 0, 0), (.istore_n 2, 1, 2, 0, 0, 0, 0), (.iconst 0, 1, 0, 0, 0, 0, 0), (.istore_n 3, 1, 3, 0, 0, 0, 0)] (pe := 4) (gs := []) (loc' := [.ref 31, .int x1, .int 0, .int 0]) (stk' := []) (σ' := σ) (by decide +kernel) rfl).trans ?_
  exact rfl
set_option maxRecDepth 8000 in
theorem e37_4  (σ : hbM) (x1 : Int32) (x2 : Int32) (x3 : Int32) : hb_run hbSH 37 (4, [.ref 31, .int x1, .int x2, .int x3], [], σ) = if ((σ 31 4) ≤ x3) then (some (some (.int x2), σ)) else (hb_g [hb_in x3 16] (if ((σ 32 (Int32.toNatClampNeg x3)) = (3 : Int32)) then (hb_g [hb_in x3 16] (if (¬ (σ 33 (Int32.toNatClampNeg x3)) = x1) then (hb_run hbSH 37 (4, [.ref 31, .int x1, .int x2, .int (x3 + (1 : Int32))], [], σ)) else (hb_run hbSH 37 (4, [.ref 31, .int x1, .int (x2 + (1 : Int32)), .int (x3 + (1 : Int32))], [], σ)))) else (hb_g [hb_in x3 16] (if (¬ (σ 32 (Int32.toNatClampNeg x3)) = (4 : Int32)) then (hb_run hbSH 37 (4, [.ref 31, .int x1, .int x2, .int (x3 + (1 : Int32))], [], σ)) else (hb_g [hb_in x3 16] (if (¬ (σ 33 (Int32.toNatClampNeg x3)) = x1) then (hb_run hbSH 37 (4, [.ref 31, .int x1, .int x2, .int (x3 + (1 : Int32))], [], σ)) else (hb_run hbSH 37 (4, [.ref 31, .int x1, .int (x2 + (1 : Int32)), .int (x3 + (1 : Int32))], [], σ)))))))) := by
  refine (hb_blk [(.iload_n 3, 1, 3, 0, 0, 0, 0), (.aload_n 0, 1, 0, 0, 0, 0, 0), (.getfield 24, 3, 6, 4, 0, 0, 0)] (pe := 9) (gs := []) (loc' := [.ref 31, .int x1, .int x2, .int x3]) (stk' := [.int (σ 31 4), .int x3]) (σ' := σ) (by decide +kernel) rfl).trans ?_
  refine hb_br (hb_fe_ok (r := (.if_icmp .ge 42, 3, 51, 0, 0, 0, 0)) (by decide +kernel)) rfl ?_ ?_
  · refine (hb_blk [(.iload_n 2, 1, 2, 0, 0, 0, 0)] (pe := 52) (gs := []) (loc' := [.ref 31, .int x1, .int x2, .int x3]) (stk' := [.int x2]) (σ' := σ) (by decide +kernel) rfl).trans ?_
    exact hb_r_iret (hb_fe_ok (r := (.ireturn, 1, 0, 0, 0, 0, 0)) (by decide +kernel))
  · refine (hb_blk [(.aload_n 0, 1, 0, 0, 0, 0, 0), (.getfield 9, 3, 6, 0, 0, 0, 0), (.iload_n 3, 1, 3, 0, 0, 0, 0), (.iaload, 1, 0, 0, 0, 0, 0), (.iconst 3, 1, 0, 0, 0, 3, 0)] (pe := 19) (gs := [hb_in x3 16]) (loc' := [.ref 31, .int x1, .int x2, .int x3]) (stk' := [.int 3, .int (σ 32 (Int32.toNatClampNeg x3))]) (σ' := σ) (by decide +kernel) rfl).trans ?_
    refine congrArg (hb_g _) ?_
    refine hb_br (hb_fe_ok (r := (.if_icmp .eq 13, 3, 32, 0, 0, 0, 0)) (by decide +kernel)) rfl ?_ ?_
    · refine (hb_blk [(.aload_n 0, 1, 0, 0, 0, 0, 0), (.getfield 15, 3, 6, 1, 0, 0, 0), (.iload_n 3, 1, 3, 0, 0, 0, 0), (.iaload, 1, 0, 0, 0, 0, 0), (.iload_n 1, 1, 1, 0, 0, 0, 0)] (pe := 39) (gs := [hb_in x3 16]) (loc' := [.ref 31, .int x1, .int x2, .int x3]) (stk' := [.int x1, .int (σ 33 (Int32.toNatClampNeg x3))]) (σ' := σ) (by decide +kernel) rfl).trans ?_
      refine congrArg (hb_g _) ?_
      refine hb_br (hb_fe_ok (r := (.if_icmp .ne 6, 3, 45, 0, 0, 0, 0)) (by decide +kernel)) rfl ?_ ?_
      · refine (hb_blk [(.iinc 3 1, 3, 3, 0, 0, 1, 0)] (pe := 48) (gs := []) (loc' := [.ref 31, .int x1, .int x2, .int (x3 + (1 : Int32))]) (stk' := []) (σ' := σ) (by decide +kernel) rfl).trans ?_
        refine (hb_r_goto (hb_fe_ok (r := (.goto (-44), 3, 4, 0, 0, 0, 0)) (by decide +kernel))).trans ?_
        exact rfl
      · refine (hb_blk [(.iinc 2 1, 3, 2, 0, 0, 1, 0)] (pe := 45) (gs := []) (loc' := [.ref 31, .int x1, .int (x2 + (1 : Int32)), .int x3]) (stk' := []) (σ' := σ) (by decide +kernel) rfl).trans ?_
        refine (hb_blk [(.iinc 3 1, 3, 3, 0, 0, 1, 0)] (pe := 48) (gs := []) (loc' := [.ref 31, .int x1, .int (x2 + (1 : Int32)), .int (x3 + (1 : Int32))]) (stk' := []) (σ' := σ) (by decide +kernel) rfl).trans ?_
        refine (hb_r_goto (hb_fe_ok (r := (.goto (-44), 3, 4, 0, 0, 0, 0)) (by decide +kernel))).trans ?_
        exact rfl
    · refine (hb_blk [(.aload_n 0, 1, 0, 0, 0, 0, 0), (.getfield 9, 3, 6, 0, 0, 0, 0), (.iload_n 3, 1, 3, 0, 0, 0, 0), (.iaload, 1, 0, 0, 0, 0, 0), (.iconst 4, 1, 0, 0, 0, 4, 0)] (pe := 29) (gs := [hb_in x3 16]) (loc' := [.ref 31, .int x1, .int x2, .int x3]) (stk' := [.int 4, .int (σ 32 (Int32.toNatClampNeg x3))]) (σ' := σ) (by decide +kernel) rfl).trans ?_
      refine congrArg (hb_g _) ?_
      refine hb_br (hb_fe_ok (r := (.if_icmp .ne 16, 3, 45, 0, 0, 0, 0)) (by decide +kernel)) rfl ?_ ?_
      · refine (hb_blk [(.iinc 3 1, 3, 3, 0, 0, 1, 0)] (pe := 48) (gs := []) (loc' := [.ref 31, .int x1, .int x2, .int (x3 + (1 : Int32))]) (stk' := []) (σ' := σ) (by decide +kernel) rfl).trans ?_
        refine (hb_r_goto (hb_fe_ok (r := (.goto (-44), 3, 4, 0, 0, 0, 0)) (by decide +kernel))).trans ?_
        exact rfl
      · refine (hb_blk [(.aload_n 0, 1, 0, 0, 0, 0, 0), (.getfield 15, 3, 6, 1, 0, 0, 0), (.iload_n 3, 1, 3, 0, 0, 0, 0), (.iaload, 1, 0, 0, 0, 0, 0), (.iload_n 1, 1, 1, 0, 0, 0, 0)] (pe := 39) (gs := [hb_in x3 16]) (loc' := [.ref 31, .int x1, .int x2, .int x3]) (stk' := [.int x1, .int (σ 33 (Int32.toNatClampNeg x3))]) (σ' := σ) (by decide +kernel) rfl).trans ?_
        refine congrArg (hb_g _) ?_
        refine hb_br (hb_fe_ok (r := (.if_icmp .ne 6, 3, 45, 0, 0, 0, 0)) (by decide +kernel)) rfl ?_ ?_
        · refine (hb_blk [(.iinc 3 1, 3, 3, 0, 0, 1, 0)] (pe := 48) (gs := []) (loc' := [.ref 31, .int x1, .int x2, .int (x3 + (1 : Int32))]) (stk' := []) (σ' := σ) (by decide +kernel) rfl).trans ?_
          refine (hb_r_goto (hb_fe_ok (r := (.goto (-44), 3, 4, 0, 0, 0, 0)) (by decide +kernel))).trans ?_
          exact rfl
        · refine (hb_blk [(.iinc 2 1, 3, 2, 0, 0, 1, 0)] (pe := 45) (gs := []) (loc' := [.ref 31, .int x1, .int (x2 + (1 : Int32)), .int x3]) (stk' := []) (σ' := σ) (by decide +kernel) rfl).trans ?_
          refine (hb_blk [(.iinc 3 1, 3, 3, 0, 0, 1, 0)] (pe := 48) (gs := []) (loc' := [.ref 31, .int x1, .int (x2 + (1 : Int32)), .int (x3 + (1 : Int32))]) (stk' := []) (σ' := σ) (by decide +kernel) rfl).trans ?_
          refine (hb_r_goto (hb_fe_ok (r := (.goto (-44), 3, 4, 0, 0, 0, 0)) (by decide +kernel))).trans ?_
          exact rfl
set_option maxRecDepth 8000 in
theorem e38_0  (σ : hbM) (x1 : Int32) (x2 : Int32) : hb_run hbSH 38 (0, [.ref 31, .int x1, .int x2], [], σ) = if (¬ x2 = (0 : Int32)) then (hb_ci (hb_ev hbSH 40 [.ref 31, .int x1] (hb_up σ 31 6 0)) (fun y20 σ20 => hb_run hbSH 38 (23, [.ref 31, .int x1, .int x2], [.int y20, .ref 31], σ20))) else (hb_ci (hb_ev hbSH 39 [.ref 31, .int x1] (hb_up σ 31 6 0)) (fun y12 σ12 => hb_run hbSH 38 (23, [.ref 31, .int x1, .int x2], [.int y12, .ref 31], σ12))) := by
  refine (hb_blk [(.aload_n 0, 1, 0, 0, 0, 0, 0), (.iconst 0, 1, 0, 0, 0, 0, 0), (.putfield 35, 3, 6, 6, 0, 0, 0), (.aload_n 0, 1, 0, 0, 0, 0, 0), (.iload_n 2, 1, 2, 0, 0, 0, 0)] (pe := 7) (gs := []) (loc' := [.ref 31, .int x1, .int x2]) (stk' := [.int x2, .ref 31]) (σ' := (hb_up σ 31 6 0)) (by decide +kernel) rfl).trans ?_
  refine hb_br0 (hb_fe_ok (r := (.ifCond .ne 11, 3, 18, 0, 0, 0, 0)) (by decide +kernel)) rfl ?_ ?_
  · refine (hb_blk [(.aload_n 0, 1, 0, 0, 0, 0, 0), (.iload_n 1, 1, 1, 0, 0, 0, 0)] (pe := 20) (gs := []) (loc' := [.ref 31, .int x1, .int x2]) (stk' := [.int x1, .ref 31, .ref 31]) (σ' := (hb_up σ 31 6 0)) (by decide +kernel) rfl).trans ?_
    refine hb_Vi (hb_fe_ok (r := (.invokevirtual 41, 3, 40, 1, 0, 0, 0)) (by decide +kernel)) (by decide +kernel) (as := [.int x1]) (v := .ref 31) (rest := [.ref 31]) rfl rfl (Nat.le_of_ble_eq_true rfl) (fun y20 σ20 => ?_)
    exact rfl
  · refine (hb_blk [(.aload_n 0, 1, 0, 0, 0, 0, 0), (.iload_n 1, 1, 1, 0, 0, 0, 0)] (pe := 12) (gs := []) (loc' := [.ref 31, .int x1, .int x2]) (stk' := [.int x1, .ref 31, .ref 31]) (σ' := (hb_up σ 31 6 0)) (by decide +kernel) rfl).trans ?_
    refine hb_Vi (hb_fe_ok (r := (.invokevirtual 38, 3, 39, 1, 0, 0, 0)) (by decide +kernel)) (by decide +kernel) (as := [.int x1]) (v := .ref 31) (rest := [.ref 31]) rfl rfl (Nat.le_of_ble_eq_true rfl) (fun y12 σ12 => ?_)
    refine (hb_r_goto (hb_fe_ok (r := (.goto 8, 3, 23, 0, 0, 0, 0)) (by decide +kernel))).trans ?_
    exact rfl
set_option maxRecDepth 8000 in
theorem e38_23  (σ : hbM) (x1 : Int32) (x2 : Int32) (s0 : Int32) : hb_run hbSH 38 (23, [.ref 31, .int x1, .int x2], [.int s0, .ref 31], σ) = hb_ci (hb_ev hbSH 41 [.ref 31, .int s0, .int x1, .int 0] σ) (fun y25 σ25 => some (some (.int y25), σ25)) := by
  refine (hb_blk [(.iload_n 1, 1, 1, 0, 0, 0, 0), (.iconst 0, 1, 0, 0, 0, 0, 0)] (pe := 25) (gs := []) (loc' := [.ref 31, .int x1, .int x2]) (stk' := [.int 0, .int x1, .int s0, .ref 31]) (σ' := σ) (by decide +kernel) rfl).trans ?_
  refine hb_Vi (hb_fe_ok (r := (.invokevirtual 44, 3, 41, 3, 0, 0, 0)) (by decide +kernel)) (by decide +kernel) (as := [.int s0, .int x1, .int 0]) (v := .ref 31) (rest := []) rfl rfl (Nat.le_of_ble_eq_true rfl) (fun y25 σ25 => ?_)
  exact hb_r_iret (hb_fe_ok (r := (.ireturn, 1, 0, 0, 0, 0, 0)) (by decide +kernel))
set_option maxRecDepth 8000 in
theorem e39_0  (σ : hbM) (x1 : Int32) : hb_run hbSH 39 (0, [.ref 31, .int x1], [], σ) = hb_ci (hb_ev hbSH 35 [.ref 31, .int x1] σ) (fun y2 σ2 => if (y2 = 1) then (some (some (.int 11), σ2)) else (if (y2 = 2) then (some (some (.int 12), σ2)) else (if (y2 = 3) then (some (some (.int 13), σ2)) else (if (y2 = 4) then (some (some (.int 14), σ2)) else (if (y2 = 5) then (some (some (.int 15), σ2)) else (some (some (.int 10), σ2))))))) := by
  refine (hb_blk [(.aload_n 0, 1, 0, 0, 0, 0, 0), (.iload_n 1, 1, 1, 0, 0, 0, 0)] (pe := 2) (gs := []) (loc' := [.ref 31, .int x1]) (stk' := [.int x1, .ref 31]) (σ' := σ) (by decide +kernel) rfl).trans ?_
  refine hb_Vi (hb_fe_ok (r := (.invokevirtual 31, 3, 35, 1, 0, 0, 0)) (by decide +kernel)) (by decide +kernel) (as := [.int x1]) (v := .ref 31) (rest := []) rfl rfl (Nat.le_of_ble_eq_true rfl) (fun y2 σ2 => ?_)
  refine hb_r_sw (hb_fe_ok (r := (.tableswitch 50 1 5 #[35, 38, 41, 44, 47], 35, 0, 0, 0, 0, 0)) (by decide +kernel)) ?_
  refine hb_swc (z := 1) (q := 40) ?_ ?_
  · refine (hb_blk [(.bipush 11, 2, 0, 0, 0, 11, 0)] (pe := 42) (gs := []) (loc' := [.ref 31, .int x1]) (stk' := [.int 11]) (σ' := σ2) (by decide +kernel) rfl).trans ?_
    exact hb_r_iret (hb_fe_ok (r := (.ireturn, 1, 0, 0, 0, 0, 0)) (by decide +kernel))
  refine hb_swc (z := 2) (q := 43) ?_ ?_
  · refine (hb_blk [(.bipush 12, 2, 0, 0, 0, 12, 0)] (pe := 45) (gs := []) (loc' := [.ref 31, .int x1]) (stk' := [.int 12]) (σ' := σ2) (by decide +kernel) rfl).trans ?_
    exact hb_r_iret (hb_fe_ok (r := (.ireturn, 1, 0, 0, 0, 0, 0)) (by decide +kernel))
  refine hb_swc (z := 3) (q := 46) ?_ ?_
  · refine (hb_blk [(.bipush 13, 2, 0, 0, 0, 13, 0)] (pe := 48) (gs := []) (loc' := [.ref 31, .int x1]) (stk' := [.int 13]) (σ' := σ2) (by decide +kernel) rfl).trans ?_
    exact hb_r_iret (hb_fe_ok (r := (.ireturn, 1, 0, 0, 0, 0, 0)) (by decide +kernel))
  refine hb_swc (z := 4) (q := 49) ?_ ?_
  · refine (hb_blk [(.bipush 14, 2, 0, 0, 0, 14, 0)] (pe := 51) (gs := []) (loc' := [.ref 31, .int x1]) (stk' := [.int 14]) (σ' := σ2) (by decide +kernel) rfl).trans ?_
    exact hb_r_iret (hb_fe_ok (r := (.ireturn, 1, 0, 0, 0, 0, 0)) (by decide +kernel))
  refine hb_swc (z := 5) (q := 52) ?_ ?_
  · refine (hb_blk [(.bipush 15, 2, 0, 0, 0, 15, 0)] (pe := 54) (gs := []) (loc' := [.ref 31, .int x1]) (stk' := [.int 15]) (σ' := σ2) (by decide +kernel) rfl).trans ?_
    exact hb_r_iret (hb_fe_ok (r := (.ireturn, 1, 0, 0, 0, 0, 0)) (by decide +kernel))
  refine hb_swd 55 rfl ?_
  refine (hb_blk [(.bipush 10, 2, 0, 0, 0, 10, 0)] (pe := 57) (gs := []) (loc' := [.ref 31, .int x1]) (stk' := [.int 10]) (σ' := σ2) (by decide +kernel) rfl).trans ?_
  exact hb_r_iret (hb_fe_ok (r := (.ireturn, 1, 0, 0, 0, 0, 0)) (by decide +kernel))
set_option maxRecDepth 8000 in
theorem e40_0  (σ : hbM) (x1 : Int32) : hb_run hbSH 40 (0, [.ref 31, .int x1], [], σ) = hb_ci (hb_ev hbSH 35 [.ref 31, .int x1] σ) (fun y2 σ2 => if (y2 = 1) then (some (some (.int 21), σ2)) else (if (y2 = 2) then (some (some (.int 21), σ2)) else (if (y2 = 3) then (some (some (.int 22), σ2)) else (if (y2 = 4) then (some (some (.int 20), σ2)) else (if (y2 = 5) then (some (some (.int 23), σ2)) else (some (some (.int 20), σ2))))))) := by
  refine (hb_blk [(.aload_n 0, 1, 0, 0, 0, 0, 0), (.iload_n 1, 1, 1, 0, 0, 0, 0)] (pe := 2) (gs := []) (loc' := [.ref 31, .int x1]) (stk' := [.int x1, .ref 31]) (σ' := σ) (by decide +kernel) rfl).trans ?_
  refine hb_Vi (hb_fe_ok (r := (.invokevirtual 31, 3, 35, 1, 0, 0, 0)) (by decide +kernel)) (by decide +kernel) (as := [.int x1]) (v := .ref 31) (rest := []) rfl rfl (Nat.le_of_ble_eq_true rfl) (fun y2 σ2 => ?_)
  refine hb_r_sw (hb_fe_ok (r := (.tableswitch 44 1 5 #[35, 35, 38, 44, 41], 35, 0, 0, 0, 0, 0)) (by decide +kernel)) ?_
  refine hb_swc (z := 1) (q := 40) ?_ ?_
  · refine (hb_blk [(.bipush 21, 2, 0, 0, 0, 21, 0)] (pe := 42) (gs := []) (loc' := [.ref 31, .int x1]) (stk' := [.int 21]) (σ' := σ2) (by decide +kernel) rfl).trans ?_
    exact hb_r_iret (hb_fe_ok (r := (.ireturn, 1, 0, 0, 0, 0, 0)) (by decide +kernel))
  refine hb_swc (z := 2) (q := 40) ?_ ?_
  · refine (hb_blk [(.bipush 21, 2, 0, 0, 0, 21, 0)] (pe := 42) (gs := []) (loc' := [.ref 31, .int x1]) (stk' := [.int 21]) (σ' := σ2) (by decide +kernel) rfl).trans ?_
    exact hb_r_iret (hb_fe_ok (r := (.ireturn, 1, 0, 0, 0, 0, 0)) (by decide +kernel))
  refine hb_swc (z := 3) (q := 43) ?_ ?_
  · refine (hb_blk [(.bipush 22, 2, 0, 0, 0, 22, 0)] (pe := 45) (gs := []) (loc' := [.ref 31, .int x1]) (stk' := [.int 22]) (σ' := σ2) (by decide +kernel) rfl).trans ?_
    exact hb_r_iret (hb_fe_ok (r := (.ireturn, 1, 0, 0, 0, 0, 0)) (by decide +kernel))
  refine hb_swc (z := 4) (q := 49) ?_ ?_
  · refine (hb_blk [(.bipush 20, 2, 0, 0, 0, 20, 0)] (pe := 51) (gs := []) (loc' := [.ref 31, .int x1]) (stk' := [.int 20]) (σ' := σ2) (by decide +kernel) rfl).trans ?_
    exact hb_r_iret (hb_fe_ok (r := (.ireturn, 1, 0, 0, 0, 0, 0)) (by decide +kernel))
  refine hb_swc (z := 5) (q := 46) ?_ ?_
  · refine (hb_blk [(.bipush 23, 2, 0, 0, 0, 23, 0)] (pe := 48) (gs := []) (loc' := [.ref 31, .int x1]) (stk' := [.int 23]) (σ' := σ2) (by decide +kernel) rfl).trans ?_
    exact hb_r_iret (hb_fe_ok (r := (.ireturn, 1, 0, 0, 0, 0, 0)) (by decide +kernel))
  refine hb_swd 49 rfl ?_
  refine (hb_blk [(.bipush 20, 2, 0, 0, 0, 20, 0)] (pe := 51) (gs := []) (loc' := [.ref 31, .int x1]) (stk' := [.int 20]) (σ' := σ2) (by decide +kernel) rfl).trans ?_
  exact hb_r_iret (hb_fe_ok (r := (.ireturn, 1, 0, 0, 0, 0, 0)) (by decide +kernel))
