/-! the constructors that call none: their walks, by gen_new.py -/
theorem hn_oi1 : Cond.instanceMethod Lib.objectInit ∈ hbTB := by decide +kernel
theorem hn_oi2 : Cond.code Lib.objectInit ⟨#[0xb1]⟩ 1 none ∈ hbTB := by decide +kernel
theorem dn2_0 : decode prog_4_method_1_code 0 = .ok (.aload_n 0, 1) := by decide +kernel
theorem dn2_1 : decode prog_4_method_1_code 1 = .ok (.invokespecial 3, 3) := by decide +kernel
theorem dn2_4 : decode prog_4_method_1_code 4 = .ok (.aload_n 0, 1) := by decide +kernel
theorem dn2_5 : decode prog_4_method_1_code 5 = .ok (.bipush 12, 2) := by decide +kernel
theorem dn2_7 : decode prog_4_method_1_code 7 = .ok (.newarray .int, 2) := by decide +kernel
theorem dn2_9 : decode prog_4_method_1_code 9 = .ok (.putfield 9, 3) := by decide +kernel
theorem dn2_12 : decode prog_4_method_1_code 12 = .ok (.aload_n 0, 1) := by decide +kernel
theorem dn2_13 : decode prog_4_method_1_code 13 = .ok (.iconst 4, 1) := by decide +kernel
theorem dn2_14 : decode prog_4_method_1_code 14 = .ok (.newarray .int, 2) := by decide +kernel
theorem dn2_16 : decode prog_4_method_1_code 16 = .ok (.putfield 15, 3) := by decide +kernel
theorem dn2_19 : decode prog_4_method_1_code 19 = .ok (.return_, 1) := by decide +kernel
set_option maxHeartbeats 4000000 in
set_option maxRecDepth 100000 in
theorem c_X2 (l : Launch) (D : va_G) (cI cZ cS : ClassId) (α : Nat → Nat) (ov : Value) (A : Nat → Prop) (h0 : Nat) (wr : va_W) : hn_New l D cI cZ cS α ov A ⟨"HandBook$Lines", "<init>", "()V"⟩ prog_4_method_1_code 1 ({ frames := 2, cells := 2, slots := 16, locals := 100 }) [.ref h0] ((h0, .inr (2, [.null, .null, .int 0, .int 0])) :: wr) (fun w1 => ∃ q1 q2 : Nat, w1 = (q2, .inl (cI, 4, .inl (fun _ => 0))) :: (q1, .inl (cI, 12, .inl (fun _ => 0))) :: (h0, .inr (2, [.ref q1, .ref q2, .int 0, .int 0])) :: wr) 2 16 := by
  refine hn_start 2 (by decide) rfl rfl (Nat.le_of_ble_eq_true rfl) (fun p e s m args below meth c ls C hin hr hlk hl => ?_)
  have hl : lv_has ls 1 [(0, .ref h0)] := hl
  refine hn_ald C dn2_0 rfl (lv_at hl 0 rfl) ?_
  refine hn_obj C (hb_wd_in (i := 127) (by decide +kernel)) hn_oi1 hn_oi2 hl.1 dn2_1 (Nat.le_of_ble_eq_true rfl) (Nat.le_of_ble_eq_true rfl) ?_
  refine hn_ald C dn2_4 rfl (lv_at hl 0 rfl) ?_
  refine hn_bip C (v := 12) dn2_5 (by decide +kernel) ?_
  refine hn_newi C (N := 12) (c' := 1) (s' := 12) dn2_7 (by decide +kernel) (by decide +kernel) (by decide +kernel) rfl rfl ⟨Nat.le_of_ble_eq_true rfl, Nat.le_of_ble_eq_true rfl⟩ (fun q1 => ?_)
  refine hn_putF C hin 1 2 0 (r := (RX2, TX2, 4)) (ty := .array .int) (ws' := (q1, .inl (cI, 12, .inl (fun _ => 0))) :: (h0, .inr (2, [.ref q1, .null, .int 0, .int 0])) :: wr) (by decide +kernel) rfl rfl rfl (by decide +kernel) rfl rfl rfl (Nat.le_of_ble_eq_true rfl) rfl dn2_9 ?_
  refine hn_ald C dn2_12 rfl (lv_at hl 0 rfl) ?_
  refine hn_ico C (v := 4) dn2_13 (by decide +kernel) ?_
  refine hn_newi C (N := 4) (c' := 2) (s' := 16) dn2_14 (by decide +kernel) (by decide +kernel) (by decide +kernel) rfl rfl ⟨Nat.le_of_ble_eq_true rfl, Nat.le_of_ble_eq_true rfl⟩ (fun q2 => ?_)
  refine hn_putF C hin 2 2 1 (r := (RX2, TX2, 4)) (ty := .array .int) (ws' := (q2, .inl (cI, 4, .inl (fun _ => 0))) :: (q1, .inl (cI, 12, .inl (fun _ => 0))) :: (h0, .inr (2, [.ref q1, .ref q2, .int 0, .int 0])) :: wr) (by decide +kernel) rfl rfl rfl (by decide +kernel) rfl rfl rfl (Nat.le_of_ble_eq_true rfl) rfl dn2_16 ?_
  exact hn_ret C hr hlk dn2_19 ⟨q1, q2, rfl⟩
theorem dn6_0 : decode prog_8_method_1_code 0 = .ok (.aload_n 0, 1) := by decide +kernel
theorem dn6_1 : decode prog_8_method_1_code 1 = .ok (.invokespecial 3, 3) := by decide +kernel
theorem dn6_4 : decode prog_8_method_1_code 4 = .ok (.aload_n 0, 1) := by decide +kernel
theorem dn6_5 : decode prog_8_method_1_code 5 = .ok (.bipush 16, 2) := by decide +kernel
theorem dn6_7 : decode prog_8_method_1_code 7 = .ok (.newarray .int, 2) := by decide +kernel
theorem dn6_9 : decode prog_8_method_1_code 9 = .ok (.putfield 9, 3) := by decide +kernel
theorem dn6_12 : decode prog_8_method_1_code 12 = .ok (.aload_n 0, 1) := by decide +kernel
theorem dn6_13 : decode prog_8_method_1_code 13 = .ok (.bipush 16, 2) := by decide +kernel
theorem dn6_15 : decode prog_8_method_1_code 15 = .ok (.newarray .int, 2) := by decide +kernel
theorem dn6_17 : decode prog_8_method_1_code 17 = .ok (.putfield 15, 3) := by decide +kernel
theorem dn6_20 : decode prog_8_method_1_code 20 = .ok (.aload_n 0, 1) := by decide +kernel
theorem dn6_21 : decode prog_8_method_1_code 21 = .ok (.bipush 16, 2) := by decide +kernel
theorem dn6_23 : decode prog_8_method_1_code 23 = .ok (.newarray .int, 2) := by decide +kernel
theorem dn6_25 : decode prog_8_method_1_code 25 = .ok (.putfield 18, 3) := by decide +kernel
theorem dn6_28 : decode prog_8_method_1_code 28 = .ok (.aload_n 0, 1) := by decide +kernel
theorem dn6_29 : decode prog_8_method_1_code 29 = .ok (.bipush 16, 2) := by decide +kernel
theorem dn6_31 : decode prog_8_method_1_code 31 = .ok (.newarray .int, 2) := by decide +kernel
theorem dn6_33 : decode prog_8_method_1_code 33 = .ok (.putfield 21, 3) := by decide +kernel
theorem dn6_36 : decode prog_8_method_1_code 36 = .ok (.return_, 1) := by decide +kernel
set_option maxHeartbeats 4000000 in
set_option maxRecDepth 100000 in
theorem c_X6 (l : Launch) (D : va_G) (cI cZ cS : ClassId) (α : Nat → Nat) (ov : Value) (A : Nat → Prop) (h0 : Nat) (wr : va_W) : hn_New l D cI cZ cS α ov A ⟨"HandBook$Steps", "<init>", "()V"⟩ prog_8_method_1_code 1 ({ frames := 2, cells := 4, slots := 64, locals := 100 }) [.ref h0] ((h0, .inr (6, [.null, .null, .null, .null, .int 0, .int 0, .int 0])) :: wr) (fun w1 => ∃ q1 q2 q3 q4 : Nat, w1 = (q4, .inl (cI, 16, .inl (fun _ => 0))) :: (q3, .inl (cI, 16, .inl (fun _ => 0))) :: (q2, .inl (cI, 16, .inl (fun _ => 0))) :: (q1, .inl (cI, 16, .inl (fun _ => 0))) :: (h0, .inr (6, [.ref q1, .ref q2, .ref q3, .ref q4, .int 0, .int 0, .int 0])) :: wr) 4 64 := by
  refine hn_start 6 (by decide) rfl rfl (Nat.le_of_ble_eq_true rfl) (fun p e s m args below meth c ls C hin hr hlk hl => ?_)
  have hl : lv_has ls 1 [(0, .ref h0)] := hl
  refine hn_ald C dn6_0 rfl (lv_at hl 0 rfl) ?_
  refine hn_obj C (hb_wd_in (i := 231) (by decide +kernel)) hn_oi1 hn_oi2 hl.1 dn6_1 (Nat.le_of_ble_eq_true rfl) (Nat.le_of_ble_eq_true rfl) ?_
  refine hn_ald C dn6_4 rfl (lv_at hl 0 rfl) ?_
  refine hn_bip C (v := 16) dn6_5 (by decide +kernel) ?_
  refine hn_newi C (N := 16) (c' := 1) (s' := 16) dn6_7 (by decide +kernel) (by decide +kernel) (by decide +kernel) rfl rfl ⟨Nat.le_of_ble_eq_true rfl, Nat.le_of_ble_eq_true rfl⟩ (fun q1 => ?_)
  refine hn_putF C hin 1 6 0 (r := (RX6, TX6, 7)) (ty := .array .int) (ws' := (q1, .inl (cI, 16, .inl (fun _ => 0))) :: (h0, .inr (6, [.ref q1, .null, .null, .null, .int 0, .int 0, .int 0])) :: wr) (by decide +kernel) rfl rfl rfl (by decide +kernel) rfl rfl rfl (Nat.le_of_ble_eq_true rfl) rfl dn6_9 ?_
  refine hn_ald C dn6_12 rfl (lv_at hl 0 rfl) ?_
  refine hn_bip C (v := 16) dn6_13 (by decide +kernel) ?_
  refine hn_newi C (N := 16) (c' := 2) (s' := 32) dn6_15 (by decide +kernel) (by decide +kernel) (by decide +kernel) rfl rfl ⟨Nat.le_of_ble_eq_true rfl, Nat.le_of_ble_eq_true rfl⟩ (fun q2 => ?_)
  refine hn_putF C hin 2 6 1 (r := (RX6, TX6, 7)) (ty := .array .int) (ws' := (q2, .inl (cI, 16, .inl (fun _ => 0))) :: (q1, .inl (cI, 16, .inl (fun _ => 0))) :: (h0, .inr (6, [.ref q1, .ref q2, .null, .null, .int 0, .int 0, .int 0])) :: wr) (by decide +kernel) rfl rfl rfl (by decide +kernel) rfl rfl rfl (Nat.le_of_ble_eq_true rfl) rfl dn6_17 ?_
  refine hn_ald C dn6_20 rfl (lv_at hl 0 rfl) ?_
  refine hn_bip C (v := 16) dn6_21 (by decide +kernel) ?_
  refine hn_newi C (N := 16) (c' := 3) (s' := 48) dn6_23 (by decide +kernel) (by decide +kernel) (by decide +kernel) rfl rfl ⟨Nat.le_of_ble_eq_true rfl, Nat.le_of_ble_eq_true rfl⟩ (fun q3 => ?_)
  refine hn_putF C hin 3 6 2 (r := (RX6, TX6, 7)) (ty := .array .int) (ws' := (q3, .inl (cI, 16, .inl (fun _ => 0))) :: (q2, .inl (cI, 16, .inl (fun _ => 0))) :: (q1, .inl (cI, 16, .inl (fun _ => 0))) :: (h0, .inr (6, [.ref q1, .ref q2, .ref q3, .null, .int 0, .int 0, .int 0])) :: wr) (by decide +kernel) rfl rfl rfl (by decide +kernel) rfl rfl rfl (Nat.le_of_ble_eq_true rfl) rfl dn6_25 ?_
  refine hn_ald C dn6_28 rfl (lv_at hl 0 rfl) ?_
  refine hn_bip C (v := 16) dn6_29 (by decide +kernel) ?_
  refine hn_newi C (N := 16) (c' := 4) (s' := 64) dn6_31 (by decide +kernel) (by decide +kernel) (by decide +kernel) rfl rfl ⟨Nat.le_of_ble_eq_true rfl, Nat.le_of_ble_eq_true rfl⟩ (fun q4 => ?_)
  refine hn_putF C hin 4 6 3 (r := (RX6, TX6, 7)) (ty := .array .int) (ws' := (q4, .inl (cI, 16, .inl (fun _ => 0))) :: (q3, .inl (cI, 16, .inl (fun _ => 0))) :: (q2, .inl (cI, 16, .inl (fun _ => 0))) :: (q1, .inl (cI, 16, .inl (fun _ => 0))) :: (h0, .inr (6, [.ref q1, .ref q2, .ref q3, .ref q4, .int 0, .int 0, .int 0])) :: wr) (by decide +kernel) rfl rfl rfl (by decide +kernel) rfl rfl rfl (Nat.le_of_ble_eq_true rfl) rfl dn6_33 ?_
  exact hn_ret C hr hlk dn6_36 ⟨q1, q2, q3, q4, rfl⟩
theorem dn7_0 : decode prog_9_method_1_code 0 = .ok (.aload_n 0, 1) := by decide +kernel
theorem dn7_1 : decode prog_9_method_1_code 1 = .ok (.invokespecial 3, 3) := by decide +kernel
theorem dn7_4 : decode prog_9_method_1_code 4 = .ok (.aload_n 0, 1) := by decide +kernel
theorem dn7_5 : decode prog_9_method_1_code 5 = .ok (.sipush 400, 3) := by decide +kernel
theorem dn7_8 : decode prog_9_method_1_code 8 = .ok (.newarray .int, 2) := by decide +kernel
theorem dn7_10 : decode prog_9_method_1_code 10 = .ok (.putfield 9, 3) := by decide +kernel
theorem dn7_13 : decode prog_9_method_1_code 13 = .ok (.aload_n 0, 1) := by decide +kernel
theorem dn7_14 : decode prog_9_method_1_code 14 = .ok (.sipush 401, 3) := by decide +kernel
theorem dn7_17 : decode prog_9_method_1_code 17 = .ok (.newarray .int, 2) := by decide +kernel
theorem dn7_19 : decode prog_9_method_1_code 19 = .ok (.putfield 15, 3) := by decide +kernel
theorem dn7_22 : decode prog_9_method_1_code 22 = .ok (.aload_n 0, 1) := by decide +kernel
theorem dn7_23 : decode prog_9_method_1_code 23 = .ok (.sipush 401, 3) := by decide +kernel
theorem dn7_26 : decode prog_9_method_1_code 26 = .ok (.newarray .int, 2) := by decide +kernel
theorem dn7_28 : decode prog_9_method_1_code 28 = .ok (.putfield 18, 3) := by decide +kernel
theorem dn7_31 : decode prog_9_method_1_code 31 = .ok (.return_, 1) := by decide +kernel
set_option maxHeartbeats 4000000 in
set_option maxRecDepth 100000 in
theorem c_X7 (l : Launch) (D : va_G) (cI cZ cS : ClassId) (α : Nat → Nat) (ov : Value) (A : Nat → Prop) (h0 : Nat) (wr : va_W) : hn_New l D cI cZ cS α ov A ⟨"HandBook$Tape", "<init>", "()V"⟩ prog_9_method_1_code 1 ({ frames := 2, cells := 3, slots := 1202, locals := 100 }) [.ref h0] ((h0, .inr (7, [.null, .null, .null, .int 0])) :: wr) (fun w1 => ∃ q1 q2 q3 : Nat, w1 = (q3, .inl (cI, 401, .inl (fun _ => 0))) :: (q2, .inl (cI, 401, .inl (fun _ => 0))) :: (q1, .inl (cI, 400, .inl (fun _ => 0))) :: (h0, .inr (7, [.ref q1, .ref q2, .ref q3, .int 0])) :: wr) 3 1202 := by
  refine hn_start 7 (by decide) rfl rfl (Nat.le_of_ble_eq_true rfl) (fun p e s m args below meth c ls C hin hr hlk hl => ?_)
  have hl : lv_has ls 1 [(0, .ref h0)] := hl
  refine hn_ald C dn7_0 rfl (lv_at hl 0 rfl) ?_
  refine hn_obj C (hb_wd_in (i := 293) (by decide +kernel)) hn_oi1 hn_oi2 hl.1 dn7_1 (Nat.le_of_ble_eq_true rfl) (Nat.le_of_ble_eq_true rfl) ?_
  refine hn_ald C dn7_4 rfl (lv_at hl 0 rfl) ?_
  refine hn_sip C (v := 400) dn7_5 (by decide +kernel) ?_
  refine hn_newi C (N := 400) (c' := 1) (s' := 400) dn7_8 (by decide +kernel) (by decide +kernel) (by decide +kernel) rfl rfl ⟨Nat.le_of_ble_eq_true rfl, Nat.le_of_ble_eq_true rfl⟩ (fun q1 => ?_)
  refine hn_putF C hin 1 7 0 (r := (RX7, TX7, 4)) (ty := .array .int) (ws' := (q1, .inl (cI, 400, .inl (fun _ => 0))) :: (h0, .inr (7, [.ref q1, .null, .null, .int 0])) :: wr) (by decide +kernel) rfl rfl rfl (by decide +kernel) rfl rfl rfl (Nat.le_of_ble_eq_true rfl) rfl dn7_10 ?_
  refine hn_ald C dn7_13 rfl (lv_at hl 0 rfl) ?_
  refine hn_sip C (v := 401) dn7_14 (by decide +kernel) ?_
  refine hn_newi C (N := 401) (c' := 2) (s' := 801) dn7_17 (by decide +kernel) (by decide +kernel) (by decide +kernel) rfl rfl ⟨Nat.le_of_ble_eq_true rfl, Nat.le_of_ble_eq_true rfl⟩ (fun q2 => ?_)
  refine hn_putF C hin 2 7 1 (r := (RX7, TX7, 4)) (ty := .array .int) (ws' := (q2, .inl (cI, 401, .inl (fun _ => 0))) :: (q1, .inl (cI, 400, .inl (fun _ => 0))) :: (h0, .inr (7, [.ref q1, .ref q2, .null, .int 0])) :: wr) (by decide +kernel) rfl rfl rfl (by decide +kernel) rfl rfl rfl (Nat.le_of_ble_eq_true rfl) rfl dn7_19 ?_
  refine hn_ald C dn7_22 rfl (lv_at hl 0 rfl) ?_
  refine hn_sip C (v := 401) dn7_23 (by decide +kernel) ?_
  refine hn_newi C (N := 401) (c' := 3) (s' := 1202) dn7_26 (by decide +kernel) (by decide +kernel) (by decide +kernel) rfl rfl ⟨Nat.le_of_ble_eq_true rfl, Nat.le_of_ble_eq_true rfl⟩ (fun q3 => ?_)
  refine hn_putF C hin 3 7 2 (r := (RX7, TX7, 4)) (ty := .array .int) (ws' := (q3, .inl (cI, 401, .inl (fun _ => 0))) :: (q2, .inl (cI, 401, .inl (fun _ => 0))) :: (q1, .inl (cI, 400, .inl (fun _ => 0))) :: (h0, .inr (7, [.ref q1, .ref q2, .ref q3, .int 0])) :: wr) (by decide +kernel) rfl rfl rfl (by decide +kernel) rfl rfl rfl (Nat.le_of_ble_eq_true rfl) rfl dn7_28 ?_
  exact hn_ret C hr hlk dn7_31 ⟨q1, q2, q3, rfl⟩
theorem dn5_0 : decode prog_7_method_1_code 0 = .ok (.aload_n 0, 1) := by decide +kernel
theorem dn5_1 : decode prog_7_method_1_code 1 = .ok (.invokespecial 3, 3) := by decide +kernel
theorem dn5_4 : decode prog_7_method_1_code 4 = .ok (.aload_n 0, 1) := by decide +kernel
theorem dn5_5 : decode prog_7_method_1_code 5 = .ok (.bipush 40, 2) := by decide +kernel
theorem dn5_7 : decode prog_7_method_1_code 7 = .ok (.newarray .int, 2) := by decide +kernel
theorem dn5_9 : decode prog_7_method_1_code 9 = .ok (.putfield 9, 3) := by decide +kernel
theorem dn5_12 : decode prog_7_method_1_code 12 = .ok (.return_, 1) := by decide +kernel
set_option maxHeartbeats 4000000 in
set_option maxRecDepth 100000 in
theorem c_X5 (l : Launch) (D : va_G) (cI cZ cS : ClassId) (α : Nat → Nat) (ov : Value) (A : Nat → Prop) (h0 : Nat) (wr : va_W) : hn_New l D cI cZ cS α ov A ⟨"HandBook$Sheet", "<init>", "()V"⟩ prog_7_method_1_code 1 ({ frames := 2, cells := 1, slots := 40, locals := 100 }) [.ref h0] ((h0, .inr (5, [.null, .int 0, .int 0, .int 0])) :: wr) (fun w1 => ∃ q1 : Nat, w1 = (q1, .inl (cI, 40, .inl (fun _ => 0))) :: (h0, .inr (5, [.ref q1, .int 0, .int 0, .int 0])) :: wr) 1 40 := by
  refine hn_start 5 (by decide) rfl rfl (Nat.le_of_ble_eq_true rfl) (fun p e s m args below meth c ls C hin hr hlk hl => ?_)
  have hl : lv_has ls 1 [(0, .ref h0)] := hl
  refine hn_ald C dn5_0 rfl (lv_at hl 0 rfl) ?_
  refine hn_obj C (hb_wd_in (i := 345) (by decide +kernel)) hn_oi1 hn_oi2 hl.1 dn5_1 (Nat.le_of_ble_eq_true rfl) (Nat.le_of_ble_eq_true rfl) ?_
  refine hn_ald C dn5_4 rfl (lv_at hl 0 rfl) ?_
  refine hn_bip C (v := 40) dn5_5 (by decide +kernel) ?_
  refine hn_newi C (N := 40) (c' := 1) (s' := 40) dn5_7 (by decide +kernel) (by decide +kernel) (by decide +kernel) rfl rfl ⟨Nat.le_of_ble_eq_true rfl, Nat.le_of_ble_eq_true rfl⟩ (fun q1 => ?_)
  refine hn_putF C hin 1 5 0 (r := (RX5, TX5, 4)) (ty := .array .int) (ws' := (q1, .inl (cI, 40, .inl (fun _ => 0))) :: (h0, .inr (5, [.ref q1, .int 0, .int 0, .int 0])) :: wr) (by decide +kernel) rfl rfl rfl (by decide +kernel) rfl rfl rfl (Nat.le_of_ble_eq_true rfl) rfl dn5_9 ?_
  exact hn_ret C hr hlk dn5_12 ⟨q1, rfl⟩
theorem dn4_0 : decode prog_6_method_1_code 0 = .ok (.aload_n 0, 1) := by decide +kernel
theorem dn4_1 : decode prog_6_method_1_code 1 = .ok (.invokespecial 3, 3) := by decide +kernel
theorem dn4_4 : decode prog_6_method_1_code 4 = .ok (.aload_n 0, 1) := by decide +kernel
theorem dn4_5 : decode prog_6_method_1_code 5 = .ok (.sipush 17408, 3) := by decide +kernel
theorem dn4_8 : decode prog_6_method_1_code 8 = .ok (.newarray .int, 2) := by decide +kernel
theorem dn4_10 : decode prog_6_method_1_code 10 = .ok (.putfield 9, 3) := by decide +kernel
theorem dn4_13 : decode prog_6_method_1_code 13 = .ok (.aload_n 0, 1) := by decide +kernel
theorem dn4_14 : decode prog_6_method_1_code 14 = .ok (.sipush 17408, 3) := by decide +kernel
theorem dn4_17 : decode prog_6_method_1_code 17 = .ok (.newarray .int, 2) := by decide +kernel
theorem dn4_19 : decode prog_6_method_1_code 19 = .ok (.putfield 15, 3) := by decide +kernel
theorem dn4_22 : decode prog_6_method_1_code 22 = .ok (.aload_n 0, 1) := by decide +kernel
theorem dn4_23 : decode prog_6_method_1_code 23 = .ok (.sipush 17408, 3) := by decide +kernel
theorem dn4_26 : decode prog_6_method_1_code 26 = .ok (.newarray .int, 2) := by decide +kernel
theorem dn4_28 : decode prog_6_method_1_code 28 = .ok (.putfield 18, 3) := by decide +kernel
theorem dn4_31 : decode prog_6_method_1_code 31 = .ok (.aload_n 0, 1) := by decide +kernel
theorem dn4_32 : decode prog_6_method_1_code 32 = .ok (.sipush 17408, 3) := by decide +kernel
theorem dn4_35 : decode prog_6_method_1_code 35 = .ok (.newarray .int, 2) := by decide +kernel
theorem dn4_37 : decode prog_6_method_1_code 37 = .ok (.putfield 21, 3) := by decide +kernel
theorem dn4_40 : decode prog_6_method_1_code 40 = .ok (.return_, 1) := by decide +kernel
set_option maxHeartbeats 4000000 in
set_option maxRecDepth 100000 in
theorem c_X4 (l : Launch) (D : va_G) (cI cZ cS : ClassId) (α : Nat → Nat) (ov : Value) (A : Nat → Prop) (h0 : Nat) (wr : va_W) : hn_New l D cI cZ cS α ov A ⟨"HandBook$Rows", "<init>", "()V"⟩ prog_6_method_1_code 1 ({ frames := 2, cells := 4, slots := 69632, locals := 100 }) [.ref h0] ((h0, .inr (4, [.null, .null, .null, .null, .int 0])) :: wr) (fun w1 => ∃ q1 q2 q3 q4 : Nat, w1 = (q4, .inl (cI, 17408, .inl (fun _ => 0))) :: (q3, .inl (cI, 17408, .inl (fun _ => 0))) :: (q2, .inl (cI, 17408, .inl (fun _ => 0))) :: (q1, .inl (cI, 17408, .inl (fun _ => 0))) :: (h0, .inr (4, [.ref q1, .ref q2, .ref q3, .ref q4, .int 0])) :: wr) 4 69632 := by
  refine hn_start 4 (by decide) rfl rfl (Nat.le_of_ble_eq_true rfl) (fun p e s m args below meth c ls C hin hr hlk hl => ?_)
  have hl : lv_has ls 1 [(0, .ref h0)] := hl
  refine hn_ald C dn4_0 rfl (lv_at hl 0 rfl) ?_
  refine hn_obj C (hb_wd_in (i := 368) (by decide +kernel)) hn_oi1 hn_oi2 hl.1 dn4_1 (Nat.le_of_ble_eq_true rfl) (Nat.le_of_ble_eq_true rfl) ?_
  refine hn_ald C dn4_4 rfl (lv_at hl 0 rfl) ?_
  refine hn_sip C (v := 17408) dn4_5 (by decide +kernel) ?_
  refine hn_newi C (N := 17408) (c' := 1) (s' := 17408) dn4_8 (by decide +kernel) (by decide +kernel) (by decide +kernel) rfl rfl ⟨Nat.le_of_ble_eq_true rfl, Nat.le_of_ble_eq_true rfl⟩ (fun q1 => ?_)
  refine hn_putF C hin 1 4 0 (r := (RX4, TX4, 5)) (ty := .array .int) (ws' := (q1, .inl (cI, 17408, .inl (fun _ => 0))) :: (h0, .inr (4, [.ref q1, .null, .null, .null, .int 0])) :: wr) (by decide +kernel) rfl rfl rfl (by decide +kernel) rfl rfl rfl (Nat.le_of_ble_eq_true rfl) rfl dn4_10 ?_
  refine hn_ald C dn4_13 rfl (lv_at hl 0 rfl) ?_
  refine hn_sip C (v := 17408) dn4_14 (by decide +kernel) ?_
  refine hn_newi C (N := 17408) (c' := 2) (s' := 34816) dn4_17 (by decide +kernel) (by decide +kernel) (by decide +kernel) rfl rfl ⟨Nat.le_of_ble_eq_true rfl, Nat.le_of_ble_eq_true rfl⟩ (fun q2 => ?_)
  refine hn_putF C hin 2 4 1 (r := (RX4, TX4, 5)) (ty := .array .int) (ws' := (q2, .inl (cI, 17408, .inl (fun _ => 0))) :: (q1, .inl (cI, 17408, .inl (fun _ => 0))) :: (h0, .inr (4, [.ref q1, .ref q2, .null, .null, .int 0])) :: wr) (by decide +kernel) rfl rfl rfl (by decide +kernel) rfl rfl rfl (Nat.le_of_ble_eq_true rfl) rfl dn4_19 ?_
  refine hn_ald C dn4_22 rfl (lv_at hl 0 rfl) ?_
  refine hn_sip C (v := 17408) dn4_23 (by decide +kernel) ?_
  refine hn_newi C (N := 17408) (c' := 3) (s' := 52224) dn4_26 (by decide +kernel) (by decide +kernel) (by decide +kernel) rfl rfl ⟨Nat.le_of_ble_eq_true rfl, Nat.le_of_ble_eq_true rfl⟩ (fun q3 => ?_)
  refine hn_putF C hin 3 4 2 (r := (RX4, TX4, 5)) (ty := .array .int) (ws' := (q3, .inl (cI, 17408, .inl (fun _ => 0))) :: (q2, .inl (cI, 17408, .inl (fun _ => 0))) :: (q1, .inl (cI, 17408, .inl (fun _ => 0))) :: (h0, .inr (4, [.ref q1, .ref q2, .ref q3, .null, .int 0])) :: wr) (by decide +kernel) rfl rfl rfl (by decide +kernel) rfl rfl rfl (Nat.le_of_ble_eq_true rfl) rfl dn4_28 ?_
  refine hn_ald C dn4_31 rfl (lv_at hl 0 rfl) ?_
  refine hn_sip C (v := 17408) dn4_32 (by decide +kernel) ?_
  refine hn_newi C (N := 17408) (c' := 4) (s' := 69632) dn4_35 (by decide +kernel) (by decide +kernel) (by decide +kernel) rfl rfl ⟨Nat.le_of_ble_eq_true rfl, Nat.le_of_ble_eq_true rfl⟩ (fun q4 => ?_)
  refine hn_putF C hin 4 4 3 (r := (RX4, TX4, 5)) (ty := .array .int) (ws' := (q4, .inl (cI, 17408, .inl (fun _ => 0))) :: (q3, .inl (cI, 17408, .inl (fun _ => 0))) :: (q2, .inl (cI, 17408, .inl (fun _ => 0))) :: (q1, .inl (cI, 17408, .inl (fun _ => 0))) :: (h0, .inr (4, [.ref q1, .ref q2, .ref q3, .ref q4, .int 0])) :: wr) (by decide +kernel) rfl rfl rfl (by decide +kernel) rfl rfl rfl (Nat.le_of_ble_eq_true rfl) rfl dn4_37 ?_
  exact hn_ret C hr hlk dn4_40 ⟨q1, q2, q3, q4, rfl⟩
theorem dn1_0 : decode prog_3_method_1_code 0 = .ok (.aload_n 0, 1) := by decide +kernel
theorem dn1_1 : decode prog_3_method_1_code 1 = .ok (.invokespecial 3, 3) := by decide +kernel
theorem dn1_4 : decode prog_3_method_1_code 4 = .ok (.aload_n 0, 1) := by decide +kernel
theorem dn1_5 : decode prog_3_method_1_code 5 = .ok (.iconst 4, 1) := by decide +kernel
theorem dn1_6 : decode prog_3_method_1_code 6 = .ok (.newarray .int, 2) := by decide +kernel
theorem dn1_8 : decode prog_3_method_1_code 8 = .ok (.dup, 1) := by decide +kernel
theorem dn1_9 : decode prog_3_method_1_code 9 = .ok (.iconst 0, 1) := by decide +kernel
theorem dn1_10 : decode prog_3_method_1_code 10 = .ok (.ldc 9, 2) := by decide +kernel
theorem dn1_12 : decode prog_3_method_1_code 12 = .ok (.iastore, 1) := by decide +kernel
theorem dn1_13 : decode prog_3_method_1_code 13 = .ok (.dup, 1) := by decide +kernel
theorem dn1_14 : decode prog_3_method_1_code 14 = .ok (.iconst 1, 1) := by decide +kernel
theorem dn1_15 : decode prog_3_method_1_code 15 = .ok (.ldc 9, 2) := by decide +kernel
theorem dn1_17 : decode prog_3_method_1_code 17 = .ok (.iastore, 1) := by decide +kernel
theorem dn1_18 : decode prog_3_method_1_code 18 = .ok (.dup, 1) := by decide +kernel
theorem dn1_19 : decode prog_3_method_1_code 19 = .ok (.iconst 2, 1) := by decide +kernel
theorem dn1_20 : decode prog_3_method_1_code 20 = .ok (.ldc 9, 2) := by decide +kernel
theorem dn1_22 : decode prog_3_method_1_code 22 = .ok (.iastore, 1) := by decide +kernel
theorem dn1_23 : decode prog_3_method_1_code 23 = .ok (.dup, 1) := by decide +kernel
theorem dn1_24 : decode prog_3_method_1_code 24 = .ok (.iconst 3, 1) := by decide +kernel
theorem dn1_25 : decode prog_3_method_1_code 25 = .ok (.ldc 9, 2) := by decide +kernel
theorem dn1_27 : decode prog_3_method_1_code 27 = .ok (.iastore, 1) := by decide +kernel
theorem dn1_28 : decode prog_3_method_1_code 28 = .ok (.putfield 10, 3) := by decide +kernel
theorem dn1_31 : decode prog_3_method_1_code 31 = .ok (.aload_n 0, 1) := by decide +kernel
theorem dn1_32 : decode prog_3_method_1_code 32 = .ok (.iconst 4, 1) := by decide +kernel
theorem dn1_33 : decode prog_3_method_1_code 33 = .ok (.newarray .int, 2) := by decide +kernel
theorem dn1_35 : decode prog_3_method_1_code 35 = .ok (.dup, 1) := by decide +kernel
theorem dn1_36 : decode prog_3_method_1_code 36 = .ok (.iconst 0, 1) := by decide +kernel
theorem dn1_37 : decode prog_3_method_1_code 37 = .ok (.iconst 1, 1) := by decide +kernel
theorem dn1_38 : decode prog_3_method_1_code 38 = .ok (.iastore, 1) := by decide +kernel
theorem dn1_39 : decode prog_3_method_1_code 39 = .ok (.dup, 1) := by decide +kernel
theorem dn1_40 : decode prog_3_method_1_code 40 = .ok (.iconst 1, 1) := by decide +kernel
theorem dn1_41 : decode prog_3_method_1_code 41 = .ok (.iconst 2, 1) := by decide +kernel
theorem dn1_42 : decode prog_3_method_1_code 42 = .ok (.iastore, 1) := by decide +kernel
theorem dn1_43 : decode prog_3_method_1_code 43 = .ok (.dup, 1) := by decide +kernel
theorem dn1_44 : decode prog_3_method_1_code 44 = .ok (.iconst 2, 1) := by decide +kernel
theorem dn1_45 : decode prog_3_method_1_code 45 = .ok (.iconst 3, 1) := by decide +kernel
theorem dn1_46 : decode prog_3_method_1_code 46 = .ok (.iastore, 1) := by decide +kernel
theorem dn1_47 : decode prog_3_method_1_code 47 = .ok (.dup, 1) := by decide +kernel
theorem dn1_48 : decode prog_3_method_1_code 48 = .ok (.iconst 3, 1) := by decide +kernel
theorem dn1_49 : decode prog_3_method_1_code 49 = .ok (.iconst 4, 1) := by decide +kernel
theorem dn1_50 : decode prog_3_method_1_code 50 = .ok (.iastore, 1) := by decide +kernel
theorem dn1_51 : decode prog_3_method_1_code 51 = .ok (.putfield 16, 3) := by decide +kernel
theorem dn1_54 : decode prog_3_method_1_code 54 = .ok (.aload_n 0, 1) := by decide +kernel
theorem dn1_55 : decode prog_3_method_1_code 55 = .ok (.aload_n 1, 1) := by decide +kernel
theorem dn1_56 : decode prog_3_method_1_code 56 = .ok (.putfield 19, 3) := by decide +kernel
theorem dn1_59 : decode prog_3_method_1_code 59 = .ok (.aload_n 0, 1) := by decide +kernel
theorem dn1_60 : decode prog_3_method_1_code 60 = .ok (.aload_n 2, 1) := by decide +kernel
theorem dn1_61 : decode prog_3_method_1_code 61 = .ok (.putfield 23, 3) := by decide +kernel
theorem dn1_64 : decode prog_3_method_1_code 64 = .ok (.return_, 1) := by decide +kernel
set_option maxHeartbeats 4000000 in
set_option maxRecDepth 100000 in
theorem c_X1 (l : Launch) (D : va_G) (cI cZ cS : ClassId) (α : Nat → Nat) (ov : Value) (A : Nat → Prop) (h0 ha hc : Nat) (wr : va_W) : hn_New l D cI cZ cS α ov A ⟨"HandBook$Hands", "<init>", "(LHandBook$Works;LHandBook$Steps;)V"⟩ prog_3_method_1_code 3 ({ frames := 2, cells := 2, slots := 8, locals := 100 }) [.ref h0, .ref ha, .ref hc] ((h0, .inr (1, [.null, .null, .null, .null])) :: wr) (fun w1 => ∃ q1 q2 : Nat, w1 = (q2, .inl (cI, 4, .inl (upd (upd (upd (upd (fun _ => 0) (0 : Int32).toNatClampNeg 1) (1 : Int32).toNatClampNeg 2) (2 : Int32).toNatClampNeg 3) (3 : Int32).toNatClampNeg 4))) :: (q1, .inl (cI, 4, .inl (upd (upd (upd (upd (fun _ => 0) (0 : Int32).toNatClampNeg (-1000000)) (1 : Int32).toNatClampNeg (-1000000)) (2 : Int32).toNatClampNeg (-1000000)) (3 : Int32).toNatClampNeg (-1000000)))) :: (h0, .inr (1, [.ref ha, .ref hc, .ref q1, .ref q2])) :: wr) 2 8 := by
  refine hn_start 1 (by decide) rfl rfl (Nat.le_of_ble_eq_true rfl) (fun p e s m args below meth c ls C hin hr hlk hl => ?_)
  have hl : lv_has ls 3 [(0, .ref h0), (1, .ref ha), (2, .ref hc)] := hl
  refine hn_ald C dn1_0 rfl (lv_at hl 0 rfl) ?_
  refine hn_obj C (hb_wd_in (i := 267) (by decide +kernel)) hn_oi1 hn_oi2 hl.1 dn1_1 (Nat.le_of_ble_eq_true rfl) (Nat.le_of_ble_eq_true rfl) ?_
  refine hn_ald C dn1_4 rfl (lv_at hl 0 rfl) ?_
  refine hn_ico C (v := 4) dn1_5 (by decide +kernel) ?_
  refine hn_newi C (N := 4) (c' := 1) (s' := 4) dn1_6 (by decide +kernel) (by decide +kernel) (by decide +kernel) rfl rfl ⟨Nat.le_of_ble_eq_true rfl, Nat.le_of_ble_eq_true rfl⟩ (fun q1 => ?_)
  refine hn_dup C dn1_8 ?_
  refine hn_ico C (v := 0) dn1_9 (by decide +kernel) ?_
  refine hn_ldc C (v := (-1000000)) (hb_wd_in (i := 268) (by decide +kernel)) dn1_10 ?_
  refine hn_ias C 0 (ws' := (q1, .inl (cI, 4, .inl (upd (fun _ => 0) (0 : Int32).toNatClampNeg (-1000000)))) :: (h0, .inr (1, [.null, .null, .null, .null])) :: wr) rfl (by unfold vp_in; decide +kernel) rfl dn1_12 ?_
  refine hn_dup C dn1_13 ?_
  refine hn_ico C (v := 1) dn1_14 (by decide +kernel) ?_
  refine hn_ldc C (v := (-1000000)) (hb_wd_in (i := 268) (by decide +kernel)) dn1_15 ?_
  refine hn_ias C 0 (ws' := (q1, .inl (cI, 4, .inl (upd (upd (fun _ => 0) (0 : Int32).toNatClampNeg (-1000000)) (1 : Int32).toNatClampNeg (-1000000)))) :: (h0, .inr (1, [.null, .null, .null, .null])) :: wr) rfl (by unfold vp_in; decide +kernel) rfl dn1_17 ?_
  refine hn_dup C dn1_18 ?_
  refine hn_ico C (v := 2) dn1_19 (by decide +kernel) ?_
  refine hn_ldc C (v := (-1000000)) (hb_wd_in (i := 268) (by decide +kernel)) dn1_20 ?_
  refine hn_ias C 0 (ws' := (q1, .inl (cI, 4, .inl (upd (upd (upd (fun _ => 0) (0 : Int32).toNatClampNeg (-1000000)) (1 : Int32).toNatClampNeg (-1000000)) (2 : Int32).toNatClampNeg (-1000000)))) :: (h0, .inr (1, [.null, .null, .null, .null])) :: wr) rfl (by unfold vp_in; decide +kernel) rfl dn1_22 ?_
  refine hn_dup C dn1_23 ?_
  refine hn_ico C (v := 3) dn1_24 (by decide +kernel) ?_
  refine hn_ldc C (v := (-1000000)) (hb_wd_in (i := 268) (by decide +kernel)) dn1_25 ?_
  refine hn_ias C 0 (ws' := (q1, .inl (cI, 4, .inl (upd (upd (upd (upd (fun _ => 0) (0 : Int32).toNatClampNeg (-1000000)) (1 : Int32).toNatClampNeg (-1000000)) (2 : Int32).toNatClampNeg (-1000000)) (3 : Int32).toNatClampNeg (-1000000)))) :: (h0, .inr (1, [.null, .null, .null, .null])) :: wr) rfl (by unfold vp_in; decide +kernel) rfl dn1_27 ?_
  refine hn_putF C hin 1 1 2 (r := (RX1, TX1, 4)) (ty := .array .int) (ws' := (q1, .inl (cI, 4, .inl (upd (upd (upd (upd (fun _ => 0) (0 : Int32).toNatClampNeg (-1000000)) (1 : Int32).toNatClampNeg (-1000000)) (2 : Int32).toNatClampNeg (-1000000)) (3 : Int32).toNatClampNeg (-1000000)))) :: (h0, .inr (1, [.null, .null, .ref q1, .null])) :: wr) (by decide +kernel) rfl rfl rfl (by decide +kernel) rfl rfl rfl (Nat.le_of_ble_eq_true rfl) rfl dn1_28 ?_
  refine hn_ald C dn1_31 rfl (lv_at hl 0 rfl) ?_
  refine hn_ico C (v := 4) dn1_32 (by decide +kernel) ?_
  refine hn_newi C (N := 4) (c' := 2) (s' := 8) dn1_33 (by decide +kernel) (by decide +kernel) (by decide +kernel) rfl rfl ⟨Nat.le_of_ble_eq_true rfl, Nat.le_of_ble_eq_true rfl⟩ (fun q2 => ?_)
  refine hn_dup C dn1_35 ?_
  refine hn_ico C (v := 0) dn1_36 (by decide +kernel) ?_
  refine hn_ico C (v := 1) dn1_37 (by decide +kernel) ?_
  refine hn_ias C 0 (ws' := (q2, .inl (cI, 4, .inl (upd (fun _ => 0) (0 : Int32).toNatClampNeg 1))) :: (q1, .inl (cI, 4, .inl (upd (upd (upd (upd (fun _ => 0) (0 : Int32).toNatClampNeg (-1000000)) (1 : Int32).toNatClampNeg (-1000000)) (2 : Int32).toNatClampNeg (-1000000)) (3 : Int32).toNatClampNeg (-1000000)))) :: (h0, .inr (1, [.null, .null, .ref q1, .null])) :: wr) rfl (by unfold vp_in; decide +kernel) rfl dn1_38 ?_
  refine hn_dup C dn1_39 ?_
  refine hn_ico C (v := 1) dn1_40 (by decide +kernel) ?_
  refine hn_ico C (v := 2) dn1_41 (by decide +kernel) ?_
  refine hn_ias C 0 (ws' := (q2, .inl (cI, 4, .inl (upd (upd (fun _ => 0) (0 : Int32).toNatClampNeg 1) (1 : Int32).toNatClampNeg 2))) :: (q1, .inl (cI, 4, .inl (upd (upd (upd (upd (fun _ => 0) (0 : Int32).toNatClampNeg (-1000000)) (1 : Int32).toNatClampNeg (-1000000)) (2 : Int32).toNatClampNeg (-1000000)) (3 : Int32).toNatClampNeg (-1000000)))) :: (h0, .inr (1, [.null, .null, .ref q1, .null])) :: wr) rfl (by unfold vp_in; decide +kernel) rfl dn1_42 ?_
  refine hn_dup C dn1_43 ?_
  refine hn_ico C (v := 2) dn1_44 (by decide +kernel) ?_
  refine hn_ico C (v := 3) dn1_45 (by decide +kernel) ?_
  refine hn_ias C 0 (ws' := (q2, .inl (cI, 4, .inl (upd (upd (upd (fun _ => 0) (0 : Int32).toNatClampNeg 1) (1 : Int32).toNatClampNeg 2) (2 : Int32).toNatClampNeg 3))) :: (q1, .inl (cI, 4, .inl (upd (upd (upd (upd (fun _ => 0) (0 : Int32).toNatClampNeg (-1000000)) (1 : Int32).toNatClampNeg (-1000000)) (2 : Int32).toNatClampNeg (-1000000)) (3 : Int32).toNatClampNeg (-1000000)))) :: (h0, .inr (1, [.null, .null, .ref q1, .null])) :: wr) rfl (by unfold vp_in; decide +kernel) rfl dn1_46 ?_
  refine hn_dup C dn1_47 ?_
  refine hn_ico C (v := 3) dn1_48 (by decide +kernel) ?_
  refine hn_ico C (v := 4) dn1_49 (by decide +kernel) ?_
  refine hn_ias C 0 (ws' := (q2, .inl (cI, 4, .inl (upd (upd (upd (upd (fun _ => 0) (0 : Int32).toNatClampNeg 1) (1 : Int32).toNatClampNeg 2) (2 : Int32).toNatClampNeg 3) (3 : Int32).toNatClampNeg 4))) :: (q1, .inl (cI, 4, .inl (upd (upd (upd (upd (fun _ => 0) (0 : Int32).toNatClampNeg (-1000000)) (1 : Int32).toNatClampNeg (-1000000)) (2 : Int32).toNatClampNeg (-1000000)) (3 : Int32).toNatClampNeg (-1000000)))) :: (h0, .inr (1, [.null, .null, .ref q1, .null])) :: wr) rfl (by unfold vp_in; decide +kernel) rfl dn1_50 ?_
  refine hn_putF C hin 2 1 3 (r := (RX1, TX1, 4)) (ty := .array .int) (ws' := (q2, .inl (cI, 4, .inl (upd (upd (upd (upd (fun _ => 0) (0 : Int32).toNatClampNeg 1) (1 : Int32).toNatClampNeg 2) (2 : Int32).toNatClampNeg 3) (3 : Int32).toNatClampNeg 4))) :: (q1, .inl (cI, 4, .inl (upd (upd (upd (upd (fun _ => 0) (0 : Int32).toNatClampNeg (-1000000)) (1 : Int32).toNatClampNeg (-1000000)) (2 : Int32).toNatClampNeg (-1000000)) (3 : Int32).toNatClampNeg (-1000000)))) :: (h0, .inr (1, [.null, .null, .ref q1, .ref q2])) :: wr) (by decide +kernel) rfl rfl rfl (by decide +kernel) rfl rfl rfl (Nat.le_of_ble_eq_true rfl) rfl dn1_51 ?_
  refine hn_ald C dn1_54 rfl (lv_at hl 0 rfl) ?_
  refine hn_ald C dn1_55 rfl (lv_at hl 1 rfl) ?_
  refine hn_putF C hin 2 1 0 (r := (RX1, TX1, 4)) (ty := .object "HandBook$Works") (ws' := (q2, .inl (cI, 4, .inl (upd (upd (upd (upd (fun _ => 0) (0 : Int32).toNatClampNeg 1) (1 : Int32).toNatClampNeg 2) (2 : Int32).toNatClampNeg 3) (3 : Int32).toNatClampNeg 4))) :: (q1, .inl (cI, 4, .inl (upd (upd (upd (upd (fun _ => 0) (0 : Int32).toNatClampNeg (-1000000)) (1 : Int32).toNatClampNeg (-1000000)) (2 : Int32).toNatClampNeg (-1000000)) (3 : Int32).toNatClampNeg (-1000000)))) :: (h0, .inr (1, [.ref ha, .null, .ref q1, .ref q2])) :: wr) (by decide +kernel) rfl rfl rfl (by decide +kernel) rfl rfl rfl (Nat.le_of_ble_eq_true rfl) rfl dn1_56 ?_
  refine hn_ald C dn1_59 rfl (lv_at hl 0 rfl) ?_
  refine hn_ald C dn1_60 rfl (lv_at hl 2 rfl) ?_
  refine hn_putF C hin 2 1 1 (r := (RX1, TX1, 4)) (ty := .object "HandBook$Steps") (ws' := (q2, .inl (cI, 4, .inl (upd (upd (upd (upd (fun _ => 0) (0 : Int32).toNatClampNeg 1) (1 : Int32).toNatClampNeg 2) (2 : Int32).toNatClampNeg 3) (3 : Int32).toNatClampNeg 4))) :: (q1, .inl (cI, 4, .inl (upd (upd (upd (upd (fun _ => 0) (0 : Int32).toNatClampNeg (-1000000)) (1 : Int32).toNatClampNeg (-1000000)) (2 : Int32).toNatClampNeg (-1000000)) (3 : Int32).toNatClampNeg (-1000000)))) :: (h0, .inr (1, [.ref ha, .ref hc, .ref q1, .ref q2])) :: wr) (by decide +kernel) rfl rfl rfl (by decide +kernel) rfl rfl rfl (Nat.le_of_ble_eq_true rfl) rfl dn1_61 ?_
  exact hn_ret C hr hlk dn1_64 ⟨q1, q2, rfl⟩
theorem dn3_0 : decode prog_5_method_1_code 0 = .ok (.aload_n 0, 1) := by decide +kernel
theorem dn3_1 : decode prog_5_method_1_code 1 = .ok (.invokespecial 3, 3) := by decide +kernel
theorem dn3_4 : decode prog_5_method_1_code 4 = .ok (.aload_n 0, 1) := by decide +kernel
theorem dn3_5 : decode prog_5_method_1_code 5 = .ok (.aload_n 1, 1) := by decide +kernel
theorem dn3_6 : decode prog_5_method_1_code 6 = .ok (.putfield 9, 3) := by decide +kernel
theorem dn3_9 : decode prog_5_method_1_code 9 = .ok (.aload_n 0, 1) := by decide +kernel
theorem dn3_10 : decode prog_5_method_1_code 10 = .ok (.aload_n 2, 1) := by decide +kernel
theorem dn3_11 : decode prog_5_method_1_code 11 = .ok (.putfield 15, 3) := by decide +kernel
theorem dn3_14 : decode prog_5_method_1_code 14 = .ok (.aload_n 0, 1) := by decide +kernel
theorem dn3_15 : decode prog_5_method_1_code 15 = .ok (.aload_n 3, 1) := by decide +kernel
theorem dn3_16 : decode prog_5_method_1_code 16 = .ok (.putfield 19, 3) := by decide +kernel
theorem dn3_19 : decode prog_5_method_1_code 19 = .ok (.return_, 1) := by decide +kernel
set_option maxHeartbeats 4000000 in
set_option maxRecDepth 100000 in
theorem c_X3 (l : Launch) (D : va_G) (cI cZ cS : ClassId) (α : Nat → Nat) (ov : Value) (A : Nat → Prop) (h0 ha hc he : Nat) (wr : va_W) : hn_New l D cI cZ cS α ov A ⟨"HandBook$Reader", "<init>", "(LHandBook$Tape;LHandBook$Works;LHandBook$Steps;)V"⟩ prog_5_method_1_code 4 ({ frames := 2, cells := 0, slots := 0, locals := 100 }) [.ref h0, .ref ha, .ref hc, .ref he] ((h0, .inr (3, [.null, .null, .null, .int 0, .int 0, .int 0, .int 0])) :: wr) (fun w1 => w1 = (h0, .inr (3, [.ref ha, .ref hc, .ref he, .int 0, .int 0, .int 0, .int 0])) :: wr) 0 0 := by
  refine hn_start 3 (by decide) rfl rfl (Nat.le_of_ble_eq_true rfl) (fun p e s m args below meth c ls C hin hr hlk hl => ?_)
  have hl : lv_has ls 4 [(0, .ref h0), (1, .ref ha), (2, .ref hc), (3, .ref he)] := hl
  refine hn_ald C dn3_0 rfl (lv_at hl 0 rfl) ?_
  refine hn_obj C (hb_wd_in (i := 316) (by decide +kernel)) hn_oi1 hn_oi2 hl.1 dn3_1 (Nat.le_of_ble_eq_true rfl) (Nat.le_of_ble_eq_true rfl) ?_
  refine hn_ald C dn3_4 rfl (lv_at hl 0 rfl) ?_
  refine hn_ald C dn3_5 rfl (lv_at hl 1 rfl) ?_
  refine hn_putF C hin 0 3 0 (r := (RX3, TX3, 7)) (ty := .object "HandBook$Tape") (ws' := (h0, .inr (3, [.ref ha, .null, .null, .int 0, .int 0, .int 0, .int 0])) :: wr) (by decide +kernel) rfl rfl rfl (by decide +kernel) rfl rfl rfl (Nat.le_of_ble_eq_true rfl) rfl dn3_6 ?_
  refine hn_ald C dn3_9 rfl (lv_at hl 0 rfl) ?_
  refine hn_ald C dn3_10 rfl (lv_at hl 2 rfl) ?_
  refine hn_putF C hin 0 3 1 (r := (RX3, TX3, 7)) (ty := .object "HandBook$Works") (ws' := (h0, .inr (3, [.ref ha, .ref hc, .null, .int 0, .int 0, .int 0, .int 0])) :: wr) (by decide +kernel) rfl rfl rfl (by decide +kernel) rfl rfl rfl (Nat.le_of_ble_eq_true rfl) rfl dn3_11 ?_
  refine hn_ald C dn3_14 rfl (lv_at hl 0 rfl) ?_
  refine hn_ald C dn3_15 rfl (lv_at hl 3 rfl) ?_
  refine hn_putF C hin 0 3 2 (r := (RX3, TX3, 7)) (ty := .object "HandBook$Steps") (ws' := (h0, .inr (3, [.ref ha, .ref hc, .ref he, .int 0, .int 0, .int 0, .int 0])) :: wr) (by decide +kernel) rfl rfl rfl (by decide +kernel) rfl rfl rfl (Nat.le_of_ble_eq_true rfl) rfl dn3_16 ?_
  exact hn_ret C hr hlk dn3_19 rfl
theorem dn9_0 : decode prog_11_method_1_code 0 = .ok (.aload_n 0, 1) := by decide +kernel
theorem dn9_1 : decode prog_11_method_1_code 1 = .ok (.invokespecial 3, 3) := by decide +kernel
theorem dn9_4 : decode prog_11_method_1_code 4 = .ok (.aload_n 0, 1) := by decide +kernel
theorem dn9_5 : decode prog_11_method_1_code 5 = .ok (.aload_n 1, 1) := by decide +kernel
theorem dn9_6 : decode prog_11_method_1_code 6 = .ok (.putfield 9, 3) := by decide +kernel
theorem dn9_9 : decode prog_11_method_1_code 9 = .ok (.aload_n 0, 1) := by decide +kernel
theorem dn9_10 : decode prog_11_method_1_code 10 = .ok (.aload_n 1, 1) := by decide +kernel
theorem dn9_11 : decode prog_11_method_1_code 11 = .ok (.getfield 15, 3) := by decide +kernel
theorem dn9_14 : decode prog_11_method_1_code 14 = .ok (.putfield 21, 3) := by decide +kernel
theorem dn9_17 : decode prog_11_method_1_code 17 = .ok (.aload_n 0, 1) := by decide +kernel
theorem dn9_18 : decode prog_11_method_1_code 18 = .ok (.aload_n 2, 1) := by decide +kernel
theorem dn9_19 : decode prog_11_method_1_code 19 = .ok (.putfield 22, 3) := by decide +kernel
theorem dn9_22 : decode prog_11_method_1_code 22 = .ok (.return_, 1) := by decide +kernel
set_option maxHeartbeats 4000000 in
set_option maxRecDepth 100000 in
theorem c_X9 (l : Launch) (D : va_G) (cI cZ cS : ClassId) (α : Nat → Nat) (ov : Value) (A : Nat → Prop) (h0 ha hc : Nat) (wr : va_W) (kh : Nat) (hf : List Value) (wk : Nat) (hh : wr[kh]? = some (ha, .inr (1, hf))) (hv : hf[0]? = some (.ref wk)) : hn_New l D cI cZ cS α ov A ⟨"HandBook$Walks", "<init>", "(LHandBook$Hands;LHandBook$Rows;)V"⟩ prog_11_method_1_code 3 ({ frames := 2, cells := 0, slots := 0, locals := 100 }) [.ref h0, .ref ha, .ref hc] ((h0, .inr (9, [.null, .null, .null, .int 0, .int 0, .int 0, .int 0, .int 0, .int 0])) :: wr) (fun w1 => w1 = (h0, .inr (9, [.ref ha, .ref wk, .ref hc, .int 0, .int 0, .int 0, .int 0, .int 0, .int 0])) :: wr) 0 0 := by
  refine hn_start 9 (by decide) rfl rfl (Nat.le_of_ble_eq_true rfl) (fun p e s m args below meth c ls C hin hr hlk hl => ?_)
  have hl : lv_has ls 3 [(0, .ref h0), (1, .ref ha), (2, .ref hc)] := hl
  refine hn_ald C dn9_0 rfl (lv_at hl 0 rfl) ?_
  refine hn_obj C (hb_wd_in (i := 399) (by decide +kernel)) hn_oi1 hn_oi2 hl.1 dn9_1 (Nat.le_of_ble_eq_true rfl) (Nat.le_of_ble_eq_true rfl) ?_
  refine hn_ald C dn9_4 rfl (lv_at hl 0 rfl) ?_
  refine hn_ald C dn9_5 rfl (lv_at hl 1 rfl) ?_
  refine hn_putF C hin 0 9 0 (r := (RX9, TX9, 9)) (ty := .object "HandBook$Hands") (ws' := (h0, .inr (9, [.ref ha, .null, .null, .int 0, .int 0, .int 0, .int 0, .int 0, .int 0])) :: wr) (by decide +kernel) rfl rfl rfl (by decide +kernel) rfl rfl rfl (Nat.le_of_ble_eq_true rfl) rfl dn9_6 ?_
  refine hn_ald C dn9_9 rfl (lv_at hl 0 rfl) ?_
  refine hn_ald C dn9_10 rfl (lv_at hl 1 rfl) ?_
  refine hn_get C (kh + 1) 1 0 (by decide +kernel) hh hv dn9_11 ?_
  refine hn_putF C hin 0 9 1 (r := (RX9, TX9, 9)) (ty := .object "HandBook$Works") (ws' := (h0, .inr (9, [.ref ha, .ref wk, .null, .int 0, .int 0, .int 0, .int 0, .int 0, .int 0])) :: wr) (by decide +kernel) rfl rfl rfl (by decide +kernel) rfl rfl rfl (Nat.le_of_ble_eq_true rfl) rfl dn9_14 ?_
  refine hn_ald C dn9_17 rfl (lv_at hl 0 rfl) ?_
  refine hn_ald C dn9_18 rfl (lv_at hl 2 rfl) ?_
  refine hn_putF C hin 0 9 2 (r := (RX9, TX9, 9)) (ty := .object "HandBook$Rows") (ws' := (h0, .inr (9, [.ref ha, .ref wk, .ref hc, .int 0, .int 0, .int 0, .int 0, .int 0, .int 0])) :: wr) (by decide +kernel) rfl rfl rfl (by decide +kernel) rfl rfl rfl (Nat.le_of_ble_eq_true rfl) rfl dn9_19 ?_
  exact hn_ret C hr hlk dn9_22 rfl
theorem dn8_0 : decode prog_10_method_1_code 0 = .ok (.aload_n 0, 1) := by decide +kernel
theorem dn8_1 : decode prog_10_method_1_code 1 = .ok (.invokespecial 3, 3) := by decide +kernel
theorem dn8_4 : decode prog_10_method_1_code 4 = .ok (.aload_n 0, 1) := by decide +kernel
theorem dn8_5 : decode prog_10_method_1_code 5 = .ok (.sipush 1024, 3) := by decide +kernel
theorem dn8_8 : decode prog_10_method_1_code 8 = .ok (.newarray .int, 2) := by decide +kernel
theorem dn8_10 : decode prog_10_method_1_code 10 = .ok (.putfield 9, 3) := by decide +kernel
theorem dn8_13 : decode prog_10_method_1_code 13 = .ok (.aload_n 0, 1) := by decide +kernel
theorem dn8_14 : decode prog_10_method_1_code 14 = .ok (.sipush 17408, 3) := by decide +kernel
theorem dn8_17 : decode prog_10_method_1_code 17 = .ok (.newarray .int, 2) := by decide +kernel
theorem dn8_19 : decode prog_10_method_1_code 19 = .ok (.putfield 15, 3) := by decide +kernel
theorem dn8_22 : decode prog_10_method_1_code 22 = .ok (.aload_n 0, 1) := by decide +kernel
theorem dn8_23 : decode prog_10_method_1_code 23 = .ok (.aload_n 1, 1) := by decide +kernel
theorem dn8_24 : decode prog_10_method_1_code 24 = .ok (.putfield 18, 3) := by decide +kernel
theorem dn8_27 : decode prog_10_method_1_code 27 = .ok (.aload_n 0, 1) := by decide +kernel
theorem dn8_28 : decode prog_10_method_1_code 28 = .ok (.aload_n 1, 1) := by decide +kernel
theorem dn8_29 : decode prog_10_method_1_code 29 = .ok (.getfield 22, 3) := by decide +kernel
theorem dn8_32 : decode prog_10_method_1_code 32 = .ok (.putfield 28, 3) := by decide +kernel
theorem dn8_35 : decode prog_10_method_1_code 35 = .ok (.aload_n 0, 1) := by decide +kernel
theorem dn8_36 : decode prog_10_method_1_code 36 = .ok (.aload_n 2, 1) := by decide +kernel
theorem dn8_37 : decode prog_10_method_1_code 37 = .ok (.putfield 29, 3) := by decide +kernel
theorem dn8_40 : decode prog_10_method_1_code 40 = .ok (.return_, 1) := by decide +kernel
set_option maxHeartbeats 4000000 in
set_option maxRecDepth 100000 in
theorem c_X8 (l : Launch) (D : va_G) (cI cZ cS : ClassId) (α : Nat → Nat) (ov : Value) (A : Nat → Prop) (h0 ha hc : Nat) (wr : va_W) (kh : Nat) (hf : List Value) (wk : Nat) (hh : wr[kh]? = some (ha, .inr (1, hf))) (hv : hf[0]? = some (.ref wk)) : hn_New l D cI cZ cS α ov A ⟨"HandBook$Through", "<init>", "(LHandBook$Hands;LHandBook$Rows;)V"⟩ prog_10_method_1_code 3 ({ frames := 2, cells := 2, slots := 18432, locals := 100 }) [.ref h0, .ref ha, .ref hc] ((h0, .inr (8, [.null, .null, .null, .null, .null, .int 0, .int 0, .int 0, .int 0])) :: wr) (fun w1 => ∃ q1 q2 : Nat, w1 = (q2, .inl (cI, 17408, .inl (fun _ => 0))) :: (q1, .inl (cI, 1024, .inl (fun _ => 0))) :: (h0, .inr (8, [.ref ha, .ref wk, .ref hc, .ref q1, .ref q2, .int 0, .int 0, .int 0, .int 0])) :: wr) 2 18432 := by
  refine hn_start 8 (by decide) rfl rfl (Nat.le_of_ble_eq_true rfl) (fun p e s m args below meth c ls C hin hr hlk hl => ?_)
  have hl : lv_has ls 3 [(0, .ref h0), (1, .ref ha), (2, .ref hc)] := hl
  refine hn_ald C dn8_0 rfl (lv_at hl 0 rfl) ?_
  refine hn_obj C (hb_wd_in (i := 438) (by decide +kernel)) hn_oi1 hn_oi2 hl.1 dn8_1 (Nat.le_of_ble_eq_true rfl) (Nat.le_of_ble_eq_true rfl) ?_
  refine hn_ald C dn8_4 rfl (lv_at hl 0 rfl) ?_
  refine hn_sip C (v := 1024) dn8_5 (by decide +kernel) ?_
  refine hn_newi C (N := 1024) (c' := 1) (s' := 1024) dn8_8 (by decide +kernel) (by decide +kernel) (by decide +kernel) rfl rfl ⟨Nat.le_of_ble_eq_true rfl, Nat.le_of_ble_eq_true rfl⟩ (fun q1 => ?_)
  refine hn_putF C hin 1 8 3 (r := (RX8, TX8, 9)) (ty := .array .int) (ws' := (q1, .inl (cI, 1024, .inl (fun _ => 0))) :: (h0, .inr (8, [.null, .null, .null, .ref q1, .null, .int 0, .int 0, .int 0, .int 0])) :: wr) (by decide +kernel) rfl rfl rfl (by decide +kernel) rfl rfl rfl (Nat.le_of_ble_eq_true rfl) rfl dn8_10 ?_
  refine hn_ald C dn8_13 rfl (lv_at hl 0 rfl) ?_
  refine hn_sip C (v := 17408) dn8_14 (by decide +kernel) ?_
  refine hn_newi C (N := 17408) (c' := 2) (s' := 18432) dn8_17 (by decide +kernel) (by decide +kernel) (by decide +kernel) rfl rfl ⟨Nat.le_of_ble_eq_true rfl, Nat.le_of_ble_eq_true rfl⟩ (fun q2 => ?_)
  refine hn_putF C hin 2 8 4 (r := (RX8, TX8, 9)) (ty := .array .int) (ws' := (q2, .inl (cI, 17408, .inl (fun _ => 0))) :: (q1, .inl (cI, 1024, .inl (fun _ => 0))) :: (h0, .inr (8, [.null, .null, .null, .ref q1, .ref q2, .int 0, .int 0, .int 0, .int 0])) :: wr) (by decide +kernel) rfl rfl rfl (by decide +kernel) rfl rfl rfl (Nat.le_of_ble_eq_true rfl) rfl dn8_19 ?_
  refine hn_ald C dn8_22 rfl (lv_at hl 0 rfl) ?_
  refine hn_ald C dn8_23 rfl (lv_at hl 1 rfl) ?_
  refine hn_putF C hin 2 8 0 (r := (RX8, TX8, 9)) (ty := .object "HandBook$Hands") (ws' := (q2, .inl (cI, 17408, .inl (fun _ => 0))) :: (q1, .inl (cI, 1024, .inl (fun _ => 0))) :: (h0, .inr (8, [.ref ha, .null, .null, .ref q1, .ref q2, .int 0, .int 0, .int 0, .int 0])) :: wr) (by decide +kernel) rfl rfl rfl (by decide +kernel) rfl rfl rfl (Nat.le_of_ble_eq_true rfl) rfl dn8_24 ?_
  refine hn_ald C dn8_27 rfl (lv_at hl 0 rfl) ?_
  refine hn_ald C dn8_28 rfl (lv_at hl 1 rfl) ?_
  refine hn_get C (kh + 3) 1 0 (by decide +kernel) hh hv dn8_29 ?_
  refine hn_putF C hin 2 8 1 (r := (RX8, TX8, 9)) (ty := .object "HandBook$Works") (ws' := (q2, .inl (cI, 17408, .inl (fun _ => 0))) :: (q1, .inl (cI, 1024, .inl (fun _ => 0))) :: (h0, .inr (8, [.ref ha, .ref wk, .null, .ref q1, .ref q2, .int 0, .int 0, .int 0, .int 0])) :: wr) (by decide +kernel) rfl rfl rfl (by decide +kernel) rfl rfl rfl (Nat.le_of_ble_eq_true rfl) rfl dn8_32 ?_
  refine hn_ald C dn8_35 rfl (lv_at hl 0 rfl) ?_
  refine hn_ald C dn8_36 rfl (lv_at hl 2 rfl) ?_
  refine hn_putF C hin 2 8 2 (r := (RX8, TX8, 9)) (ty := .object "HandBook$Rows") (ws' := (q2, .inl (cI, 17408, .inl (fun _ => 0))) :: (q1, .inl (cI, 1024, .inl (fun _ => 0))) :: (h0, .inr (8, [.ref ha, .ref wk, .ref hc, .ref q1, .ref q2, .int 0, .int 0, .int 0, .int 0])) :: wr) (by decide +kernel) rfl rfl rfl (by decide +kernel) rfl rfl rfl (Nat.le_of_ble_eq_true rfl) rfl dn8_37 ?_
  exact hn_ret C hr hlk dn8_40 ⟨q1, q2, rfl⟩
theorem dn0_0 : decode prog_2_method_1_code 0 = .ok (.aload_n 0, 1) := by decide +kernel
theorem dn0_1 : decode prog_2_method_1_code 1 = .ok (.invokespecial 3, 3) := by decide +kernel
theorem dn0_4 : decode prog_2_method_1_code 4 = .ok (.aload_n 0, 1) := by decide +kernel
theorem dn0_5 : decode prog_2_method_1_code 5 = .ok (.aload_n 1, 1) := by decide +kernel
theorem dn0_6 : decode prog_2_method_1_code 6 = .ok (.putfield 9, 3) := by decide +kernel
theorem dn0_9 : decode prog_2_method_1_code 9 = .ok (.aload_n 0, 1) := by decide +kernel
theorem dn0_10 : decode prog_2_method_1_code 10 = .ok (.aload_n 2, 1) := by decide +kernel
theorem dn0_11 : decode prog_2_method_1_code 11 = .ok (.putfield 15, 3) := by decide +kernel
theorem dn0_14 : decode prog_2_method_1_code 14 = .ok (.aload_n 0, 1) := by decide +kernel
theorem dn0_15 : decode prog_2_method_1_code 15 = .ok (.aload_n 2, 1) := by decide +kernel
theorem dn0_16 : decode prog_2_method_1_code 16 = .ok (.getfield 19, 3) := by decide +kernel
theorem dn0_19 : decode prog_2_method_1_code 19 = .ok (.putfield 25, 3) := by decide +kernel
theorem dn0_22 : decode prog_2_method_1_code 22 = .ok (.aload_n 0, 1) := by decide +kernel
theorem dn0_23 : decode prog_2_method_1_code 23 = .ok (.aload_n 2, 1) := by decide +kernel
theorem dn0_24 : decode prog_2_method_1_code 24 = .ok (.getfield 28, 3) := by decide +kernel
theorem dn0_27 : decode prog_2_method_1_code 27 = .ok (.putfield 31, 3) := by decide +kernel
theorem dn0_30 : decode prog_2_method_1_code 30 = .ok (.aload_n 0, 1) := by decide +kernel
theorem dn0_31 : decode prog_2_method_1_code 31 = .ok (.aload_n 2, 1) := by decide +kernel
theorem dn0_32 : decode prog_2_method_1_code 32 = .ok (.getfield 34, 3) := by decide +kernel
theorem dn0_35 : decode prog_2_method_1_code 35 = .ok (.putfield 37, 3) := by decide +kernel
theorem dn0_38 : decode prog_2_method_1_code 38 = .ok (.return_, 1) := by decide +kernel
set_option maxHeartbeats 4000000 in
set_option maxRecDepth 100000 in
theorem c_X0 (l : Launch) (D : va_G) (cI cZ cS : ClassId) (α : Nat → Nat) (ov : Value) (A : Nat → Prop) (h0 ha hc : Nat) (wr : va_W) (kr : Nat) (rf : List Value) (r0 r1 r2 : Nat) (hrw : wr[kr]? = some (hc, .inr (4, rf))) (hr0 : rf[0]? = some (.ref r0)) (hr1 : rf[1]? = some (.ref r1)) (hr2 : rf[2]? = some (.ref r2)) : hn_New l D cI cZ cS α ov A ⟨"HandBook$Cheapest", "<init>", "(LHandBook$Hands;LHandBook$Rows;)V"⟩ prog_2_method_1_code 3 ({ frames := 2, cells := 0, slots := 0, locals := 100 }) [.ref h0, .ref ha, .ref hc] ((h0, .inr (0, [.null, .null, .int 0, .int 0, .null, .null, .null, .int 0])) :: wr) (fun w1 => w1 = (h0, .inr (0, [.ref ha, .ref hc, .int 0, .int 0, .ref r0, .ref r1, .ref r2, .int 0])) :: wr) 0 0 := by
  refine hn_start 0 (by decide) rfl rfl (Nat.le_of_ble_eq_true rfl) (fun p e s m args below meth c ls C hin hr hlk hl => ?_)
  have hl : lv_has ls 3 [(0, .ref h0), (1, .ref ha), (2, .ref hc)] := hl
  refine hn_ald C dn0_0 rfl (lv_at hl 0 rfl) ?_
  refine hn_obj C (hb_wd_in (i := 472) (by decide +kernel)) hn_oi1 hn_oi2 hl.1 dn0_1 (Nat.le_of_ble_eq_true rfl) (Nat.le_of_ble_eq_true rfl) ?_
  refine hn_ald C dn0_4 rfl (lv_at hl 0 rfl) ?_
  refine hn_ald C dn0_5 rfl (lv_at hl 1 rfl) ?_
  refine hn_putF C hin 0 0 0 (r := (RX0, TX0, 8)) (ty := .object "HandBook$Hands") (ws' := (h0, .inr (0, [.ref ha, .null, .int 0, .int 0, .null, .null, .null, .int 0])) :: wr) (by decide +kernel) rfl rfl rfl (by decide +kernel) rfl rfl rfl (Nat.le_of_ble_eq_true rfl) rfl dn0_6 ?_
  refine hn_ald C dn0_9 rfl (lv_at hl 0 rfl) ?_
  refine hn_ald C dn0_10 rfl (lv_at hl 2 rfl) ?_
  refine hn_putF C hin 0 0 1 (r := (RX0, TX0, 8)) (ty := .object "HandBook$Rows") (ws' := (h0, .inr (0, [.ref ha, .ref hc, .int 0, .int 0, .null, .null, .null, .int 0])) :: wr) (by decide +kernel) rfl rfl rfl (by decide +kernel) rfl rfl rfl (Nat.le_of_ble_eq_true rfl) rfl dn0_11 ?_
  refine hn_ald C dn0_14 rfl (lv_at hl 0 rfl) ?_
  refine hn_ald C dn0_15 rfl (lv_at hl 2 rfl) ?_
  refine hn_get C (kr + 1) 4 0 (by decide +kernel) hrw hr0 dn0_16 ?_
  refine hn_putF C hin 0 0 4 (r := (RX0, TX0, 8)) (ty := .array .int) (ws' := (h0, .inr (0, [.ref ha, .ref hc, .int 0, .int 0, .ref r0, .null, .null, .int 0])) :: wr) (by decide +kernel) rfl rfl rfl (by decide +kernel) rfl rfl rfl (Nat.le_of_ble_eq_true rfl) rfl dn0_19 ?_
  refine hn_ald C dn0_22 rfl (lv_at hl 0 rfl) ?_
  refine hn_ald C dn0_23 rfl (lv_at hl 2 rfl) ?_
  refine hn_get C (kr + 1) 4 1 (by decide +kernel) hrw hr1 dn0_24 ?_
  refine hn_putF C hin 0 0 5 (r := (RX0, TX0, 8)) (ty := .array .int) (ws' := (h0, .inr (0, [.ref ha, .ref hc, .int 0, .int 0, .ref r0, .ref r1, .null, .int 0])) :: wr) (by decide +kernel) rfl rfl rfl (by decide +kernel) rfl rfl rfl (Nat.le_of_ble_eq_true rfl) rfl dn0_27 ?_
  refine hn_ald C dn0_30 rfl (lv_at hl 0 rfl) ?_
  refine hn_ald C dn0_31 rfl (lv_at hl 2 rfl) ?_
  refine hn_get C (kr + 1) 4 2 (by decide +kernel) hrw hr2 dn0_32 ?_
  refine hn_putF C hin 0 0 6 (r := (RX0, TX0, 8)) (ty := .array .int) (ws' := (h0, .inr (0, [.ref ha, .ref hc, .int 0, .int 0, .ref r0, .ref r1, .ref r2, .int 0])) :: wr) (by decide +kernel) rfl rfl rfl (by decide +kernel) rfl rfl rfl (Nat.le_of_ble_eq_true rfl) rfl dn0_35 ?_
  exact hn_ret C hr hlk dn0_38 rfl
