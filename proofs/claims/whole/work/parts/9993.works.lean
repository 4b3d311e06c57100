/-! tellStates in the constructor of the works, over its thirteen cells alone -/
theorem hb_all208 : ∀ m, 1 ≤ hb_lv m → m < 208 := by
  intro m h
  have hl : hbLs.length = 208 := by decide +kernel
  rcases Nat.lt_or_ge m 208 with q | q
  · exact q
  · exfalso
    unfold hb_lv at h
    rw [List.getD_eq_getElem?_getD, List.getElem?_eq_none (by omega)] at h
    exact absurd h (by decide)
theorem hb_Z_nar {α α1 : Nat → Nat} {ov : Value} {A B : Nat → Prop} {U : State} {H : Heap} (h : hb_Z α ov A U H) (h1 : α1 1000 = α 1000) (h2 : α1 1001 = α 1001) (hAB : ∀ q, B q → A q) : hb_Z α1 ov B U H := by
  unfold hb_Z at h ⊢
  rw [h1, h2]
  exact ⟨h.1, h.2.1.narrow hAB, h.2.2.1.narrow hAB, h.2.2.2.narrow hAB⟩
theorem hn_Dfst {A : Nat → Prop} {ws ws' : va_W} (he : ws.map (fun q => q.1) = ws'.map (fun q => q.1)) (h : va_D A ws) : va_D A ws' := by
  have key : ∀ (k : Nat) (q : Nat × va_E), ws'[k]? = some q → ∃ q', ws[k]? = some q' ∧ q'.1 = q.1 := by
    intro k q hk
    have h1 : (ws'.map (fun q => q.1))[k]? = some q.1 := by rw [List.getElem?_map, hk]; rfl
    rw [← he, List.getElem?_map] at h1
    cases hw : ws[k]? with
    | none => rw [hw] at h1; cases h1
    | some q' => rw [hw] at h1; exact ⟨q', rfl, Option.some.inj h1⟩
  refine ⟨fun i j x y hi hj hxy => ?_, fun k q hk => ?_⟩
  · obtain ⟨a, h1, h2⟩ := key i x hi
    obtain ⟨b, h3, h4⟩ := key j y hj
    exact h.1 i j a b h1 h3 (by rw [h2, h4]; exact hxy)
  · obtain ⟨a, h1, h2⟩ := key k q hk
    rw [← h2]; exact h.2 k a h1
theorem hb_w_fst {α : Nat → Nat} {cI cZ cS : ClassId} {σ σ' : hbM} {sh : List hbS} : (hb_w α cI cZ cS σ sh).map (fun q => q.1) = (hb_w α cI cZ cS σ' sh).map (fun q => q.1) := by
  apply List.ext_getElem?
  intro k
  rw [List.getElem?_map, List.getElem?_map, hb_w_get, hb_w_get]
  cases sh[k]? <;> rfl
set_option maxHeartbeats 4000000 in
theorem hn_tell {p : Program} {l : Launch} {e : Env} {R : Room} {s : State} {m : MethodId} {args : Array Value} {below : List Frame} {meth : Method} {c : Code} {cells slots : Nat} {Q : State → Prop} {cc : ByteArray} {nL pc i : Nat} {ls : Array Slot} {D : va_G} {cI cZ cS : ClassId} {α α1 : Nat → Nat} {ov : Value} {A : Nat → Prop} {wr : va_W} {σ σ' : hbM}
    (C : hn_C p s m args c cc nL (hbOwn 10) D cI cZ cS α ov A) (ho : ov.category = 1) (h1 : α1 1000 = α 1000) (h2 : α1 1001 = α 1001) (hev : hb_ev hbSH0 75 [.ref 0] σ = some (none, σ')) (hml : hb_mla 10 i 75 = true) (hdg : decode cc pc = .ok (.invokevirtual i, 3)) (hsz : ls.size = nL) (hR : (hb_rm (hb_lv 75)).frames + 1 ≤ R.frames ∧ 8 + ((hb_mt 75).2.2.1 + 11) + (hb_rm (hb_lv 75)).locals ≤ R.locals) (hR2 : cells ≤ R.cells ∧ slots ≤ R.slots)
    (k : hn_W p l e R s m args below meth c D A Q cells slots (wr ++ hb_w α1 cI cZ cS σ' hbSH0) (pc + 3) ls []) : hn_W p l e R s m args below meth c D A Q cells slots (wr ++ hb_w α1 cI cZ cS σ hbSH0) pc ls [.ref (α1 0)] := by
  intro H locs hP hD hS
  obtain ⟨hx, hb, hmL, hown, hts, hK, hN1, hN2, hZ, hO, hA⟩ := C
  have l1 : ∀ (i : Nat) (q : Nat × va_E), wr[i]? = some q → (wr ++ hb_w α1 cI cZ cS σ hbSH0)[i]? = some q := fun i q h => by rw [List.getElem?_append_left (List.getElem?_eq_some_iff.mp h).1]; exact h
  have l2 : ∀ (i : Nat) (q : Nat × va_E), (hb_w α1 cI cZ cS σ hbSH0)[i]? = some q → (wr ++ hb_w α1 cI cZ cS σ hbSH0)[wr.length + i]? = some q := fun i q h => by rw [List.getElem?_append_right (by omega), Nat.add_sub_cancel_left]; exact h
  have hPw : va_P D hbCl (hb_w α1 cI cZ cS σ hbSH0) H := fun i q h => hP _ q (l2 i q h)
  have hat : ∀ c, c < 13 → ∃ en, (hb_w α1 cI cZ cS σ hbSH0)[c]? = some (α1 c, en) := fun c hc => by
    have hl : c < hbSH0.length := hc
    exact ⟨_, hb_w_at (List.getElem?_eq_getElem hl)⟩
  have hinj : hb_inj α1 hbSH0.length := by
    intro i j hi hj he
    obtain ⟨e1, q1⟩ := hat i hi
    obtain ⟨e2, q2⟩ := hat j hj
    have := hD.1 _ _ _ _ (l2 i _ q1) (l2 j _ q2) he
    omega
  have hAA : ∀ q, (∃ c, c < 13 ∧ q = α1 c) → A q := by
    rintro q ⟨c, hc, rfl⟩
    obtain ⟨e1, q1⟩ := hat c hc
    exact hD.2 _ _ (l2 c _ q1)
  have hRet : hb_Ret l hbSH0 α1 D cI cZ cS ov (fun q => ∃ c, c < 13 ∧ q = α1 c) 75 [.ref 0] σ none σ' := hb_sound hinj (fun c hc => ⟨c, hc, rfl⟩) ho hb_all208 (hb_lv 75 + 1) 75 _ _ _ _ (Nat.lt_succ_self _) (by decide +kernel) hev
  obtain ⟨hw1, hw2, -, hw4⟩ := hb_mt_words (a := 75) (by decide)
  obtain ⟨hw5, hw6⟩ := hw4 rfl
  obtain ⟨hy1, hy2, hy3, hy4, hy5⟩ := hb_mt_y (a := 75) (by decide)
  have hrecv : ∃ cell : Cell, H[α1 0]? = some cell ∧ cell.vm.isStatics = false ∧ s.vm.findClass (hb_mt 75).1.cls = some cell.cls := by
    have hs0 : hbSH0[0]? = some (0, 10, [some 1, some 4, some 7, some 8, some 9, some 10, some 11, some 12, none, none, none]) := rfl
    exact va_recv hK hPw (show hbCl[10]? = some (RX10, TX10, 11) from rfl) (hb_w_at hs0)
  have hT : GoodIn hbTB (wsV (hbOwn 10) i (hb_mt 75).1.cls (hb_mt 75).1 (hb_wsm 75)) := by
    intro w hw
    rcases List.mem_append.mp hw with h | h
    · simp only [List.mem_cons, List.not_mem_nil, or_false] at h
      rcases h with rfl | rfl | rfl | rfl
      · exact hb_TB_good _ (hb_mla_w hml (by decide))
      · exact hb_TB_good _ hw5
      · exact hb_TB_good _ hw6
      · exact hb_TB_good _ hw2
    · exact hb_good_wsm (by decide) w h
  have hpre : ∀ U : State, U.heap = H → s.WarmedH U.vm → hb_B hbSH0 α1 D cI cZ cS ov (fun q => ∃ c, c < 13 ∧ q = α1 c) σ U := by
    intro U hU hW
    refine ⟨by rw [hU]; exact hPw, va_K.moved hW.alike hK, fun w hw => ?_, ?_⟩
    · obtain ⟨o, i, y, hh, rfl⟩ := hb_nest_form hw
      exact va_Nw.warmM hW (hN2 _ hw)
    · rw [hU]
      exact hb_Z_nar ((hZ.kept hS.2.1).moved hW) h1 h2 hAA
  have hrun := va_runV (H := H) (locs := locs) (cells := cells) (slots := slots) (e := e) (R := R) (below := below) (meth := meth) (b := α1 0) (As := []) (rest := []) (g := F0 m pc ls [.ref (α1 0)])
    ⟨hx, hb, hmL, hown, hts⟩ hRet (cwV (hb_mt 75).2.2.2.2.2.1 hts hT rfl rfl rfl ⟨rfl, hy3.1, hy3.2, hy4⟩ hR) ⟨hb_blind, hrecv, fun U hU hW => ⟨rfl, hpre U hU hW⟩⟩ rfl rfl hsz rfl (lv_room (Nat.zero_le _)) hdg hR2
  intro T hT X
  obtain ⟨v, st₀, t, T', L, h0, X', hL, e1, e2, ⟨hv, hp, hz, hk⟩, st⟩ := hrun T hT X
  cases hv
  rw [h0] at hz hk
  have hout : ∀ (i : Nat) (q : Nat × va_E), wr[i]? = some q → ¬ ∃ c, c < 13 ∧ q.1 = α1 c := by
    rintro i q hq ⟨c, hc, he⟩
    obtain ⟨en, q1⟩ := hat c hc
    have h3 := hD.1 _ _ _ _ (l1 i q hq) (l2 c _ q1) he
    have h4 := (List.getElem?_eq_some_iff.mp hq).1
    omega
  obtain ⟨t2, a1, b1⟩ := k T'.heap (locs ++ L) (by
      rw [e1]
      refine va_P.app (fun i q hq => ?_) hp
      have hpq := hP i q (l1 i q hq)
      exact hpq.kept (hk q.1 hpq.lt (hout i q hq))) (hn_Dfst (by rw [List.map_append, List.map_append, hb_w_fst (σ := σ) (σ' := σ')]) hD)
    ⟨Nat.le_trans hS.1 (by rw [e1]; exact hz), fun q g1 g2 => by rw [e1, hk q (Nat.lt_of_lt_of_le g1 hS.1) (fun z => g2 (hAA q z))]; exact hS.2.1 q g1 g2, fun q hq => by
      rcases List.mem_append.mp hq with h | h
      · exact hS.2.2 q h
      · exact hAA _ (hL q h)⟩ T' rfl X'
  exact ⟨t2, st t2 a1, b1⟩
theorem dn10_0 : decode prog_12_method_1_code 0 = .ok (.aload_n 0, 1) := by decide +kernel
theorem dn10_1 : decode prog_12_method_1_code 1 = .ok (.invokespecial 3, 3) := by decide +kernel
theorem dn10_4 : decode prog_12_method_1_code 4 = .ok (.aload_n 0, 1) := by decide +kernel
theorem dn10_5 : decode prog_12_method_1_code 5 = .ok (.new 9, 3) := by decide +kernel
theorem dn10_8 : decode prog_12_method_1_code 8 = .ok (.dup, 1) := by decide +kernel
theorem dn10_9 : decode prog_12_method_1_code 9 = .ok (.invokespecial 11, 3) := by decide +kernel
theorem dn10_12 : decode prog_12_method_1_code 12 = .ok (.putfield 12, 3) := by decide +kernel
theorem dn10_15 : decode prog_12_method_1_code 15 = .ok (.aload_n 0, 1) := by decide +kernel
theorem dn10_16 : decode prog_12_method_1_code 16 = .ok (.new 9, 3) := by decide +kernel
theorem dn10_19 : decode prog_12_method_1_code 19 = .ok (.dup, 1) := by decide +kernel
theorem dn10_20 : decode prog_12_method_1_code 20 = .ok (.invokespecial 11, 3) := by decide +kernel
theorem dn10_23 : decode prog_12_method_1_code 23 = .ok (.putfield 18, 3) := by decide +kernel
theorem dn10_26 : decode prog_12_method_1_code 26 = .ok (.aload_n 0, 1) := by decide +kernel
theorem dn10_27 : decode prog_12_method_1_code 27 = .ok (.bipush 8, 2) := by decide +kernel
theorem dn10_29 : decode prog_12_method_1_code 29 = .ok (.newarray .int, 2) := by decide +kernel
theorem dn10_31 : decode prog_12_method_1_code 31 = .ok (.putfield 21, 3) := by decide +kernel
theorem dn10_34 : decode prog_12_method_1_code 34 = .ok (.aload_n 0, 1) := by decide +kernel
theorem dn10_35 : decode prog_12_method_1_code 35 = .ok (.bipush 8, 2) := by decide +kernel
theorem dn10_37 : decode prog_12_method_1_code 37 = .ok (.newarray .int, 2) := by decide +kernel
theorem dn10_39 : decode prog_12_method_1_code 39 = .ok (.putfield 25, 3) := by decide +kernel
theorem dn10_42 : decode prog_12_method_1_code 42 = .ok (.aload_n 0, 1) := by decide +kernel
theorem dn10_43 : decode prog_12_method_1_code 43 = .ok (.bipush 8, 2) := by decide +kernel
theorem dn10_45 : decode prog_12_method_1_code 45 = .ok (.newarray .int, 2) := by decide +kernel
theorem dn10_47 : decode prog_12_method_1_code 47 = .ok (.putfield 28, 3) := by decide +kernel
theorem dn10_50 : decode prog_12_method_1_code 50 = .ok (.aload_n 0, 1) := by decide +kernel
theorem dn10_51 : decode prog_12_method_1_code 51 = .ok (.sipush 1024, 3) := by decide +kernel
theorem dn10_54 : decode prog_12_method_1_code 54 = .ok (.newarray .int, 2) := by decide +kernel
theorem dn10_56 : decode prog_12_method_1_code 56 = .ok (.putfield 31, 3) := by decide +kernel
theorem dn10_59 : decode prog_12_method_1_code 59 = .ok (.aload_n 0, 1) := by decide +kernel
theorem dn10_60 : decode prog_12_method_1_code 60 = .ok (.sipush 1024, 3) := by decide +kernel
theorem dn10_63 : decode prog_12_method_1_code 63 = .ok (.newarray .boolean, 2) := by decide +kernel
theorem dn10_65 : decode prog_12_method_1_code 65 = .ok (.putfield 34, 3) := by decide +kernel
theorem dn10_68 : decode prog_12_method_1_code 68 = .ok (.aload_n 0, 1) := by decide +kernel
theorem dn10_69 : decode prog_12_method_1_code 69 = .ok (.sipush 1024, 3) := by decide +kernel
theorem dn10_72 : decode prog_12_method_1_code 72 = .ok (.newarray .boolean, 2) := by decide +kernel
theorem dn10_74 : decode prog_12_method_1_code 74 = .ok (.putfield 38, 3) := by decide +kernel
theorem dn10_77 : decode prog_12_method_1_code 77 = .ok (.aload_n 0, 1) := by decide +kernel
theorem dn10_78 : decode prog_12_method_1_code 78 = .ok (.invokevirtual 41, 3) := by decide +kernel
theorem dn10_81 : decode prog_12_method_1_code 81 = .ok (.return_, 1) := by decide +kernel
set_option maxHeartbeats 4000000 in
set_option maxRecDepth 100000 in
theorem c_X10 (l : Launch) (D : va_G) (cI cZ cS : ClassId) (α : Nat → Nat) (ov : Value) (A : Nat → Prop) (h0 : Nat) (wr : va_W) (ho : ov.category = 1) (σT : hbM) (hT : hb_ev hbSH0 75 [.ref 0] (fun _ _ => 0) = some (none, σT)) : hn_New l D cI cZ cS α ov A ⟨"HandBook$Works", "<init>", "()V"⟩ prog_12_method_1_code 1 ({ frames := 30, cells := 12, slots := 3136, locals := 3000 }) [.ref h0] ((h0, .inr (10, [.null, .null, .null, .null, .null, .null, .null, .null, .int 0, .int 0, .int 0])) :: wr) (fun w1 => ∃ β : Nat → Nat, β 0 = h0 ∧ w1 = wr ++ hb_w β cI cZ cS σT hbSH0) 12 3136 := by
  refine hn_start 10 (by decide) rfl rfl (Nat.le_of_ble_eq_true rfl) (fun p e s m args below meth c ls C hin hr hlk hl => ?_)
  have hl : lv_has ls 1 [(0, .ref h0)] := hl
  refine hn_ald C dn10_0 rfl (lv_at hl 0 rfl) ?_
  refine hn_obj C (hb_wd_in (i := 121) (by decide +kernel)) hn_oi1 hn_oi2 hl.1 dn10_1 (Nat.le_of_ble_eq_true rfl) (Nat.le_of_ble_eq_true rfl) ?_
  refine hn_ald C dn10_4 rfl (lv_at hl 0 rfl) ?_
  refine hn_new C (ci := 2) (r := (RX2, TX2, 4)) (fs := [.null, .null, .int 0, .int 0]) (c' := 1) (s' := 4) rfl (hb_wd_in (i := 122) (by decide +kernel)) (hb_wd_in (i := 123) (by decide +kernel)) (hb_wd_in (i := 87) (by decide +kernel)) tyX2 tyX2_ok (by decide +kernel) dn10_5 rfl rfl ⟨Nat.le_of_ble_eq_true rfl, Nat.le_of_ble_eq_true rfl⟩ (fun q1 => ?_)
  refine hn_dup C dn10_8 ?_
  refine hn_callN C (i := 11) (n := 0) (rest := [.ref q1, .ref h0]) (c' := 3) (s' := 20) (c_X2 l D cI cZ cS α ov A q1  ((h0, .inr (10, [.null, .null, .null, .null, .null, .null, .null, .null, .int 0, .int 0, .int 0])) :: wr)) (hb_wd_in (i := 126) (by decide +kernel)) (hb_wd_in (i := 87) (by decide +kernel)) (hb_wd_in (i := 125) (by decide +kernel)) (by simp [hn_nest, hbOwn]) rfl (by decide +kernel) rfl rfl (Nat.le_of_ble_eq_true rfl) hl.1 ⟨rfl, rfl⟩ ⟨Nat.le_of_ble_eq_true rfl, Nat.le_of_ble_eq_true rfl⟩ dn10_9 rfl rfl ⟨Nat.le_of_ble_eq_true rfl, Nat.le_of_ble_eq_true rfl⟩ (fun w1 hw1 => ?_)
  obtain ⟨q2, q3, rfl⟩ := hw1
  refine hn_putF C hin 3 10 0 (r := (RX10, TX10, 11)) (ty := .object "HandBook$Lines") (ws' := (q3, .inl (cI, 4, .inl (fun _ => 0))) :: (q2, .inl (cI, 12, .inl (fun _ => 0))) :: (q1, .inr (2, [.ref q2, .ref q3, .int 0, .int 0])) :: (h0, .inr (10, [.ref q1, .null, .null, .null, .null, .null, .null, .null, .int 0, .int 0, .int 0])) :: wr) (by decide +kernel) rfl rfl rfl (by decide +kernel) rfl rfl rfl (Nat.le_of_ble_eq_true rfl) rfl dn10_12 ?_
  refine hn_ald C dn10_15 rfl (lv_at hl 0 rfl) ?_
  refine hn_new C (ci := 2) (r := (RX2, TX2, 4)) (fs := [.null, .null, .int 0, .int 0]) (c' := 4) (s' := 24) rfl (hb_wd_in (i := 122) (by decide +kernel)) (hb_wd_in (i := 123) (by decide +kernel)) (hb_wd_in (i := 87) (by decide +kernel)) tyX2 tyX2_ok (by decide +kernel) dn10_16 rfl rfl ⟨Nat.le_of_ble_eq_true rfl, Nat.le_of_ble_eq_true rfl⟩ (fun q4 => ?_)
  refine hn_dup C dn10_19 ?_
  refine hn_callN C (i := 11) (n := 0) (rest := [.ref q4, .ref h0]) (c' := 6) (s' := 40) (c_X2 l D cI cZ cS α ov A q4  ((q3, .inl (cI, 4, .inl (fun _ => 0))) :: (q2, .inl (cI, 12, .inl (fun _ => 0))) :: (q1, .inr (2, [.ref q2, .ref q3, .int 0, .int 0])) :: (h0, .inr (10, [.ref q1, .null, .null, .null, .null, .null, .null, .null, .int 0, .int 0, .int 0])) :: wr)) (hb_wd_in (i := 126) (by decide +kernel)) (hb_wd_in (i := 87) (by decide +kernel)) (hb_wd_in (i := 125) (by decide +kernel)) (by simp [hn_nest, hbOwn]) rfl (by decide +kernel) rfl rfl (Nat.le_of_ble_eq_true rfl) hl.1 ⟨rfl, rfl⟩ ⟨Nat.le_of_ble_eq_true rfl, Nat.le_of_ble_eq_true rfl⟩ dn10_20 rfl rfl ⟨Nat.le_of_ble_eq_true rfl, Nat.le_of_ble_eq_true rfl⟩ (fun w1 hw1 => ?_)
  obtain ⟨q5, q6, rfl⟩ := hw1
  refine hn_putF C hin 6 10 1 (r := (RX10, TX10, 11)) (ty := .object "HandBook$Lines") (ws' := (q6, .inl (cI, 4, .inl (fun _ => 0))) :: (q5, .inl (cI, 12, .inl (fun _ => 0))) :: (q4, .inr (2, [.ref q5, .ref q6, .int 0, .int 0])) :: (q3, .inl (cI, 4, .inl (fun _ => 0))) :: (q2, .inl (cI, 12, .inl (fun _ => 0))) :: (q1, .inr (2, [.ref q2, .ref q3, .int 0, .int 0])) :: (h0, .inr (10, [.ref q1, .ref q4, .null, .null, .null, .null, .null, .null, .int 0, .int 0, .int 0])) :: wr) (by decide +kernel) rfl rfl rfl (by decide +kernel) rfl rfl rfl (Nat.le_of_ble_eq_true rfl) rfl dn10_23 ?_
  refine hn_ald C dn10_26 rfl (lv_at hl 0 rfl) ?_
  refine hn_bip C (v := 8) dn10_27 (by decide +kernel) ?_
  refine hn_newi C (N := 8) (c' := 7) (s' := 48) dn10_29 (by decide +kernel) (by decide +kernel) (by decide +kernel) rfl rfl ⟨Nat.le_of_ble_eq_true rfl, Nat.le_of_ble_eq_true rfl⟩ (fun q7 => ?_)
  refine hn_putF C hin 7 10 2 (r := (RX10, TX10, 11)) (ty := .array .int) (ws' := (q7, .inl (cI, 8, .inl (fun _ => 0))) :: (q6, .inl (cI, 4, .inl (fun _ => 0))) :: (q5, .inl (cI, 12, .inl (fun _ => 0))) :: (q4, .inr (2, [.ref q5, .ref q6, .int 0, .int 0])) :: (q3, .inl (cI, 4, .inl (fun _ => 0))) :: (q2, .inl (cI, 12, .inl (fun _ => 0))) :: (q1, .inr (2, [.ref q2, .ref q3, .int 0, .int 0])) :: (h0, .inr (10, [.ref q1, .ref q4, .ref q7, .null, .null, .null, .null, .null, .int 0, .int 0, .int 0])) :: wr) (by decide +kernel) rfl rfl rfl (by decide +kernel) rfl rfl rfl (Nat.le_of_ble_eq_true rfl) rfl dn10_31 ?_
  refine hn_ald C dn10_34 rfl (lv_at hl 0 rfl) ?_
  refine hn_bip C (v := 8) dn10_35 (by decide +kernel) ?_
  refine hn_newi C (N := 8) (c' := 8) (s' := 56) dn10_37 (by decide +kernel) (by decide +kernel) (by decide +kernel) rfl rfl ⟨Nat.le_of_ble_eq_true rfl, Nat.le_of_ble_eq_true rfl⟩ (fun q8 => ?_)
  refine hn_putF C hin 8 10 3 (r := (RX10, TX10, 11)) (ty := .array .int) (ws' := (q8, .inl (cI, 8, .inl (fun _ => 0))) :: (q7, .inl (cI, 8, .inl (fun _ => 0))) :: (q6, .inl (cI, 4, .inl (fun _ => 0))) :: (q5, .inl (cI, 12, .inl (fun _ => 0))) :: (q4, .inr (2, [.ref q5, .ref q6, .int 0, .int 0])) :: (q3, .inl (cI, 4, .inl (fun _ => 0))) :: (q2, .inl (cI, 12, .inl (fun _ => 0))) :: (q1, .inr (2, [.ref q2, .ref q3, .int 0, .int 0])) :: (h0, .inr (10, [.ref q1, .ref q4, .ref q7, .ref q8, .null, .null, .null, .null, .int 0, .int 0, .int 0])) :: wr) (by decide +kernel) rfl rfl rfl (by decide +kernel) rfl rfl rfl (Nat.le_of_ble_eq_true rfl) rfl dn10_39 ?_
  refine hn_ald C dn10_42 rfl (lv_at hl 0 rfl) ?_
  refine hn_bip C (v := 8) dn10_43 (by decide +kernel) ?_
  refine hn_newi C (N := 8) (c' := 9) (s' := 64) dn10_45 (by decide +kernel) (by decide +kernel) (by decide +kernel) rfl rfl ⟨Nat.le_of_ble_eq_true rfl, Nat.le_of_ble_eq_true rfl⟩ (fun q9 => ?_)
  refine hn_putF C hin 9 10 4 (r := (RX10, TX10, 11)) (ty := .array .int) (ws' := (q9, .inl (cI, 8, .inl (fun _ => 0))) :: (q8, .inl (cI, 8, .inl (fun _ => 0))) :: (q7, .inl (cI, 8, .inl (fun _ => 0))) :: (q6, .inl (cI, 4, .inl (fun _ => 0))) :: (q5, .inl (cI, 12, .inl (fun _ => 0))) :: (q4, .inr (2, [.ref q5, .ref q6, .int 0, .int 0])) :: (q3, .inl (cI, 4, .inl (fun _ => 0))) :: (q2, .inl (cI, 12, .inl (fun _ => 0))) :: (q1, .inr (2, [.ref q2, .ref q3, .int 0, .int 0])) :: (h0, .inr (10, [.ref q1, .ref q4, .ref q7, .ref q8, .ref q9, .null, .null, .null, .int 0, .int 0, .int 0])) :: wr) (by decide +kernel) rfl rfl rfl (by decide +kernel) rfl rfl rfl (Nat.le_of_ble_eq_true rfl) rfl dn10_47 ?_
  refine hn_ald C dn10_50 rfl (lv_at hl 0 rfl) ?_
  refine hn_sip C (v := 1024) dn10_51 (by decide +kernel) ?_
  refine hn_newi C (N := 1024) (c' := 10) (s' := 1088) dn10_54 (by decide +kernel) (by decide +kernel) (by decide +kernel) rfl rfl ⟨Nat.le_of_ble_eq_true rfl, Nat.le_of_ble_eq_true rfl⟩ (fun q10 => ?_)
  refine hn_putF C hin 10 10 5 (r := (RX10, TX10, 11)) (ty := .array .int) (ws' := (q10, .inl (cI, 1024, .inl (fun _ => 0))) :: (q9, .inl (cI, 8, .inl (fun _ => 0))) :: (q8, .inl (cI, 8, .inl (fun _ => 0))) :: (q7, .inl (cI, 8, .inl (fun _ => 0))) :: (q6, .inl (cI, 4, .inl (fun _ => 0))) :: (q5, .inl (cI, 12, .inl (fun _ => 0))) :: (q4, .inr (2, [.ref q5, .ref q6, .int 0, .int 0])) :: (q3, .inl (cI, 4, .inl (fun _ => 0))) :: (q2, .inl (cI, 12, .inl (fun _ => 0))) :: (q1, .inr (2, [.ref q2, .ref q3, .int 0, .int 0])) :: (h0, .inr (10, [.ref q1, .ref q4, .ref q7, .ref q8, .ref q9, .ref q10, .null, .null, .int 0, .int 0, .int 0])) :: wr) (by decide +kernel) rfl rfl rfl (by decide +kernel) rfl rfl rfl (Nat.le_of_ble_eq_true rfl) rfl dn10_56 ?_
  refine hn_ald C dn10_59 rfl (lv_at hl 0 rfl) ?_
  refine hn_sip C (v := 1024) dn10_60 (by decide +kernel) ?_
  refine hn_newz C (N := 1024) (c' := 11) (s' := 2112) dn10_63 (by decide +kernel) (by decide +kernel) (by decide +kernel) rfl rfl ⟨Nat.le_of_ble_eq_true rfl, Nat.le_of_ble_eq_true rfl⟩ (fun q11 => ?_)
  refine hn_putF C hin 11 10 6 (r := (RX10, TX10, 11)) (ty := .array .boolean) (ws' := (q11, .inl (cZ, 1024, .inl (fun _ => 0))) :: (q10, .inl (cI, 1024, .inl (fun _ => 0))) :: (q9, .inl (cI, 8, .inl (fun _ => 0))) :: (q8, .inl (cI, 8, .inl (fun _ => 0))) :: (q7, .inl (cI, 8, .inl (fun _ => 0))) :: (q6, .inl (cI, 4, .inl (fun _ => 0))) :: (q5, .inl (cI, 12, .inl (fun _ => 0))) :: (q4, .inr (2, [.ref q5, .ref q6, .int 0, .int 0])) :: (q3, .inl (cI, 4, .inl (fun _ => 0))) :: (q2, .inl (cI, 12, .inl (fun _ => 0))) :: (q1, .inr (2, [.ref q2, .ref q3, .int 0, .int 0])) :: (h0, .inr (10, [.ref q1, .ref q4, .ref q7, .ref q8, .ref q9, .ref q10, .ref q11, .null, .int 0, .int 0, .int 0])) :: wr) (by decide +kernel) rfl rfl rfl (by decide +kernel) rfl rfl rfl (Nat.le_of_ble_eq_true rfl) rfl dn10_65 ?_
  refine hn_ald C dn10_68 rfl (lv_at hl 0 rfl) ?_
  refine hn_sip C (v := 1024) dn10_69 (by decide +kernel) ?_
  refine hn_newz C (N := 1024) (c' := 12) (s' := 3136) dn10_72 (by decide +kernel) (by decide +kernel) (by decide +kernel) rfl rfl ⟨Nat.le_of_ble_eq_true rfl, Nat.le_of_ble_eq_true rfl⟩ (fun q12 => ?_)
  refine hn_putF C hin 12 10 7 (r := (RX10, TX10, 11)) (ty := .array .boolean) (ws' := (q12, .inl (cZ, 1024, .inl (fun _ => 0))) :: (q11, .inl (cZ, 1024, .inl (fun _ => 0))) :: (q10, .inl (cI, 1024, .inl (fun _ => 0))) :: (q9, .inl (cI, 8, .inl (fun _ => 0))) :: (q8, .inl (cI, 8, .inl (fun _ => 0))) :: (q7, .inl (cI, 8, .inl (fun _ => 0))) :: (q6, .inl (cI, 4, .inl (fun _ => 0))) :: (q5, .inl (cI, 12, .inl (fun _ => 0))) :: (q4, .inr (2, [.ref q5, .ref q6, .int 0, .int 0])) :: (q3, .inl (cI, 4, .inl (fun _ => 0))) :: (q2, .inl (cI, 12, .inl (fun _ => 0))) :: (q1, .inr (2, [.ref q2, .ref q3, .int 0, .int 0])) :: (h0, .inr (10, [.ref q1, .ref q4, .ref q7, .ref q8, .ref q9, .ref q10, .ref q11, .ref q12, .int 0, .int 0, .int 0])) :: wr) (by decide +kernel) rfl rfl rfl (by decide +kernel) rfl rfl rfl (Nat.le_of_ble_eq_true rfl) rfl dn10_74 ?_
  refine hn_ald C dn10_77 rfl (lv_at hl 0 rfl) ?_
  refine hn_swap (F := [(q12, .inl (cZ, 1024, .inl (fun _ => 0))), (q11, .inl (cZ, 1024, .inl (fun _ => 0))), (q10, .inl (cI, 1024, .inl (fun _ => 0))), (q9, .inl (cI, 8, .inl (fun _ => 0))), (q8, .inl (cI, 8, .inl (fun _ => 0))), (q7, .inl (cI, 8, .inl (fun _ => 0))), (q6, .inl (cI, 4, .inl (fun _ => 0))), (q5, .inl (cI, 12, .inl (fun _ => 0))), (q4, .inr (2, [.ref q5, .ref q6, .int 0, .int 0])), (q3, .inl (cI, 4, .inl (fun _ => 0))), (q2, .inl (cI, 12, .inl (fun _ => 0))), (q1, .inr (2, [.ref q2, .ref q3, .int 0, .int 0])), (h0, .inr (10, [.ref q1, .ref q4, .ref q7, .ref q8, .ref q9, .ref q10, .ref q11, .ref q12, .int 0, .int 0, .int 0]))]) (F' := hb_w (fun c => [h0, q1, q2, q3, q4, q5, q6, q7, q8, q9, q10, q11, q12].getD c (α c)) cI cZ cS (fun _ _ => 0) hbSH0) [12, 11, 10, 9, 8, 7, 6, 5, 4, 3, 2, 1, 0] (by decide) rfl ?_
  refine hn_tell (α1 := (fun c => [h0, q1, q2, q3, q4, q5, q6, q7, q8, q9, q10, q11, q12].getD c (α c))) C ho rfl rfl hT (by decide +kernel) dn10_78 hl.1 ⟨by decide +kernel, by decide +kernel⟩ ⟨Nat.le_of_ble_eq_true rfl, Nat.le_of_ble_eq_true rfl⟩ ?_
  exact hn_ret C hr hlk dn10_81 ⟨_, rfl, rfl⟩
