/-! THE SMALL MACHINE IS TRUE TO THE MACHINE: branches, calls, ends; whole methods -/
def hb_rm (n : Nat) : Room := { frames := n, cells := 0, slots := 0, locals := 60 * n }
def hb_B (sh : List hbS) (α : Nat → Nat) (D : va_G) (cI cZ cS : ClassId) (ov : Value) (A : Nat → Prop) (σ : hbM) (U : State) : Prop :=
  va_P D hbCl (hb_w α cI cZ cS σ sh) U.heap ∧ va_K D hbCl (hb_tys cI cZ cS) U ∧ (∀ w ∈ hb_nest, va_Nw w U) ∧ hb_Z α ov A U U.heap
def hb_Qc (sh : List hbS) (α : Nat → Nat) (D : va_G) (cI cZ cS : ClassId) (ov : Value) (A : Nat → Prop) (r : Option Value) (σ' : hbM) : Array Value → State → Outcome → State → Prop := fun _ st oc t =>
  oc = .returned (r.map (hb_val α ov)) ∧ va_P D hbCl (hb_w α cI cZ cS σ' sh) t.heap ∧ va_F A st t
def hb_wsm (m : Nat) : List Cond := Cond.code (hb_mt m).1 (hb_mt m).2.1 (hb_mt m).2.2.1 (hb_mt m).2.2.2.1 :: hbTB
/-- method m, called with these arguments over this memory, returns r and leaves σ' -/
def hb_Ret (l : Launch) (sh : List hbS) (α : Nat → Nat) (D : va_G) (cI cZ cS : ClassId) (ov : Value) (A : Nat → Prop) (m : Nat) (as : List Value) (σ : hbM) (r : Option Value) (σ' : hbM) : Prop :=
  Met l (hb_mt m).1 (hb_wsm m) (hb_rm (hb_lv m)) (va_Pc (as.map (hb_val α ov)) (hb_B sh α D cI cZ cS ov A σ)) (hb_Qc sh α D cI cZ cS ov A r σ') 0 0 A
theorem hb_nest_form {w : Cond} (h : w ∈ hb_nest) : ∃ o i y hh, w = Cond.methodLinkNest o i y hh := by
  obtain ⟨q, -, rfl⟩ := List.mem_map.mp h
  exact ⟨_, _, _, _, rfl⟩
theorem hb_Z.moved {α : Nat → Nat} {ov : Value} {A : Nat → Prop} {s U : State} {H : Heap} (hW : s.WarmedH U.vm) (h : hb_Z α ov A s H) : hb_Z α ov A U H :=
  ⟨vk_R.warm hW h.1, h.2.1.moved hW.alike, h.2.2.1.moved hW.alike, h.2.2.2.moved hW.alike⟩
theorem hb_Z.kept {α : Nat → Nat} {ov : Value} {A : Nat → Prop} {U : State} {H H1 : Heap} (h : hb_Z α ov A U H) (hq : ∀ a : Nat, a < H.size → ¬ A a → H1[a]? = H[a]?) : hb_Z α ov A U H1 :=
  ⟨h.1, h.2.1.kept hq, h.2.2.1.kept hq, h.2.2.2.kept hq⟩
theorem hb_blind {sh : List hbS} {α : Nat → Nat} {D : va_G} {cI cZ cS : ClassId} {ov : Value} {A : Nat → Prop} {σ : hbM} {av : List Value} : FrameBlind (va_Pc av (hb_B sh α D cI cZ cS ov A σ)) := by
  intro a U g mk q
  obtain ⟨q0, qP, qK, qN, qZ⟩ := q
  refine ⟨q0, qP, va_K.moved (u := U) (U := U.calling g mk a) (Vm.Alike.refl U.vm) qK, fun w hw => ?_, ?_⟩
  · obtain ⟨o, i, y, hh, rfl⟩ := hb_nest_form hw
    exact va_Nw.same rfl (u := U) (U := U.calling g mk a) rfl (qN _ hw)
  · exact ⟨vk_R.same (u := U) (U := U.calling g mk a) rfl qZ.1, vk_S.moved (u := U) (U := U.calling g mk a) (Vm.Alike.refl U.vm) qZ.2.1, va_Z.moved (u := U) (U := U.calling g mk a) (Vm.Alike.refl U.vm) qZ.2.2.1, va_Z.moved (u := U) (U := U.calling g mk a) (Vm.Alike.refl U.vm) qZ.2.2.2⟩
theorem hb_arg_eq : ∀ (n : Nat) (acc stk as r : List Value), hb_arg n acc stk = some (as, r) → ∃ pre : List Value, stk = pre ++ r ∧ as = pre.reverse ++ acc ∧ pre.length = n
  | 0, acc, stk, as, r, h => by cases h; exact ⟨[], rfl, rfl, rfl⟩
  | n + 1, acc, [], as, r, h => by cases h
  | n + 1, acc, v :: stk, as, r, h => by
    obtain ⟨pre, h1, h2, h3⟩ := hb_arg_eq n (v :: acc) stk as r h
    exact ⟨v :: pre, by rw [h1]; rfl, by rw [h2]; simp, by simp [h3]⟩
theorem hb_arg_eq0 {n : Nat} {stk as r : List Value} (h : hb_arg n [] stk = some (as, r)) : stk = as.reverse ++ r ∧ as.length = n := by
  obtain ⟨pre, h1, h2, h3⟩ := hb_arg_eq n [] stk as r h
  rw [List.append_nil] at h2
  exact ⟨by rw [h2, List.reverse_reverse]; exact h1, by rw [h2, List.length_reverse]; exact h3⟩
theorem hb_sw_spec (x : Int32) (df : Nat) : ∀ (ts : List Nat) (lo : Int), -2147483648 ≤ lo → lo + (ts.length : Int) ≤ 2147483647 →
    ((x.toInt < lo ∨ lo + (ts.length : Int) ≤ x.toInt) → hb_sw x (Int32.ofInt lo) df ts = df) ∧ (lo ≤ x.toInt → x.toInt < lo + (ts.length : Int) → ts[(x.toInt - lo).toNat]? = some (hb_sw x (Int32.ofInt lo) df ts)) := by
  intro ts
  induction ts with
  | nil =>
    intro lo h1 h2
    refine ⟨fun _ => rfl, fun h3 h4 => ?_⟩
    simp at h4
    omega
  | cons t ts ih =>
    intro lo h1 h2
    simp only [List.length_cons, Int.natCast_add, Int.natCast_one] at h2 ⊢
    have hlo : (Int32.ofInt lo).toInt = lo := Int32.toInt_ofInt_of_le (by omega) (by omega)
    have e1 : Int32.ofInt lo + 1 = Int32.ofInt (lo + 1) := by
      rw [Int32.ofInt_add]; rfl
    obtain ⟨i1, i2⟩ := ih (lo + 1) (by omega) (by omega)
    simp only [hb_sw, e1]
    by_cases hx : x = Int32.ofInt lo
    · have hxl : x.toInt = lo := by rw [hx]; exact hlo
      rw [if_pos hx]
      refine ⟨fun h3 => by omega, fun _ _ => ?_⟩
      rw [hxl, Int.sub_self]
      rfl
    · have hxl : x.toInt ≠ lo := fun h3 => hx (by rw [← h3]; exact (Int32.ofInt_toInt x).symm)
      rw [if_neg hx]
      refine ⟨fun h3 => i1 (by omega), fun h3 h4 => ?_⟩
      have h5 := i2 (by omega) (by omega)
      rw [show (x.toInt - lo).toNat = (x.toInt - (lo + 1)).toNat + 1 by omega]
      exact h5
section
variable {p : Program} {l : Launch} {e : Env} {R : Room} {s : State} {m : MethodId} {args : Array Value} {below : List Frame} {meth : Method} {c : Code} {cells slots : Nat} {Q : State → Prop}
variable {sh : List hbS} {α : Nat → Nat} {D : va_G} {cI cZ cS : ClassId} {ov : Value} {A : Nat → Prop} {mi : Nat}
theorem hb_after {H : Heap} {locs : List Loc} {pc : Nat} {ls : Array Slot} {rest st0 : List Value} {r : Option Value} {σ1 : hbM} {a : Array Value} (hr : va_Run p l e R s m args below meth c H locs cells slots 0 0 (F0 m pc ls st0) rest (hb_Qc sh α D cI cZ cS ov A r σ1 a) A) (hS : va_S A s.heap H locs)
    (kk : ∀ (H1 : Heap) (locs1 : List Loc), va_P D hbCl (hb_w α cI cZ cS σ1 sh) H1 → va_S A s.heap H1 locs1 → W p l e R s m args below meth c H1 locs1 cells slots Q (F0 m (pc + 3) ls ((r.map (hb_val α ov)).toList ++ rest))) : W p l e R s m args below meth c H locs cells slots Q (F0 m pc ls st0) := by
  intro T hT X
  obtain ⟨v, st₀, t, T', L, h0, X', hL, e1, e2, ⟨hv, hp, hz, hk⟩, st⟩ := hr T hT X
  cases hv
  rw [h0] at hz hk
  obtain ⟨t2, a1, b1⟩ := kk T'.heap (locs ++ L) (by rw [e1]; exact hp)
    ⟨Nat.le_trans hS.1 (by rw [e1]; exact hz), fun q h1 h2 => by rw [e1, hk q (Nat.lt_of_lt_of_le h1 hS.1) h2]; exact hS.2.1 q h1 h2, fun q hq => by
      rcases List.mem_append.mp hq with h | h
      · exact hS.2.2 q h
      · exact hL q h⟩ T' rfl X'
  exact ⟨t2, st t2 a1, b1⟩
theorem hb_preB (C : hb_Cx p s m args c sh α D cI cZ cS ov A mi) {H : Heap} {locs : List Loc} {σ : hbM} (hP : va_P D hbCl (hb_w α cI cZ cS σ sh) H) (hS : va_S A s.heap H locs) (U : State) (hU : U.heap = H) (hW : s.WarmedH U.vm) : hb_B sh α D cI cZ cS ov A σ U := by
  obtain ⟨hX, hB, hml, hown, hts, hK, hN, hZ, hinj, hA, ho⟩ := C
  refine ⟨by rw [hU]; exact hP, va_K.moved hW.alike hK, fun w hw => ?_, ?_⟩
  · obtain ⟨o, i, y, hh, rfl⟩ := hb_nest_form hw
    exact va_Nw.warmM hW (hN _ hw)
  · rw [hU]
    exact (hZ.kept hS.2.1).moved hW
theorem hb_good_wsm {a : Nat} (ha : a < 208) : GoodIn hbTB (hb_wsm a) := by
  intro w hw
  rcases List.mem_cons.mp hw with rfl | h
  · exact hb_TB_good _ (hb_mt_words ha).1
  · exact hb_TB_good _ h
theorem hb_roomok {a : Nat} (ha : a < 208) (hl : hb_lv a < hb_lv mi) (hRf : hb_lv mi ≤ R.frames) (hRl : 60 * hb_lv mi ≤ R.locals) : (hb_rm (hb_lv a)).frames + 1 ≤ R.frames ∧ 8 + ((hb_mt a).2.2.1 + 11) + (hb_rm (hb_lv a)).locals ≤ R.locals := by
  have h1 := (hb_mt_y ha).2.2.2.2
  simp only [hb_rm]
  omega
set_option maxHeartbeats 4000000 in
theorem hb_callV (C : hb_Cx p s m args c sh α D cI cZ cS ov A mi) {pc i a d : Nat} {as rest loc : List Value} {v : Value} {r : Option Value} {σ σ1 : hbM} (hdg : decode (hb_mt mi).2.1 pc = .ok (.invokevirtual i, 3)) (ha : a < 208) (hn : as.length = (hb_mt a).2.2.2.2.2.1) (hst : (hb_mt a).2.2.2.2.2.2 = false) (hml : hb_mla (hb_mt mi).2.2.2.2.1 i a = true)
    (hd : (match d with
      | 2 => (hb_mt a).2.2.2.2.1 == 15
      | _ => decide ((hb_mt a).2.2.2.2.1 < 13)) = true) (hrc : hb_rcv sh d v (hb_mt a).2.2.2.2.1 = true) (hct : hb_cat rest ≤ 8) (hl : hb_lv a < hb_lv mi) (hRf : hb_lv mi ≤ R.frames) (hRl : 60 * hb_lv mi ≤ R.locals) (hcells : cells ≤ R.cells) (hslots : slots ≤ R.slots)
    (hR : hb_Ret l sh α D cI cZ cS ov A a (v :: as) σ r σ1) (k : hb_AW p l e R s m args below meth c cells slots Q sh α D cI cZ cS ov A mi (pc + 3, loc, r.toList ++ rest, σ1)) : hb_AW p l e R s m args below meth c cells slots Q sh α D cI cZ cS ov A mi (pc, loc, as.reverse ++ v :: rest, σ) := by
  intro H locs ls hP hS hlr
  dsimp only at hP hlr ⊢
  have hpre := fun U => hb_preB C hP hS U
  obtain ⟨hX, hB, hmL, hown, hts, hK, hN, hZ, hinj, hA, ho⟩ := C
  obtain ⟨hw1, hw2, -, hw4⟩ := hb_mt_words ha
  obtain ⟨hw5, hw6⟩ := hw4 hst
  obtain ⟨hy1, hy2, hy3, hy4, hy5⟩ := hb_mt_y ha
  have hrecv : ∃ c0, v = .ref c0 ∧ ∃ cell : Cell, H[α c0]? = some cell ∧ cell.vm.isStatics = false ∧ s.vm.findClass (hb_mt a).1.cls = some cell.cls := by
    cases v with
    | ref c0 =>
      refine ⟨c0, rfl, ?_⟩
      by_cases hd2 : d = 2
      · subst hd2
        simp only [hb_rcv, beq_iff_eq] at hrc hd
        subst hrc
        rw [hy1, hd]
        exact vk_recv (i := 0) (adK := fun _ => α 1000) hZ.2.1 (by decide) hS
      · have hd' : (hb_mt a).2.2.2.2.1 < 13 := by
          split at hd
          · exact absurd rfl hd2
          · simpa using hd
        have hrc' : ∃ fs, sh[c0]? = some (0, (hb_mt a).2.2.2.2.1, fs) := by
          simp only [hb_rcv] at hrc
          cases hs : sh[c0]? with
          | none => rw [hs] at hrc; cases hrc
          | some q =>
            rw [hs] at hrc
            split at hrc
            · rename_i cj fs he
              cases he
              have : cj = (hb_mt a).2.2.2.2.1 := by simpa using hrc
              subst this
              exact ⟨_, rfl⟩
            · cases hrc
        obtain ⟨fs, hs⟩ := hrc'
        obtain ⟨q, hq⟩ : ∃ q, hbCl[(hb_mt a).2.2.2.2.1]? = some q := ⟨_, List.getElem?_eq_getElem hd'⟩
        have hqn : q.1 = hbOwn (hb_mt a).2.2.2.2.1 := by
          have := hb_own_cl _ hd'
          rw [hq] at this
          exact Option.some.inj this
        have := va_recv hK hP hq (hb_w_at hs)
        rw [hqn] at this
        rw [hy1]
        exact this
    | int _ => cases hrc
    | long _ => cases hrc
    | float _ => cases hrc
    | double _ => cases hrc
    | null => cases hrc
    | retAddr _ => cases hrc
  obtain ⟨c0, rfl, hrecv⟩ := hrecv
  have hT : GoodIn hbTB (wsV (hbOwn (hb_mt mi).2.2.2.2.1) i (hb_mt a).1.cls (hb_mt a).1 (hb_wsm a)) := by
    intro w hw
    rcases List.mem_append.mp hw with h | h
    · simp only [List.mem_cons, List.not_mem_nil, or_false] at h
      rcases h with rfl | rfl | rfl | rfl
      · exact hb_TB_good _ (hb_mla_w hml ha)
      · exact hb_TB_good _ hw5
      · exact hb_TB_good _ hw6
      · exact hb_TB_good _ hw2
    · exact hb_good_wsm ha w h
  have hrun := va_runV (H := H) (locs := locs) (cells := cells) (slots := slots) (e := e) (R := R) (below := below) (meth := meth) (b := α c0) (As := as.map (hb_val α ov)) (rest := rest.map (hb_val α ov)) (g := F0 m pc ls ((as.reverse ++ .ref c0 :: rest).map (hb_val α ov)))
    ⟨hX, hB, hmL, hown, hts⟩ hR (cwV (hb_mt a).2.2.2.2.2.1 hts hT rfl rfl rfl ⟨rfl, hy3.1, hy3.2, hy4⟩ (hb_roomok ha hl hRf hRl)) ⟨hb_blind, hrecv, fun U hU hW => ⟨rfl, hpre U hU hW⟩⟩ rfl (by rw [List.length_map]; exact hn) hlr.2.1 (by simp [List.map_reverse, hb_val]) (lv_room (by rw [hb_cat_sum ho]; exact hct)) hdg ⟨hcells, hslots⟩
  refine hb_after hrun hS (fun H1 locs1 hP1 hS1 => ?_)
  have k1 := k H1 locs1 ls hP1 hS1 hlr
  dsimp only at k1
  rw [List.map_append] at k1
  cases r <;> exact k1
set_option maxHeartbeats 4000000 in
theorem hb_callS (C : hb_Cx p s m args c sh α D cI cZ cS ov A mi) {pc i a d : Nat} {as rest loc : List Value} {r : Option Value} {σ σ1 : hbM} (hdg : decode (hb_mt mi).2.1 pc = .ok (.invokestatic i, 3)) (ha : a < 208) (hn : as.length = (hb_mt a).2.2.2.2.2.1) (hst : (hb_mt a).2.2.2.2.2.2 = true)
    (hml : hb_mla (hb_mt mi).2.2.2.2.1 i a = true ∨ hb_mna (hb_mt mi).2.2.2.2.1 i a = true) (hct : hb_cat rest ≤ 8) (hl : hb_lv a < hb_lv mi) (hRf : hb_lv mi ≤ R.frames) (hRl : 60 * hb_lv mi ≤ R.locals) (hcells : cells ≤ R.cells) (hslots : slots ≤ R.slots)
    (hR : hb_Ret l sh α D cI cZ cS ov A a as σ r σ1) (k : hb_AW p l e R s m args below meth c cells slots Q sh α D cI cZ cS ov A mi (pc + 3, loc, r.toList ++ rest, σ1)) : hb_AW p l e R s m args below meth c cells slots Q sh α D cI cZ cS ov A mi (pc, loc, as.reverse ++ rest, σ) := by
  intro H locs ls hP hS hlr
  dsimp only at hP hlr ⊢
  have hpre := fun U => hb_preB C hP hS U
  obtain ⟨hX, hB, hmL, hown, hts, hK, hN, hZ, hinj, hA, ho⟩ := C
  obtain ⟨hw1, hw2, hw3, -⟩ := hb_mt_words ha
  have hw3 := hw3 hst
  obtain ⟨hy1, hy2, hy3, hy4, hy5⟩ := hb_mt_y ha
  have hrun : va_Run p l e R s m args below meth c H locs cells slots 0 0 (F0 m pc ls ((as.reverse ++ rest).map (hb_val α ov))) (rest.map (hb_val α ov)) (hb_Qc sh α D cI cZ cS ov A r σ1 (as.map (hb_val α ov)).toArray) A := by
    rcases hml with hml | hml
    · have hT : GoodIn hbTB (va_wsS (hbOwn (hb_mt mi).2.2.2.2.1) i (hb_mt a).1 (hb_wsm a)) := by
        intro w hw
        rcases List.mem_append.mp hw with h | h
        · simp only [List.mem_cons, List.not_mem_nil, or_false] at h
          rcases h with rfl | rfl | rfl
          · exact hb_TB_good _ (hb_mla_w hml ha)
          · exact hb_TB_good _ hw3
          · exact hb_TB_good _ hw2
        · exact hb_good_wsm ha w h
      exact va_runS ⟨hX, hB, hmL, hown, hts⟩ hR (va_cwS (hb_mt a).2.2.2.2.2.1 hts hT rfl rfl rfl ⟨hy3.1, hy3.2, hy4⟩ (hb_roomok ha hl hRf hRl)) ⟨hb_blind, fun U hU hW => ⟨rfl, hpre U hU hW⟩⟩ rfl (by rw [List.length_map]; exact hn) hlr.2.1 (by simp [List.map_reverse]) (lv_room (by rw [hb_cat_sum ho]; exact hct)) hdg ⟨hcells, hslots⟩
    · have hnw : va_Nw (.methodLinkNest (hbOwn (hb_mt mi).2.2.2.2.1) i (hb_mt a).1 "HandBook") s := by
        obtain ⟨q, hq, h1⟩ := List.any_eq_true.mp hml
        simp only [Bool.and_eq_true, beq_iff_eq] at h1
        obtain ⟨e1, e2, e3⟩ := h1
        have := hN _ (List.mem_map.mpr ⟨q, hq, rfl⟩)
        rw [e1, e2, e3] at this
        exact this
      exact va_runSN ⟨hX, hB, hmL, hown, hts⟩ hR ⟨va_cnB (hb_mt a).2.2.2.2.2.1 hts (hb_good_wsm ha) rfl rfl rfl hnw (hts _ hw2) ⟨hy3.1, hy3.2, hy4⟩ (hb_roomok ha hl hRf hRl), hts _ hw3, trivial⟩ ⟨hb_blind, fun U hU hW => ⟨rfl, hpre U hU hW⟩⟩ rfl (by rw [List.length_map]; exact hn) hlr.2.1 (by simp [List.map_reverse]) (lv_room (by rw [hb_cat_sum ho]; exact hct)) hdg ⟨hcells, hslots⟩
  refine hb_after hrun hS (fun H1 locs1 hP1 hS1 => ?_)
  have k1 := k H1 locs1 ls hP1 hS1 hlr
  dsimp only at k1
  rw [List.map_append] at k1
  cases r <;> exact k1
end
