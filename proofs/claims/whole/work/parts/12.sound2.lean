/-! a step, an end, a whole method -/
section
variable {p : Program} {l : Launch} {e : Env} {R : Room} {s : State} {m : MethodId} {args : Array Value} {below : List Frame} {meth : Method} {c : Code} {cells slots : Nat} {Q : State → Prop}
variable {sh : List hbS} {α : Nat → Nat} {D : va_G} {cI cZ cS : ClassId} {ov : Value} {A : Nat → Prop} {mi : Nat}
theorem hb_plain_inv {r : hbR} {pc : Nat} {loc stk : List Value} {σ : hbM} {q : hbT ⊕ hbO} {cal : Nat → List Value → hbM → Option hbO} (hf : hb_fetch mi pc = some r) (hp : hb_pl r = true) (h1 : hb_1 sh cal mi (pc, loc, stk, σ) = some q) : ∃ gs loc' stk' σ', hb_x sh r loc stk σ = some (gs, loc', stk', σ') ∧ gs.all id = true ∧ q = .inl (pc + r.2.1, loc', stk', σ') := by
  rw [hb_1_plain hf hp] at h1
  cases hx : hb_x sh r loc stk σ with
  | none => rw [hx] at h1; cases h1
  | some y =>
    obtain ⟨gs, loc', stk', σ'⟩ := y
    rw [hx] at h1
    dsimp only at h1
    split at h1
    · rename_i hg
      exact ⟨gs, loc', stk', σ', rfl, hg, (Option.some.inj h1).symm⟩
    · cases h1
set_option maxHeartbeats 4000000 in
theorem hb_s1 (C : hb_Cx p s m args c sh α D cI cZ cS ov A mi) {pc : Nat} {loc stk : List Value} {σ : hbM} {st' : hbT} (hlv : 1 ≤ hb_lv mi) (hRf : hb_lv mi ≤ R.frames) (hRl : 60 * hb_lv mi ≤ R.locals) (hcells : cells ≤ R.cells) (hslots : slots ≤ R.slots)
    (hcal : ∀ a as σ v σ', hb_lv a < hb_lv mi → hb_ev sh a as σ = some (v, σ') → hb_Ret l sh α D cI cZ cS ov A a as σ v σ')
    (h1 : hb_1 sh (hb_cal sh mi) mi (pc, loc, stk, σ) = some (.inl st')) (k : hb_AW p l e R s m args below meth c cells slots Q sh α D cI cZ cS ov A mi st') : hb_AW p l e R s m args below meth c cells slots Q sh α D cI cZ cS ov A mi (pc, loc, stk, σ) := by
  cases hf : hb_fetch mi pc with
  | none => simp only [hb_1, hf] at h1; cases h1
  | some r =>
    have hr := hb_rows_ok hf
    by_cases hp : hb_pl r = true
    · obtain ⟨gs, loc', stk', σ', hx, hg, e1⟩ := hb_plain_inv hf hp h1
      cases e1
      exact hb_sx C hr hx hg (by omega) (by omega) k
    · obtain ⟨op, len, a, b, d, z, w⟩ := r
      obtain ⟨hdg, hok⟩ := hr
      dsimp only at hdg hok
      simp only [hb_1, hf] at h1
      cases op with
      | goto o =>
        cases h1
        simp only [hb_opok, Bool.and_eq_true, beq_iff_eq, decide_eq_true_eq] at hok
        obtain ⟨rfl, ht⟩ := hok
        obtain ⟨hX, hB, -⟩ := C
        intro H locs ls hP hS hl
        exact lv_goto hX hB hdg ht (k H locs ls hP hS hl)
      | ifCond kc o =>
        simp only [hb_opok, Bool.and_eq_true, beq_iff_eq, decide_eq_true_eq] at hok
        obtain ⟨rfl, ht⟩ := hok
        obtain ⟨hX, hB, -⟩ := C
        dsimp only at h1
        split at h1
        · rename_i x t
          cases h1
          have kt : hb_cmp kc x 0 = true → hb_AW p l e R s m args below meth c cells slots Q sh α D cI cZ cS ov A mi (a, loc, t, σ) := fun h => by rw [if_pos h] at k; exact k
          have kf : ¬ hb_cmp kc x 0 = true → hb_AW p l e R s m args below meth c cells slots Q sh α D cI cZ cS ov A mi (pc + 3, loc, t, σ) := fun h => by rw [if_neg h] at k; exact k
          intro H locs ls hP hS hl
          cases kc with
          | eq => exact lv_if_eq hX hB hdg ht (fun hc => kt (decide_eq_true hc) H locs ls hP hS hl) (fun hc => kf (fun q => hc (of_decide_eq_true q)) H locs ls hP hS hl)
          | ne => exact lv_if_ne hX hB hdg ht (fun hc => kt (decide_eq_true hc) H locs ls hP hS hl) (fun hc => kf (fun q => (of_decide_eq_true q) hc) H locs ls hP hS hl)
          | lt => exact lv_if_lt hX hB hdg ht (fun hc => kt (decide_eq_true hc) H locs ls hP hS hl) (fun hc => kf (fun q => hc (of_decide_eq_true q)) H locs ls hP hS hl)
          | ge => exact lv_if_ge hX hB hdg ht (fun hc => kt (decide_eq_true hc) H locs ls hP hS hl) (fun hc => kf (fun q => hc (of_decide_eq_true q)) H locs ls hP hS hl)
          | gt => exact lv_if_gt hX hB hdg ht (fun hc => kt (decide_eq_true hc) H locs ls hP hS hl) (fun hc => kf (fun q => hc (of_decide_eq_true q)) H locs ls hP hS hl)
          | le => exact lv_if_le hX hB hdg ht (fun hc => kt (decide_eq_true hc) H locs ls hP hS hl) (fun hc => kf (fun q => hc (of_decide_eq_true q)) H locs ls hP hS hl)
        · cases h1
      | if_icmp kc o =>
        simp only [hb_opok, Bool.and_eq_true, beq_iff_eq, decide_eq_true_eq] at hok
        obtain ⟨rfl, ht⟩ := hok
        obtain ⟨hX, hB, -⟩ := C
        dsimp only at h1
        split at h1
        · rename_i y x t
          cases h1
          have kt : hb_cmp kc x y = true → hb_AW p l e R s m args below meth c cells slots Q sh α D cI cZ cS ov A mi (a, loc, t, σ) := fun h => by rw [if_pos h] at k; exact k
          have kf : ¬ hb_cmp kc x y = true → hb_AW p l e R s m args below meth c cells slots Q sh α D cI cZ cS ov A mi (pc + 3, loc, t, σ) := fun h => by rw [if_neg h] at k; exact k
          intro H locs ls hP hS hl
          cases kc with
          | eq => exact lv_icmp_eq hX hB hdg ht (fun hc => kt (decide_eq_true hc) H locs ls hP hS hl) (fun hc => kf (fun q => hc (of_decide_eq_true q)) H locs ls hP hS hl)
          | ne => exact lv_icmp_ne hX hB hdg ht (fun hc => kt (decide_eq_true hc) H locs ls hP hS hl) (fun hc => kf (fun q => (of_decide_eq_true q) hc) H locs ls hP hS hl)
          | lt => exact lv_icmp_lt hX hB hdg ht (fun hc => kt (decide_eq_true hc) H locs ls hP hS hl) (fun hc => kf (fun q => hc (of_decide_eq_true q)) H locs ls hP hS hl)
          | ge => exact lv_icmp_ge hX hB hdg ht (fun hc => kt (decide_eq_true hc) H locs ls hP hS hl) (fun hc => kf (fun q => hc (of_decide_eq_true q)) H locs ls hP hS hl)
          | gt => exact lv_icmp_gt hX hB hdg ht (fun hc => kt (decide_eq_true hc) H locs ls hP hS hl) (fun hc => kf (fun q => hc (of_decide_eq_true q)) H locs ls hP hS hl)
          | le => exact lv_icmp_le hX hB hdg ht (fun hc => kt (decide_eq_true hc) H locs ls hP hS hl) (fun hc => kf (fun q => hc (of_decide_eq_true q)) H locs ls hP hS hl)
        · cases h1
      | tableswitch df lo hi offs =>
        simp only [hb_opok, Bool.and_eq_true, decide_eq_true_eq, List.all_eq_true] at hok
        obtain ⟨ok1, ok2, ok3, ok4, ok5⟩ := hok
        obtain ⟨hX, hB, -⟩ := C
        dsimp only at h1
        split at h1
        · rename_i x t
          cases h1
          have hlen : ((offs.toList.map (hb_tgt pc)).length : Int) = (offs.size : Int) := by simp
          obtain ⟨s1, s2⟩ := hb_sw_spec x (hb_tgt pc df) (offs.toList.map (hb_tgt pc)) lo ok4 (by rw [hlen]; omega)
          rw [hlen] at s1 s2
          intro H locs ls hP hS hl
          have k1 := k H locs ls hP hS hl
          dsimp only at k1 ⊢
          by_cases hout : x.toInt < lo ∨ hi < x.toInt
          · rw [s1 (by omega)] at k1
            refine lv_tableOut hX hB hdg hout (tgt := hb_tgt pc df) ?_ k1
            unfold hb_tgt
            omega
          · have hin1 : lo ≤ x.toInt := by omega
            have s3 := s2 hin1 (by omega)
            rw [List.getElem?_map] at s3
            cases ho2 : offs.toList[(x.toInt - lo).toNat]? with
            | none => rw [ho2] at s3; cases s3
            | some off =>
              rw [ho2] at s3
              have s4 : hb_tgt pc off = hb_sw x (Int32.ofInt lo) (hb_tgt pc df) (offs.toList.map (hb_tgt pc)) := Option.some.inj s3
              rw [← s4] at k1
              have hoff : offs[(x.toInt - lo).toNat]? = some off := by rw [← ho2]; simp
              have hnn := ok2 off (List.mem_of_getElem? ho2)
              refine lv_tableIn hX hB hdg (by omega) (by omega) hoff (tgt := hb_tgt pc off) ?_ k1
              unfold hb_tgt
              omega
        · cases h1
      | invokevirtual i =>
        simp only [hb_opok, Bool.and_eq_true, beq_iff_eq, decide_eq_true_eq, Bool.not_eq_true'] at hok
        obtain ⟨rfl, ha, hb0, hst, hml, hd⟩ := hok
        dsimp only at h1
        split at h1
        · rename_i as v rest harg
          split at h1
          · rename_i hc
            obtain ⟨hs1, hs2⟩ := hb_arg_eq0 harg
            subst hs1
            cases hcv : hb_cal sh mi a (v :: as) σ with
            | none => rw [hcv] at h1; cases h1
            | some q =>
              obtain ⟨r, σ1⟩ := q
              rw [hcv] at h1
              cases h1
              unfold hb_cal at hcv
              split at hcv
              · rename_i hl
                exact hb_callV C hdg ha (hs2.trans hb0) hst hml hd hc.1 hc.2 hl hRf hRl hcells hslots (hcal a _ σ r σ1 hl hcv) k
              · cases hcv
          · cases h1
        · cases h1
      | invokestatic i =>
        have hd3 : d ≠ 3 := fun h => hp (by subst h; rfl)
        simp only [hb_opok, Bool.and_eq_true, beq_iff_eq] at hok
        obtain ⟨rfl, hok⟩ := hok
        have hok' : a < 208 ∧ b = (hb_mt a).2.2.2.2.2.1 ∧ (hb_mt a).2.2.2.2.2.2 = true ∧ (hb_mla (hb_mt mi).2.2.2.2.1 i a = true ∨ hb_mna (hb_mt mi).2.2.2.2.1 i a = true) := by
          split at hok
          · exact absurd rfl hd3
          · simp only [Bool.and_eq_true, beq_iff_eq, decide_eq_true_eq] at hok
            exact ⟨by omega, hok.2.1, hok.2.2.1, Or.inr hok.2.2.2⟩
          · simp only [Bool.and_eq_true, beq_iff_eq, decide_eq_true_eq] at hok
            exact ⟨hok.1, hok.2.1, hok.2.2.1, Or.inl hok.2.2.2⟩
        obtain ⟨ha, hb0, hst, hml⟩ := hok'
        dsimp only at h1
        split at h1
        · exact absurd rfl hd3
        · split at h1
          · rename_i as rest harg
            split at h1
            · rename_i hc
              obtain ⟨hs1, hs2⟩ := hb_arg_eq0 harg
              subst hs1
              cases hcv : hb_cal sh mi a as σ with
              | none => rw [hcv] at h1; cases h1
              | some q =>
                obtain ⟨r, σ1⟩ := q
                rw [hcv] at h1
                cases h1
                unfold hb_cal at hcv
                split at hcv
                · rename_i hl
                  exact hb_callS (d := d) C hdg ha (hs2.trans hb0) hst hml hc hl hRf hRl hcells hslots (hcal a _ σ r σ1 hl hcv) k
                · cases hcv
            · cases h1
          · cases h1
      | ireturn =>
        dsimp only at h1
        revert h1
        (repeat' split) <;> intro h1 <;> cases h1
      | lreturn =>
        dsimp only at h1
        revert h1
        (repeat' split) <;> intro h1 <;> cases h1
      | return_ =>
        dsimp only at h1
        revert h1
        (repeat' split) <;> intro h1 <;> cases h1
      | _ => exact absurd rfl hp
set_option maxHeartbeats 4000000 in
/-- an end -/
theorem hb_s2 (C : hb_Cx p s m args c sh α D cI cZ cS ov A mi) (hlocks : meth.locks = false) (hret : meth.sig.returnType = (hb_mt mi).2.2.2.1) {pc : Nat} {loc stk : List Value} {σ σ' : hbM} {v : Option Value} {cal : Nat → List Value → hbM → Option hbO}
    (h1 : hb_1 sh cal mi (pc, loc, stk, σ) = some (.inr (v, σ'))) : hb_AW p l e R s m args below meth c cells slots (MQ below (hb_Qc sh α D cI cZ cS ov A v σ') args s cells slots A) sh α D cI cZ cS ov A mi (pc, loc, stk, σ) := by
  cases hf : hb_fetch mi pc with
  | none => simp only [hb_1, hf] at h1; cases h1
  | some r =>
    have hr := hb_rows_ok hf
    by_cases hp : hb_pl r = true
    · obtain ⟨gs, loc', stk', σ', hx, hg, e1⟩ := hb_plain_inv hf hp h1
      cases e1
    · obtain ⟨op, len, a, b, d, z, w⟩ := r
      obtain ⟨hdg, hok⟩ := hr
      dsimp only at hdg hok
      simp only [hb_1, hf] at h1
      obtain ⟨hX, hB, -⟩ := C
      cases op with
      | ireturn =>
        simp only [hb_opok, Bool.and_eq_true, beq_iff_eq] at hok
        obtain ⟨rfl, hok⟩ := hok
        dsimp only at h1
        split at h1
        · rename_i x
          have key : v = some (.int x) ∧ σ' = σ ∧ ∃ ty, meth.sig.returnType = some ty ∧ narrow ty (.int x) = .int x := by
            split at h1
            · cases h1
              have hok : (hb_mt mi).2.2.2.1 = some .int := by simpa using hok
              exact ⟨rfl, rfl, .int, by rw [hret]; exact hok, rfl⟩
            · split at h1
              · rename_i hx
                cases h1
                have hok : (hb_mt mi).2.2.2.1 = some .boolean := by simpa using hok
                exact ⟨rfl, rfl, .boolean, by rw [hret]; exact hok, (hb_01_nar hx).1⟩
              · cases h1
            · split at h1
              · rename_i hx
                cases h1
                rename_i n0 n1
                obtain ⟨ty, hty⟩ : ∃ ty, (hb_mt mi).2.2.2.1 = some ty := by
                  cases hq : (hb_mt mi).2.2.2.1 with
                  | some ty => exact ⟨ty, rfl⟩
                  | none =>
                    rw [hq] at hok
                    split at hok
                    · exact absurd rfl n0
                    · exact absurd rfl n1
                    · cases hok
                rw [hty] at hx
                exact ⟨rfl, rfl, ty, by rw [hret]; exact hty, hx⟩
              · cases h1
          obtain ⟨rfl, rfl, ty, hty, hnr⟩ := key
          intro H locs ls hP hS hl
          exact W.zret hX hB hty hnr (fun t ht hW => ⟨rfl, by rw [ht]; exact hP, hS.F ht⟩) hS.2.2 hdg hlocks
        · cases h1
      | lreturn =>
        simp only [hb_opok, Bool.and_eq_true, beq_iff_eq, decide_eq_true_eq] at hok
        obtain ⟨rfl, hok⟩ := hok
        dsimp only at h1
        split at h1
        · cases h1
          intro H locs ls hP hS hl
          exact W.lret hX hB (by rw [hret]; exact hok) (fun t ht hW => ⟨rfl, by rw [ht]; exact hP, hS.F ht⟩) hS.2.2 hdg hlocks
        · cases h1
      | return_ =>
        simp only [hb_opok, Bool.and_eq_true, beq_iff_eq, decide_eq_true_eq] at hok
        obtain ⟨rfl, hok⟩ := hok
        dsimp only at h1
        split at h1
        · cases h1
          intro H locs ls hP hS hl
          exact W.vret hX hB (by rw [hret]; exact hok) (fun t ht hW => ⟨rfl, by rw [ht]; exact hP, hS.F ht⟩) hS.2.2 hdg hlocks
        · cases h1
      | goto o => cases h1
      | ifCond kc o =>
        dsimp only at h1
        revert h1
        (repeat' split) <;> intro h1 <;> cases h1
      | if_icmp kc o =>
        dsimp only at h1
        revert h1
        (repeat' split) <;> intro h1 <;> cases h1
      | tableswitch df lo hi offs =>
        dsimp only at h1
        revert h1
        (repeat' split) <;> intro h1 <;> cases h1
      | invokevirtual i =>
        dsimp only at h1
        revert h1
        simp only [hb_ret]
        (repeat' split) <;> intro h1 <;> cases h1
      | invokestatic i =>
        dsimp only at h1
        revert h1
        simp only [hb_ret]
        (repeat' split) <;> intro h1 <;> cases h1
      | _ => exact absurd rfl hp
theorem hb_run_AW (C : hb_Cx p s m args c sh α D cI cZ cS ov A mi) (hlv : 1 ≤ hb_lv mi) (hRf : hb_lv mi ≤ R.frames) (hRl : 60 * hb_lv mi ≤ R.locals) (hcells : cells ≤ R.cells) (hslots : slots ≤ R.slots)
    (hcal : ∀ a as σ v σ', hb_lv a < hb_lv mi → hb_ev sh a as σ = some (v, σ') → hb_Ret l sh α D cI cZ cS ov A a as σ v σ')
    (hlocks : meth.locks = false) (hret : meth.sig.returnType = (hb_mt mi).2.2.2.1) {st : hbT} {σ' : hbM} {v : Option Value} (h : hb_run sh mi st = some (v, σ')) : hb_AW p l e R s m args below meth c cells slots (MQ below (hb_Qc sh α D cI cZ cS ov A v σ') args s cells slots A) sh α D cI cZ cS ov A mi st := by
  obtain ⟨n, hn⟩ := hb_lim_iff.mp h
  clear h
  induction n generalizing st with
  | zero => simp [hb_it] at hn
  | succ n ih =>
    simp only [hb_it] at hn
    obtain ⟨pc, loc, stk, σ⟩ := st
    cases h1 : hb_1 sh (hb_cal sh mi) mi (pc, loc, stk, σ) with
    | none => rw [h1] at hn; cases hn
    | some q =>
      rw [h1] at hn
      cases q with
      | inl st' => exact hb_s1 C hlv hRf hRl hcells hslots hcal h1 (ih hn)
      | inr r =>
        cases hn
        exact hb_s2 C hlocks hret h1
end
/-- THE SMALL MACHINE'S ANSWER IS THE MACHINE'S -/
theorem hb_sound {l : Launch} {sh : List hbS} {α : Nat → Nat} {D : va_G} {cI cZ cS : ClassId} {ov : Value} {A : Nat → Prop} (hinj : hb_inj α sh.length) (hA : ∀ c, c < sh.length → A (α c)) (ho : ov.category = 1) (hall : ∀ m, 1 ≤ hb_lv m → m < 208) :
    ∀ (n m : Nat) (as : List Value) (σ : hbM) (v : Option Value) (σ' : hbM), hb_lv m < n → 1 ≤ hb_lv m → hb_ev sh m as σ = some (v, σ') → hb_Ret l sh α D cI cZ cS ov A m as σ v σ' := by
  intro n
  induction n with
  | zero => intro m as σ v σ' h; omega
  | succ n ih =>
    intro m as σ v σ' hlt hlv hev
    rw [hb_ev_if] at hev
    split at hev
    · rename_i hlen
      have hm := hall m hlv
      obtain ⟨hy1, hy2, hy3, hy4, hy5⟩ := hb_mt_y hm
      refine va_MetF (cc := (hb_mt m).2.1) (maxL := (hb_mt m).2.2.1) (ret := (hb_mt m).2.2.2.1) hy2 rfl ?_
      intro p e s mm args below meth c s₁ B hml hv
      obtain ⟨rfl, hP, hK, hN, hZ⟩ := hv
      have hts : ∀ w ∈ hbTB, w.before (as.map (hb_val α ov)).toArray s = true := fun w hw => atoms_spec (ws := hb_wsm m) B.pre w (List.mem_cons_of_mem _ hw)
      have hown : s.vm.findClass (hbOwn (hb_mt m).2.2.2.2.1) = some mm.cls := by rw [← hy1]; exact findClass_of_methodNamed B.named
      have C : hb_Cx p s mm (as.map (hb_val α ov)).toArray c sh α D cI cZ cS ov A m := ⟨B.exec, B.bytes, hml, hown, hts, hK, hN, hZ, hinj, hA, ho⟩
      rw [lg_entry_eq]
      have hcal : ∀ a as σ v σ', hb_lv a < hb_lv m → hb_ev sh a as σ = some (v, σ') → hb_Ret l sh α D cI cZ cS ov A a as σ v σ' := by
        intro a as σ v σ' h1 h2
        by_cases h0 : 1 ≤ hb_lv a
        · exact ih a as σ v σ' (by omega) h0 h2
        · exfalso
          have hz : hb_code a = [] := by
            by_cases ha : a < 208
            · have : (List.range 208).all (fun a => decide (1 ≤ hb_lv a)) = true := by decide +kernel
              have := List.all_eq_true.mp this a (List.mem_range.mpr ha)
              simp only [decide_eq_true_eq] at this
              exact absurd this h0
            · have hl : hbKs.length = 208 := by decide +kernel
              unfold hb_code
              rw [List.getD_eq_getElem?_getD, List.getElem?_eq_none (by omega)]
              rfl
          rw [hb_ev_if] at h2
          split at h2
          · rw [show hb_run sh a (0, hb_start a as, [], σ) = none from hb_lim_n (by simp only [hb_1, hb_fetch, hz, List.lookup])] at h2
            cases h2
          · cases h2
      exact hb_run_AW (R := (headSpec (hb_wsm m) (hb_rm (hb_lv m))).room) C hlv (Nat.le_refl _) (Nat.le_refl _) (Nat.le_refl 0) (Nat.le_refl 0) hcal B.notSynchronized B.returns hev s.heap [] _ hP va_S.rf (hb_entry ho hlen)
    · cases hev
