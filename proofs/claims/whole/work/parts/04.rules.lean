/-! THE RULES OF THE SMALL MACHINE: equations of hb_run, a block, a branch, a call, an end -/
def hb_g {α : Type} : List Bool → Option α → Option α
  | [], x => x
  | b :: t, x => if b = true then hb_g t x else none
theorem hb_g_app {α : Type} (a b : List Bool) (x : Option α) : hb_g (a ++ b) x = hb_g a (hb_g b x) := by
  induction a with
  | nil => rfl
  | cons c t ih => simp only [List.cons_append, hb_g, ih]
theorem hb_g_all {α : Type} (gs : List Bool) (x : Option α) : hb_g gs x = if gs.all id = true then x else none := by
  induction gs with
  | nil => rfl
  | cons c t ih =>
    simp only [hb_g, ih, List.all_cons, id, Bool.and_eq_true]
    by_cases h : c = true <;> simp [h]
/-- the rows that hb_x reads -/
def hb_pl (r : hbR) : Bool := match r.1 with
  | .goto _ => false
  | .ifCond _ _ => false
  | .if_icmp _ _ => false
  | .tableswitch _ _ _ _ => false
  | .ireturn => false
  | .lreturn => false
  | .return_ => false
  | .invokevirtual _ => false
  | .invokestatic _ => r.2.2.2.2.1 == 3
  | _ => true
theorem hb_1_plain {sh : List hbS} {cal : Nat → List Value → hbM → Option hbO} {m pc : Nat} {loc stk : List Value} {σ : hbM} {r : hbR} (hf : hb_fetch m pc = some r) (hp : hb_pl r = true) :
    hb_1 sh cal m (pc, loc, stk, σ) = match hb_x sh r loc stk σ with
      | none => none
      | some (gs, loc', stk', σ') => if gs.all id = true then some (.inl (pc + r.2.1, loc', stk', σ')) else none := by
  obtain ⟨op, len, a, b, d, z, w⟩ := r
  simp only [hb_1, hf]
  cases op <;> first | rfl | (simp [hb_pl] at hp; done) | (simp only [hb_pl, beq_iff_eq] at hp; subst hp; rfl)
def hb_has (m : Nat) : Nat → List hbR → Bool
  | _, [] => true
  | pc, r :: t => hb_fe m pc r && hb_pl r && hb_has m (pc + r.2.1) t
def hb_xs (sh : List hbS) : List hbR → List Value → List Value → hbM → Option hbX
  | [], loc, stk, σ => some ([], loc, stk, σ)
  | r :: rs, loc, stk, σ => match hb_x sh r loc stk σ with
    | none => none
    | some (gs, loc', stk', σ') => match hb_xs sh rs loc' stk' σ' with
      | none => none
      | some (gs2, l2, s2, σ2) => some (gs ++ gs2, l2, s2, σ2)
def hb_end : Nat → List hbR → Nat
  | pc, [] => pc
  | pc, r :: t => hb_end (pc + r.2.1) t
theorem hb_blk {sh : List hbS} {m : Nat} : ∀ (rs : List hbR) {pc pe : Nat} {loc stk loc' stk' : List Value} {σ σ' : hbM} {gs : List Bool}, (hb_has m pc rs && (hb_end pc rs == pe)) = true → hb_xs sh rs loc stk σ = some (gs, loc', stk', σ') →
    hb_run sh m (pc, loc, stk, σ) = hb_g gs (hb_run sh m (pe, loc', stk', σ')) := by
  intro rs
  induction rs with
  | nil =>
    intro pc pe loc stk loc' stk' σ σ' gs h hx
    simp only [hb_xs, Option.some.injEq, Prod.mk.injEq] at hx
    obtain ⟨rfl, rfl, rfl, rfl⟩ := hx
    simp only [hb_has, hb_end, Bool.true_and, beq_iff_eq] at h
    subst h
    rfl
  | cons r rs ih =>
    intro pc pe loc stk loc' stk' σ σ' gs h hx
    simp only [hb_has, hb_end, Bool.and_eq_true] at h
    obtain ⟨⟨⟨hf0, hp⟩, hh⟩, he⟩ := h
    have hf := hb_fe_ok hf0
    simp only [hb_xs] at hx
    revert hx
    have h1 := hb_1_plain (sh := sh) (cal := hb_cal sh m) (loc := loc) (stk := stk) (σ := σ) hf hp
    revert h1
    cases hb_x sh r loc stk σ with
    | none => intro _ hx; cases hx
    | some q =>
      obtain ⟨g1, l1, s1, σ1⟩ := q
      intro h1 hx
      dsimp only at h1 hx
      revert hx
      cases h2 : hb_xs sh rs l1 s1 σ1 with
      | none => intro hx; cases hx
      | some q =>
        obtain ⟨g2, l2, s2, σ2⟩ := q
        intro hx
        simp only [Option.some.injEq, Prod.mk.injEq] at hx
        obtain ⟨rfl, rfl, rfl, rfl⟩ := hx
        have h3 := ih (pc := pc + r.2.1) (pe := pe) (by simp only [Bool.and_eq_true]; exact ⟨hh, he⟩) h2
        rw [hb_g_app, ← h3, hb_g_all]
        by_cases hg : g1.all id = true
        · rw [if_pos hg] at h1 ⊢
          exact hb_lim_l h1
        · rw [if_neg hg] at h1 ⊢
          exact hb_lim_n h1
section
variable {sh : List hbS} {m pc len a b d : Nat} {z : Int32} {w : Int64} {loc t rest stk : List Value} {σ : hbM}
theorem hb_r_goto {o : Int} (h : hb_fetch m pc = some (.goto o, len, a, b, d, z, w)) : hb_run sh m (pc, loc, stk, σ) = hb_run sh m (a, loc, stk, σ) :=
  hb_lim_l (by simp only [hb_1, h])
theorem hb_r_if {k : ClassFile.Cond} {o : Int} {x : Int32} (h : hb_fetch m pc = some (.ifCond k o, len, a, b, d, z, w)) : hb_run sh m (pc, loc, .int x :: t, σ) = if hb_cmp k x 0 = true then hb_run sh m (a, loc, t, σ) else hb_run sh m (pc + 3, loc, t, σ) := by
  have e := hb_lim_l (f := hb_1 sh (hb_cal sh m) m) (s := (pc, loc, .int x :: t, σ)) (s' := (if hb_cmp k x 0 = true then a else pc + 3, loc, t, σ)) (by simp only [hb_1, h])
  rw [show hb_run sh m (pc, loc, .int x :: t, σ) = _ from e]
  split <;> rfl
theorem hb_r_ic {k : ClassFile.Cond} {o : Int} {x y : Int32} (h : hb_fetch m pc = some (.if_icmp k o, len, a, b, d, z, w)) : hb_run sh m (pc, loc, .int y :: .int x :: t, σ) = if hb_cmp k x y = true then hb_run sh m (a, loc, t, σ) else hb_run sh m (pc + 3, loc, t, σ) := by
  have e := hb_lim_l (f := hb_1 sh (hb_cal sh m) m) (s := (pc, loc, .int y :: .int x :: t, σ)) (s' := (if hb_cmp k x y = true then a else pc + 3, loc, t, σ)) (by simp only [hb_1, h])
  rw [show hb_run sh m (pc, loc, .int y :: .int x :: t, σ) = _ from e]
  split <;> rfl
/-- a branch, with what is tested and both ways -/
theorem hb_br {k : ClassFile.Cond} {o : Int} {x y : Int32} {P : Prop} [Decidable P] {A B : Option hbO} (h : hb_fetch m pc = some (.if_icmp k o, len, a, b, d, z, w)) (hP : hb_cmp k x y = decide P) (hA : hb_run sh m (a, loc, t, σ) = A) (hB : hb_run sh m (pc + 3, loc, t, σ) = B) :
    hb_run sh m (pc, loc, .int y :: .int x :: t, σ) = if P then A else B := by
  rw [hb_r_ic h, hP, hA, hB]
  simp only [decide_eq_true_eq]
theorem hb_br0 {k : ClassFile.Cond} {o : Int} {x : Int32} {P : Prop} [Decidable P] {A B : Option hbO} (h : hb_fetch m pc = some (.ifCond k o, len, a, b, d, z, w)) (hP : hb_cmp k x 0 = decide P) (hA : hb_run sh m (a, loc, t, σ) = A) (hB : hb_run sh m (pc + 3, loc, t, σ) = B) :
    hb_run sh m (pc, loc, .int x :: t, σ) = if P then A else B := by
  rw [hb_r_if h, hP, hA, hB]
  simp only [decide_eq_true_eq]
/-- a branch whose test is known -/
theorem hb_brT {k : ClassFile.Cond} {o : Int} {x y : Int32} {A : Option hbO} (h : hb_fetch m pc = some (.if_icmp k o, len, a, b, d, z, w)) (hP : hb_cmp k x y = true) (hA : hb_run sh m (a, loc, t, σ) = A) : hb_run sh m (pc, loc, .int y :: .int x :: t, σ) = A := by
  rw [hb_r_ic h, if_pos hP, hA]
theorem hb_brF {k : ClassFile.Cond} {o : Int} {x y : Int32} {A : Option hbO} (h : hb_fetch m pc = some (.if_icmp k o, len, a, b, d, z, w)) (hP : hb_cmp k x y = false) (hA : hb_run sh m (pc + 3, loc, t, σ) = A) : hb_run sh m (pc, loc, .int y :: .int x :: t, σ) = A := by
  rw [hb_r_ic h, if_neg (by rw [hP]; decide), hA]
theorem hb_br0T {k : ClassFile.Cond} {o : Int} {x : Int32} {A : Option hbO} (h : hb_fetch m pc = some (.ifCond k o, len, a, b, d, z, w)) (hP : hb_cmp k x 0 = true) (hA : hb_run sh m (a, loc, t, σ) = A) : hb_run sh m (pc, loc, .int x :: t, σ) = A := by
  rw [hb_r_if h, if_pos hP, hA]
theorem hb_br0F {k : ClassFile.Cond} {o : Int} {x : Int32} {A : Option hbO} (h : hb_fetch m pc = some (.ifCond k o, len, a, b, d, z, w)) (hP : hb_cmp k x 0 = false) (hA : hb_run sh m (pc + 3, loc, t, σ) = A) : hb_run sh m (pc, loc, .int x :: t, σ) = A := by
  rw [hb_r_if h, if_neg (by rw [hP]; decide), hA]
theorem hb_r_sw {df lo hi : Int} {offs : Array Int} {x : Int32} {A : Option hbO} (h : hb_fetch m pc = some (.tableswitch df lo hi offs, len, a, b, d, z, w)) (hA : hb_run sh m (hb_sw x (Int32.ofInt lo) (hb_tgt pc df) (offs.toList.map (hb_tgt pc)), loc, t, σ) = A) : hb_run sh m (pc, loc, .int x :: t, σ) = A := by
  rw [← hA]
  exact hb_lim_l (by simp only [hb_1, h])
/-- one arm of a switch -/
theorem hb_swc {x z : Int32} {df q : Nat} {ts : List Nat} {A B : Option hbO} (hA : hb_run sh m (q, loc, t, σ) = A) (hB : hb_run sh m (hb_sw x (z + 1) df ts, loc, t, σ) = B) : hb_run sh m (hb_sw x z df (q :: ts), loc, t, σ) = if x = z then A else B := by
  simp only [hb_sw]
  rw [← hA, ← hB]
  split <;> rfl
theorem hb_swd {x z : Int32} {df : Nat} (q : Nat) {ts : List Nat} {A : Option hbO} (h : (hb_sw x z df ts) = q) (hA : hb_run sh m (q, loc, t, σ) = A) : hb_run sh m (hb_sw x z df ts, loc, t, σ) = A := by rw [h]; exact hA
theorem hb_r_iret {x : Int32} (h : hb_fetch m pc = some (.ireturn, len, a, b, 0, z, w)) : hb_run sh m (pc, loc, [.int x], σ) = some (some (.int x), σ) :=
  hb_lim_r (by simp only [hb_1, h])
theorem hb_r_zret {x : Int32} (h : hb_fetch m pc = some (.ireturn, len, a, b, 1, z, w)) : hb_run sh m (pc, loc, [.int x], σ) = hb_g [hb_01 x] (some (some (.int x), σ)) := by
  by_cases hx : hb_01 x = true
  · simp only [hb_g, if_pos hx]
    exact hb_lim_r (by simp only [hb_1, h, if_pos hx])
  · simp only [hb_g, if_neg hx]
    exact hb_lim_n (by simp only [hb_1, h, if_neg hx])
theorem hb_r_zret1 {x : Int32} (h : hb_fetch m pc = some (.ireturn, len, a, b, 1, z, w)) (hx : hb_01 x = true) : hb_run sh m (pc, loc, [.int x], σ) = some (some (.int x), σ) := by
  rw [hb_r_zret h]; simp only [hb_g, if_pos hx]
theorem hb_r_nret {x : Int32} {ty : FieldType} (h : hb_fetch m pc = some (.ireturn, len, a, b, 2, z, w)) (hty : (hb_mt m).2.2.2.1.getD .int = ty) (hx : narrow ty (.int x) = .int x) : hb_run sh m (pc, loc, [.int x], σ) = some (some (.int x), σ) :=
  hb_lim_r (by simp only [hb_1, h, hty, if_pos hx])
theorem hb_r_nif {x : Int32} {ty : FieldType} (h : hb_fetch m pc = some (.ireturn, len, a, b, 2, z, w)) (hty : (hb_mt m).2.2.2.1.getD .int = ty) : hb_run sh m (pc, loc, [.int x], σ) = if narrow ty (.int x) = .int x then some (some (.int x), σ) else none := by
  subst hty
  by_cases hx : narrow ((hb_mt m).2.2.2.1.getD .int) (.int x) = .int x
  · rw [if_pos hx]; exact hb_lim_r (by simp only [hb_1, h, if_pos hx])
  · rw [if_neg hx]; exact hb_lim_n (by simp only [hb_1, h, if_neg hx])
theorem hb_r_lret {x : Int64} (h : hb_fetch m pc = some (.lreturn, len, a, b, d, z, w)) : hb_run sh m (pc, loc, [.long x], σ) = some (some (.long x), σ) :=
  hb_lim_r (by simp only [hb_1, h])
theorem hb_r_vret (h : hb_fetch m pc = some (.return_, len, a, b, d, z, w)) : hb_run sh m (pc, loc, [], σ) = some (none, σ) :=
  hb_lim_r (by simp only [hb_1, h])
end
/-- what a method's ends give: 0 an int, 1 a long, 2 nothing -/
def hb_rk (m : Nat) : Nat := match (hb_mt m).2.2.2.1 with
  | none => 2
  | some .long => 1
  | _ => 0
def hb_rkok (m : Nat) : Bool := (hb_code m).all (fun q => match q.2.1 with
  | .ireturn => hb_rk m == 0
  | .lreturn => hb_rk m == 1
  | .return_ => hb_rk m == 2
  | _ => true)
theorem hb_lookup_mem {pc : Nat} {r : hbR} : ∀ {l : List (Nat × hbR)}, l.lookup pc = some r → (pc, r) ∈ l
  | [], h => by cases h
  | (k, v) :: l, h => by
    simp only [List.lookup] at h
    split at h
    · rename_i hk
      have hk' : pc = k := by simpa using hk
      cases h; subst hk'; exact List.mem_cons_self
    · exact List.mem_cons_of_mem _ (hb_lookup_mem h)
theorem hb_it_kind {sh : List hbS} {cal : Nat → List Value → hbM → Option hbO} {m : Nat} (hk : hb_rkok m = true) : ∀ (n : Nat) (st : hbT) (v : Option Value) (σ : hbM), hb_it (hb_1 sh cal m) n st = some (v, σ) →
    (hb_rk m = 0 → ∃ x, v = some (.int x)) ∧ (hb_rk m = 1 → ∃ x, v = some (.long x)) ∧ (hb_rk m = 2 → v = none) := by
  intro n
  induction n with
  | zero => intro st v σ h; simp [hb_it] at h
  | succ n ih =>
    intro st v σ h
    simp only [hb_it] at h
    revert h
    cases h1 : hb_1 sh cal m st with
    | none => intro h; cases h
    | some q =>
      cases q with
      | inl s' => intro h; exact ih s' v σ h
      | inr r =>
        intro h
        cases h
        obtain ⟨pc, loc, stk, σ0⟩ := st
        simp only [hb_1] at h1
        revert h1
        cases hf : hb_fetch m pc with
        | none => intro h1; cases h1
        | some r =>
          have hmem := List.all_eq_true.mp hk _ (hb_lookup_mem hf)
          obtain ⟨op, len, a, b, d, z, w⟩ := r
          intro h1
          cases op <;> simp only [reduceCtorEq] at h1 <;> revert h1 <;> (try simp only [hb_ret]) <;> (repeat' split) <;> intro h1 <;> (try (cases h1; done)) <;> (try (simp at h1; done)) <;>
            (cases h1; simp only [beq_iff_eq] at hmem; refine ⟨fun e => ?_, fun e => ?_, fun e => ?_⟩ <;> first | exact ⟨_, rfl⟩ | rfl | (rw [hmem] at e; cases e))
theorem hb_ev_kind {sh : List hbS} {m : Nat} {as : List Value} {σ σ' : hbM} {v : Option Value} (hk : hb_rkok m = true) (h : hb_ev sh m as σ = some (v, σ')) :
    (hb_rk m = 0 → ∃ x, v = some (.int x)) ∧ (hb_rk m = 1 → ∃ x, v = some (.long x)) ∧ (hb_rk m = 2 → v = none) := by
  rw [hb_ev_if] at h
  split at h
  · obtain ⟨n, hn⟩ := hb_lim_iff.mp h
    exact hb_it_kind hk n _ _ _ hn
  · cases h
/-- behind a call -/
def hb_ci (o : Option hbO) (k : Int32 → hbM → Option hbO) : Option hbO := match o with
  | some (some (.int x), σ) => k x σ
  | _ => none
def hb_cl (o : Option hbO) (k : Int64 → hbM → Option hbO) : Option hbO := match o with
  | some (some (.long x), σ) => k x σ
  | _ => none
def hb_cv (o : Option hbO) (k : hbM → Option hbO) : Option hbO := match o with
  | some (none, σ) => k σ
  | _ => none
theorem hb_ci_s (x : Int32) (σ : hbM) (k : Int32 → hbM → Option hbO) : hb_ci (some (some (.int x), σ)) k = k x σ := rfl
theorem hb_cl_s (x : Int64) (σ : hbM) (k : Int64 → hbM → Option hbO) : hb_cl (some (some (.long x), σ)) k = k x σ := rfl
theorem hb_cv_s (σ : hbM) (k : hbM → Option hbO) : hb_cv (some (none, σ)) k = k σ := rfl
/-- what a call needs of the tables -/
def hb_cok (m a rk : Nat) : Bool := decide (hb_lv a < hb_lv m) && hb_rkok a && (hb_rk a == rk)
section
variable {sh : List hbS} {m pc len a b d : Nat} {z : Int32} {w : Int64} {loc rest stk : List Value} {σ : hbM}
noncomputable def hb_goon (sh : List hbS) (m pc : Nat) (loc rest : List Value) (o : Option hbO) : Option hbO := match o with
    | none => none
    | some (v, σ) => hb_run sh m (pc + 3, loc, v.toList ++ rest, σ)
theorem hb_ret_run {st : hbT} (o : Option hbO) (h : hb_1 sh (hb_cal sh m) m st = hb_ret o pc loc rest) : hb_run sh m st = hb_goon sh m pc loc rest o := by
  cases o with
  | none => exact hb_lim_n h
  | some q => obtain ⟨v, σ'⟩ := q; exact hb_lim_l h
theorem hb_c_i {o : Option hbO} {k : Int32 → hbM → Option hbO} (h : hb_run sh m (pc, loc, stk, σ) = hb_goon sh m pc loc rest o) (ho : ∀ v σ', o = some (v, σ') → ∃ x, v = some (.int x)) (hk : ∀ x σ1, hb_run sh m (pc + 3, loc, .int x :: rest, σ1) = k x σ1) : hb_run sh m (pc, loc, stk, σ) = hb_ci o k := by
  rw [h]
  cases o with
  | none => rfl
  | some q =>
    obtain ⟨v, σ'⟩ := q
    obtain ⟨x, rfl⟩ := ho v σ' rfl
    exact hk x σ'
theorem hb_c_l {o : Option hbO} {k : Int64 → hbM → Option hbO} (h : hb_run sh m (pc, loc, stk, σ) = hb_goon sh m pc loc rest o) (ho : ∀ v σ', o = some (v, σ') → ∃ x, v = some (.long x)) (hk : ∀ x σ1, hb_run sh m (pc + 3, loc, .long x :: rest, σ1) = k x σ1) : hb_run sh m (pc, loc, stk, σ) = hb_cl o k := by
  rw [h]
  cases o with
  | none => rfl
  | some q =>
    obtain ⟨v, σ'⟩ := q
    obtain ⟨x, rfl⟩ := ho v σ' rfl
    exact hk x σ'
theorem hb_c_v {o : Option hbO} {k : hbM → Option hbO} (h : hb_run sh m (pc, loc, stk, σ) = hb_goon sh m pc loc rest o) (ho : ∀ v σ', o = some (v, σ') → v = none) (hk : ∀ σ1, hb_run sh m (pc + 3, loc, rest, σ1) = k σ1) : hb_run sh m (pc, loc, stk, σ) = hb_cv o k := by
  rw [h]
  cases o with
  | none => rfl
  | some q =>
    obtain ⟨v, σ'⟩ := q
    obtain rfl := ho v σ' rfl
    exact hk σ'
theorem hb_runV {i : Nat} {as : List Value} {v : Value} (h : hb_fetch m pc = some (.invokevirtual i, len, a, b, d, z, w)) (ha : hb_arg b [] stk = some (as, v :: rest)) (hr : hb_rcv sh d v (hb_mt a).2.2.2.2.1 = true) (hc : hb_cat rest ≤ 8) (hl : hb_lv a < hb_lv m) :
    hb_run sh m (pc, loc, stk, σ) = hb_goon sh m pc loc rest (hb_ev sh a (v :: as) σ) := by
  refine hb_ret_run _ ?_
  simp only [hb_1, h, ha, if_pos (And.intro hr hc), hb_cal, if_pos hl]
theorem hb_runS {i : Nat} {as : List Value} (h : hb_fetch m pc = some (.invokestatic i, len, a, b, d, z, w)) (hd : d ≠ 3) (ha : hb_arg b [] stk = some (as, rest)) (hc : hb_cat rest ≤ 8) (hl : hb_lv a < hb_lv m) :
    hb_run sh m (pc, loc, stk, σ) = hb_goon sh m pc loc rest (hb_ev sh a as σ) := by
  refine hb_ret_run _ ?_
  simp only [hb_1, h]
  simp only [ha, if_pos hc, hb_cal, if_pos hl]
theorem hb_Vi {i : Nat} {as : List Value} {v : Value} {k : Int32 → hbM → Option hbO} (h : hb_fetch m pc = some (.invokevirtual i, len, a, b, d, z, w)) (hk0 : hb_cok m a 0 = true) (ha : hb_arg b [] stk = some (as, v :: rest)) (hr : hb_rcv sh d v (hb_mt a).2.2.2.2.1 = true) (hc : hb_cat rest ≤ 8) (hk : ∀ x σ1, hb_run sh m (pc + 3, loc, .int x :: rest, σ1) = k x σ1) : hb_run sh m (pc, loc, stk, σ) = hb_ci (hb_ev sh a (v :: as) σ) k := by
  simp only [hb_cok, Bool.and_eq_true, decide_eq_true_eq, beq_iff_eq] at hk0
  exact hb_c_i (hb_runV h ha hr hc hk0.1.1) (fun v σ' e => (hb_ev_kind hk0.1.2 e).1 hk0.2) hk
theorem hb_Vv {i : Nat} {as : List Value} {v : Value} {k : hbM → Option hbO} (h : hb_fetch m pc = some (.invokevirtual i, len, a, b, d, z, w)) (hk0 : hb_cok m a 2 = true) (ha : hb_arg b [] stk = some (as, v :: rest)) (hr : hb_rcv sh d v (hb_mt a).2.2.2.2.1 = true) (hc : hb_cat rest ≤ 8) (hk : ∀ σ1, hb_run sh m (pc + 3, loc, rest, σ1) = k σ1) : hb_run sh m (pc, loc, stk, σ) = hb_cv (hb_ev sh a (v :: as) σ) k := by
  simp only [hb_cok, Bool.and_eq_true, decide_eq_true_eq, beq_iff_eq] at hk0
  exact hb_c_v (hb_runV h ha hr hc hk0.1.1) (fun v σ' e => (hb_ev_kind hk0.1.2 e).2.2 hk0.2) hk
theorem hb_Vl {i : Nat} {as : List Value} {v : Value} {k : Int64 → hbM → Option hbO} (h : hb_fetch m pc = some (.invokevirtual i, len, a, b, d, z, w)) (hk0 : hb_cok m a 1 = true) (ha : hb_arg b [] stk = some (as, v :: rest)) (hr : hb_rcv sh d v (hb_mt a).2.2.2.2.1 = true) (hc : hb_cat rest ≤ 8) (hk : ∀ x σ1, hb_run sh m (pc + 3, loc, .long x :: rest, σ1) = k x σ1) : hb_run sh m (pc, loc, stk, σ) = hb_cl (hb_ev sh a (v :: as) σ) k := by
  simp only [hb_cok, Bool.and_eq_true, decide_eq_true_eq, beq_iff_eq] at hk0
  exact hb_c_l (hb_runV h ha hr hc hk0.1.1) (fun v σ' e => (hb_ev_kind hk0.1.2 e).2.1 hk0.2) hk
theorem hb_Si {i : Nat} {as : List Value} {k : Int32 → hbM → Option hbO} (h : hb_fetch m pc = some (.invokestatic i, len, a, b, d, z, w)) (hd : d ≠ 3) (hk0 : hb_cok m a 0 = true) (ha : hb_arg b [] stk = some (as, rest)) (hc : hb_cat rest ≤ 8) (hk : ∀ x σ1, hb_run sh m (pc + 3, loc, .int x :: rest, σ1) = k x σ1) : hb_run sh m (pc, loc, stk, σ) = hb_ci (hb_ev sh a as σ) k := by
  simp only [hb_cok, Bool.and_eq_true, decide_eq_true_eq, beq_iff_eq] at hk0
  exact hb_c_i (hb_runS h hd ha hc hk0.1.1) (fun v σ' e => (hb_ev_kind hk0.1.2 e).1 hk0.2) hk
theorem hb_Sv {i : Nat} {as : List Value} {k : hbM → Option hbO} (h : hb_fetch m pc = some (.invokestatic i, len, a, b, d, z, w)) (hd : d ≠ 3) (hk0 : hb_cok m a 2 = true) (ha : hb_arg b [] stk = some (as, rest)) (hc : hb_cat rest ≤ 8) (hk : ∀ σ1, hb_run sh m (pc + 3, loc, rest, σ1) = k σ1) : hb_run sh m (pc, loc, stk, σ) = hb_cv (hb_ev sh a as σ) k := by
  simp only [hb_cok, Bool.and_eq_true, decide_eq_true_eq, beq_iff_eq] at hk0
  exact hb_c_v (hb_runS h hd ha hc hk0.1.1) (fun v σ' e => (hb_ev_kind hk0.1.2 e).2.2 hk0.2) hk
end
