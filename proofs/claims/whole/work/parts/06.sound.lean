/-! THE SMALL MACHINE AND THE MACHINE: values, cells, locals -/
def hb_val (α : Nat → Nat) (ov : Value) : Value → Value
  | .ref k => .ref (α k)
  | .retAddr _ => ov
  | v => v
theorem hb_val_cat {α : Nat → Nat} {ov : Value} (ho : ov.category = 1) (v : Value) : (hb_val α ov v).category = v.category := by
  cases v <;> first | rfl | exact ho
theorem hb_cat_sum {α : Nat → Nat} {ov : Value} (ho : ov.category = 1) : ∀ l : List Value, ((l.map (hb_val α ov)).map fun v => v.category).sum = hb_cat l
  | [] => rfl
  | v :: t => by
    have ih := hb_cat_sum (α := α) ho t
    simp only [List.map_cons, List.sum_cons, hb_val_cat ho]
    rw [ih]
    cases v <;> rfl
def hb_fv (α : Nat → Nat) (f : Nat → Int32) (j : Nat) : Option Nat → Value
  | none => .int (f j)
  | some k => .ref (α k)
def hb_fs (α : Nat → Nat) (f : Nat → Int32) (l : List (Option Nat)) : List Value := l.mapIdx (hb_fv α f)
theorem hb_fs_get (α : Nat → Nat) (f : Nat → Int32) (l : List (Option Nat)) (i : Nat) : (hb_fs α f l)[i]? = (l[i]?).map (hb_fv α f i) := by
  simp [hb_fs, List.getElem?_mapIdx]
theorem hb_fs_len (α : Nat → Nat) (f : Nat → Int32) (l : List (Option Nat)) : (hb_fs α f l).length = l.length := by simp [hb_fs]
theorem hb_fs_set {α : Nat → Nat} {f : Nat → Int32} {l : List (Option Nat)} {i : Nat} {x : Int32} (hi : l[i]? = some none) : (hb_fs α f l).set i (.int x) = hb_fs α (upd f i x) l := by
  apply List.ext_getElem?
  intro k
  have hlt : i < l.length := (List.getElem?_eq_some_iff.mp hi).1
  rw [hb_fs_get]
  by_cases hk : i = k
  · subst hk
    rw [List.getElem?_set_self (by rw [hb_fs_len]; exact hlt), hi]
    simp [hb_fv, upd]
  · rw [List.getElem?_set_ne hk, hb_fs_get]
    cases l[k]? with
    | none => rfl
    | some o => cases o <;> simp [hb_fv, upd, Ne.symm hk]
def hb_e (α : Nat → Nat) (cI cZ cS : ClassId) (f : Nat → Int32) (s : hbS) : va_E := match s with
  | (0, ci, fs) => .inr (ci, hb_fs α f fs)
  | (1, n, _) => .inl (cI, n, .inl f)
  | (2, n, _) => .inl (cZ, n, .inl f)
  | (_, n, fs) => .inl (cS, n, .inr (.inr (.inr (.inr (fun i => ((fs[i]?).getD none).map α)))))
def hb_w (α : Nat → Nat) (cI cZ cS : ClassId) (σ : hbM) (sh : List hbS) : va_W := sh.mapIdx (fun c s => (α c, hb_e α cI cZ cS (σ c) s))
theorem hb_w_get {α : Nat → Nat} {cI cZ cS : ClassId} {σ : hbM} {sh : List hbS} (c : Nat) : (hb_w α cI cZ cS σ sh)[c]? = (sh[c]?).map (fun s => (α c, hb_e α cI cZ cS (σ c) s)) := by
  simp [hb_w, List.getElem?_mapIdx]
theorem hb_w_at {α : Nat → Nat} {cI cZ cS : ClassId} {σ : hbM} {sh : List hbS} {c : Nat} {s : hbS} (h : sh[c]? = some s) : (hb_w α cI cZ cS σ sh)[c]? = some (α c, hb_e α cI cZ cS (σ c) s) := by
  rw [hb_w_get, h]; rfl
theorem hb_w_set {α : Nat → Nat} {cI cZ cS : ClassId} {σ σ' : hbM} {sh : List hbS} {c : Nat} {s : hbS} {en : va_E} (h : sh[c]? = some s) (he : en = hb_e α cI cZ cS (σ' c) s) (ho : ∀ c', c' ≠ c → σ' c' = σ c') : (hb_w α cI cZ cS σ sh).set c (α c, en) = hb_w α cI cZ cS σ' sh := by
  apply List.ext_getElem?
  intro k
  have hlt : c < (hb_w α cI cZ cS σ sh).length := (List.getElem?_eq_some_iff.mp (hb_w_at (σ := σ) h)).1
  by_cases hk : c = k
  · subst hk
    rw [List.getElem?_set_self hlt, hb_w_at h, he]
  · rw [List.getElem?_set_ne hk, hb_w_get, hb_w_get, ho k (Ne.symm hk)]
theorem hb_up_at (σ : hbM) (c i : Nat) (v : Int32) : hb_up σ c i v c = upd (σ c) i v := by simp [hb_up]
theorem hb_up_ne (σ : hbM) {c c' : Nat} (i : Nat) (v : Int32) (h : c' ≠ c) : hb_up σ c i v c' = σ c' := by simp [hb_up, h]
def hb_inj (α : Nat → Nat) (n : Nat) : Prop := ∀ i j, i < n → j < n → α i = α j → i = j
theorem hb_w_D {α : Nat → Nat} {cI cZ cS : ClassId} {σ : hbM} {sh : List hbS} {A : Nat → Prop} (hi : hb_inj α sh.length) (hA : ∀ c, c < sh.length → A (α c)) : va_D A (hb_w α cI cZ cS σ sh) := by
  have key : ∀ (i : Nat) (p : Nat × va_E), (hb_w α cI cZ cS σ sh)[i]? = some p → i < sh.length ∧ p.1 = α i := by
    intro i p h
    rw [hb_w_get] at h
    cases hs : sh[i]? with
    | none => rw [hs] at h; cases h
    | some s =>
      rw [hs] at h
      cases h
      exact ⟨(List.getElem?_eq_some_iff.mp hs).1, rfl⟩
  refine ⟨fun i j p q h1 h2 e => ?_, fun k q h => ?_⟩
  · obtain ⟨a1, a2⟩ := key i p h1
    obtain ⟨b1, b2⟩ := key j q h2
    exact hi i j a1 b1 (by rw [← a2, ← b2, e])
  · obtain ⟨a1, a2⟩ := key k q h
    rw [a2]; exact hA k a1
/-! the locals -/
def hb_pr1 (α : Nat → Nat) (ov : Value) (i : Nat) (o : Option Value) : Option (Nat × Value) := match o with
  | none => none
  | some v => if v = Value.null then none else some (i, hb_val α ov v)
def hb_prs (α : Nat → Nat) (ov : Value) (loc : List Value) : List (Nat × Value) := (List.range loc.length).filterMap (fun i => hb_pr1 α ov i loc[i]?)
theorem hb_prs_mem {α : Nat → Nat} {ov : Value} {loc : List Value} {q : Nat × Value} : q ∈ hb_prs α ov loc ↔ ∃ v, loc[q.1]? = some v ∧ v ≠ .null ∧ q.2 = hb_val α ov v := by
  unfold hb_prs
  rw [List.mem_filterMap]
  constructor
  · rintro ⟨i, hi, h⟩
    revert h
    cases hv : loc[i]? with
    | none => intro h; cases h
    | some v =>
      intro h
      simp only [hb_pr1] at h
      split at h
      · cases h
      · rename_i hn
        cases h
        exact ⟨v, hv, hn, rfl⟩
  · rintro ⟨v, h1, h2, h3⟩
    refine ⟨q.1, List.mem_range.mpr (List.getElem?_eq_some_iff.mp h1).1, ?_⟩
    rw [h1]
    simp only [hb_pr1, if_neg h2]
    rw [← h3]
def hb_LR (α : Nat → Nat) (ov : Value) (nL : Nat) (ls : Array Slot) (loc : List Value) : Prop := loc.length = nL ∧ lv_has ls nL (hb_prs α ov loc)
theorem hb_LR.get {α : Nat → Nat} {ov : Value} {nL : Nat} {ls : Array Slot} {loc : List Value} (h : hb_LR α ov nL ls loc) {i : Nat} {v : Value} (hv : loc[i]? = some v) (hn : v ≠ .null) : ls[i]? = some (.val (hb_val α ov v)) :=
  h.2.2.2 (i, hb_val α ov v) (hb_prs_mem.mpr ⟨v, hv, hn, rfl⟩)
theorem hb_set_eq {loc loc' : List Value} {i : Nat} {v : Value} (h : hb_set loc i v = some loc') : i < loc.length ∧ loc' = loc.set i v := by
  induction loc generalizing i loc' with
  | nil => cases h
  | cons x l ih =>
    cases i with
    | zero => cases h; exact ⟨Nat.succ_pos _, rfl⟩
    | succ i =>
      simp only [hb_set] at h
      revert h
      cases h1 : hb_set l i v with
      | none => intro h; cases h
      | some l' =>
        intro h
        cases h
        obtain ⟨h2, h3⟩ := ih h1
        exact ⟨by simp only [List.length_cons]; omega, by rw [h3]; rfl⟩
theorem hb_sto_eq {loc loc' : List Value} {i : Nat} {v : Value} (h : hb_sto loc i v = some loc') : i < loc.length ∧ loc' = loc.set i v ∧ ∀ j u, j + 1 = i → loc[j]? = some u → u.category = 1 := by
  cases i with
  | zero =>
    obtain ⟨h1, h2⟩ := hb_set_eq h
    exact ⟨h1, h2, fun j u e => by omega⟩
  | succ j =>
    simp only [hb_sto] at h
    split at h
    · cases h
    · cases h
    · rename_i n1 n2
      obtain ⟨h1, h2⟩ := hb_set_eq h
      refine ⟨h1, h2, fun k u e hk => ?_⟩
      obtain rfl : k = j := by omega
      cases u <;> first | rfl | exact absurd hk (n1 _) | exact absurd hk (n2 _)
theorem hb_LR.st1 {α : Nat → Nat} {ov : Value} (ho : ov.category = 1) {nL : Nat} {ls ls' : Array Slot} {loc loc' : List Value} {i : Nat} {v : Value} (h : hb_LR α ov nL ls loc) (hs : hb_sto loc i v = some loc')
    (h' : lv_has ls' nL ((i, hb_val α ov v) :: (hb_prs α ov loc).filter (fun q => !(q.1 == i) && !(q.1 + 1 == i && q.2.category == 2)))) : hb_LR α ov nL ls' loc' := by
  obtain ⟨h1, rfl, h3⟩ := hb_sto_eq hs
  refine ⟨by simpa using h.1, h'.1, h'.2.1, fun q hq => h'.2.2 q ?_⟩
  obtain ⟨u, e1, e2, e3⟩ := hb_prs_mem.mp hq
  by_cases hk : i = q.1
  · rw [← hk, List.getElem?_set_self h1] at e1
    cases e1
    refine List.mem_cons.mpr (Or.inl ?_)
    obtain ⟨a, b⟩ := q
    dsimp only at hk e3
    rw [hk, e3]
  · rw [List.getElem?_set_ne hk] at e1
    refine List.mem_cons.mpr (Or.inr (List.mem_filter.mpr ⟨hb_prs_mem.mpr ⟨u, e1, e2, e3⟩, ?_⟩))
    have hne : (q.1 == i) = false := by simpa using Ne.symm hk
    simp only [hne, Bool.not_false, Bool.true_and, Bool.not_eq_true', Bool.and_eq_false_iff]
    by_cases hj : q.1 + 1 = i
    · right
      rw [e3, hb_val_cat ho, h3 q.1 u hj e1]
      rfl
    · left
      simpa using hj
theorem hb_LR.st2 {α : Nat → Nat} {ov : Value} (ho : ov.category = 1) {nL : Nat} {ls ls' : Array Slot} {loc l1 loc' : List Value} {i : Nat} {v : Value} (h : hb_LR α ov nL ls loc) (hs : hb_sto loc i v = some l1) (hs2 : hb_set l1 (i + 1) .null = some loc')
    (h' : lv_has ls' nL ((i, hb_val α ov v) :: (hb_prs α ov loc).filter (fun q => !(q.1 == i) && (!(q.1 == i + 1) && !(q.1 + 1 == i && q.2.category == 2))))) : hb_LR α ov nL ls' loc' := by
  obtain ⟨h1, rfl, h3⟩ := hb_sto_eq hs
  obtain ⟨g1, rfl⟩ := hb_set_eq hs2
  refine ⟨by simpa using h.1, h'.1, h'.2.1, fun q hq => h'.2.2 q ?_⟩
  obtain ⟨u, e1, e2, e3⟩ := hb_prs_mem.mp hq
  by_cases hk2 : i + 1 = q.1
  · rw [← hk2, List.getElem?_set_self g1] at e1
    cases e1
    exact absurd rfl e2
  · rw [List.getElem?_set_ne hk2] at e1
    by_cases hk : i = q.1
    · rw [← hk, List.getElem?_set_self h1] at e1
      cases e1
      refine List.mem_cons.mpr (Or.inl ?_)
      obtain ⟨a, b⟩ := q
      dsimp only at hk e3
      rw [hk, e3]
    · rw [List.getElem?_set_ne hk] at e1
      refine List.mem_cons.mpr (Or.inr (List.mem_filter.mpr ⟨hb_prs_mem.mpr ⟨u, e1, e2, e3⟩, ?_⟩))
      have hne : (q.1 == i) = false := by simpa using Ne.symm hk
      have hne2 : (q.1 == i + 1) = false := by simpa using Ne.symm hk2
      simp only [hne, hne2, Bool.not_false, Bool.true_and, Bool.not_eq_true', Bool.and_eq_false_iff]
      by_cases hj : q.1 + 1 = i
      · right
        rw [e3, hb_val_cat ho, h3 q.1 u hj e1]
        rfl
      · left
        simpa using hj
/-- at a method's entry -/
theorem hb_lgsl {α : Nat → Nat} {ov : Value} (ho : ov.category = 1) : ∀ as : List Value, (lg_sl (as.map (hb_val α ov))).length = (hb_loc as).length
  | [] => rfl
  | v :: t => by
    have ih := hb_lgsl (α := α) ho t
    simp only [lg_sl, List.map_cons, List.flatMap_cons, List.length_append] at ih ⊢
    rw [ih, hb_val_cat ho]
    cases v <;> simp [hb_loc, Value.category] <;> omega
theorem hb_args_mem {α : Nat → Nat} {ov : Value} (ho : ov.category = 1) : ∀ (as : List Value) (j i : Nat) (v : Value), (hb_loc as)[i]? = some v → v ≠ .null → (j + i, hb_val α ov v) ∈ lv_args j (as.map (hb_val α ov))
  | [], j, i, v, h, _ => by simp [hb_loc] at h
  | u :: t, j, i, v, h, hn => by
    have ih := hb_args_mem (α := α) ho t
    simp only [List.map_cons, lv_args, hb_val_cat ho]
    by_cases hc : u.category = 2
    · rw [if_pos hc]
      have e : hb_loc (u :: t) = u :: .null :: hb_loc t := by cases u <;> first | rfl | (simp [Value.category] at hc; done)
      rw [e] at h
      cases i with
      | zero => cases h; exact List.mem_cons_self
      | succ i =>
        cases i with
        | zero => cases h; exact absurd rfl hn
        | succ i =>
          refine List.mem_cons_of_mem _ ?_
          have := ih (j + 2) i v (by simpa using h) hn
          rwa [show j + 2 + i = j + (i + 1 + 1) by omega] at this
    · rw [if_neg hc]
      have e : hb_loc (u :: t) = u :: hb_loc t := by cases u <;> first | rfl | (simp [Value.category] at hc; done)
      rw [e] at h
      cases i with
      | zero => cases h; exact List.mem_cons_self
      | succ i =>
        refine List.mem_cons_of_mem _ ?_
        have := ih (j + 1) i v (by simpa using h) hn
        rwa [show j + 1 + i = j + (i + 1) by omega] at this
theorem hb_entry {α : Nat → Nat} {ov : Value} (ho : ov.category = 1) {m : Nat} {as : List Value} (h : (hb_loc as).length ≤ (hb_mt m).2.2.1) :
    hb_LR α ov (hb_mt m).2.2.1 ((lg_sl (as.map (hb_val α ov)) ++ List.replicate ((hb_mt m).2.2.1 - (lg_sl (as.map (hb_val α ov))).length) Slot.unset).toArray) (hb_start m as) := by
  have hl := lv_entry (as.map (hb_val α ov)) (n := (hb_mt m).2.2.1) (by rw [hb_lgsl ho]; exact h)
  refine ⟨by simp only [hb_start, hb_pad, List.length_append, List.length_replicate]; omega, hl.1, hl.2.1, fun q hq => hl.2.2 q ?_⟩
  obtain ⟨v, e1, e2, e3⟩ := hb_prs_mem.mp hq
  unfold hb_start hb_pad at e1
  by_cases hk : q.1 < (hb_loc as).length
  · rw [List.getElem?_append_left hk] at e1
    have := hb_args_mem (α := α) ho as 0 q.1 v e1 e2
    rw [Nat.zero_add, ← e3] at this
    exact this
  · rw [List.getElem?_append_right (by omega), List.getElem?_replicate] at e1
    split at e1
    · cases e1; exact absurd rfl e2
    · cases e1
