/-! A STEP OF THE SMALL MACHINE IS A STEP OF THE MACHINE -/
abbrev hb_tys (cI cZ cS : ClassId) : List (ClassId × FieldType) := [(cI, .int), (cZ, .boolean), (cS, .object "HandBook$Sheet")]
def hb_nest : List Cond := hbMn.map (fun q => Cond.methodLinkNest (hbOwn q.1) q.2.1 (hb_mt q.2.2).1 "HandBook")
def hb_txt : String := "flow bad good step and up down open shut above below wait if go end "
def hb_Z (α : Nat → Nat) (ov : Value) (A : Nat → Prop) (U : State) (H : Heap) : Prop := vk_R "HandBook$Tape" 46 hb_txt (α 1000) U ∧ vk_S 1 [68] [hbW] (fun _ => α 1000) (fun _ => α 1001) A U H ∧ va_Z "java/lang/String" "COMPACT_STRINGS" "Z" (.int 1) A U H ∧ va_Z "jdk/internal/util/Preconditions" "SIOOBE_FORMATTER" "Ljava/util/function/BiFunction;" ov A U H
/-- what holds all through a method's body -/
def hb_Cx (p : Program) (s : State) (m : MethodId) (args : Array Value) (c : Code) (sh : List hbS) (α : Nat → Nat) (D : va_G) (cI cZ cS : ClassId) (ov : Value) (A : Nat → Prop) (mi : Nat) : Prop :=
  p.tables.exec = Jvm.exec ∧ c.code = (hb_mt mi).2.1 ∧ c.maxLocals = (hb_mt mi).2.2.1 ∧ s.vm.findClass (hbOwn (hb_mt mi).2.2.2.2.1) = some m.cls ∧ (∀ w ∈ hbTB, w.before args s = true) ∧ va_K D hbCl (hb_tys cI cZ cS) s ∧ (∀ w ∈ hb_nest, va_Nw w s) ∧ hb_Z α ov A s s.heap ∧ hb_inj α sh.length ∧ (∀ c, c < sh.length → A (α c)) ∧ ov.category = 1
/-- from this state of the small machine the machine comes to Q -/
def hb_AW (p : Program) (l : Launch) (e : Env) (R : Room) (s : State) (m : MethodId) (args : Array Value) (below : List Frame) (meth : Method) (c : Code) (cells slots : Nat) (Q : State → Prop) (sh : List hbS) (α : Nat → Nat) (D : va_G) (cI cZ cS : ClassId) (ov : Value) (A : Nat → Prop) (mi : Nat) (st : hbT) : Prop :=
  ∀ (H : Heap) (locs : List Loc) (ls : Array Slot), va_P D hbCl (hb_w α cI cZ cS st.2.2.2 sh) H → va_S A s.heap H locs → hb_LR α ov (hb_mt mi).2.2.1 ls st.2.1 → W p l e R s m args below meth c H locs cells slots Q (F0 m st.1 ls (st.2.2.1.map (hb_val α ov)))
theorem hb_in_vp {i : Int32} {n : Nat} (h : hb_in i n = true) : vp_in i n := by
  simp only [hb_in, Bool.not_eq_true', Bool.or_eq_false_iff, decide_eq_false_iff_not] at h
  exact fun q => q.elim h.1 h.2
theorem hb_01_nar {x : Int32} (h : hb_01 x = true) : narrow .boolean (.int x) = .int x ∧ fits .boolean (.int x) = true ∧ vp_nar .boolean x = x := by
  simp only [hb_01, Bool.or_eq_true, beq_iff_eq] at h
  rcases h with rfl | rfl <;> decide
def hb_xtra : List Cond := [.fieldLink "java/lang/String" 9 "java/lang/String" "value" "[B", .fieldLink "java/lang/String" 15 "java/lang/String" "coder" "B", .fieldLink "java/lang/String" 38 "java/lang/String" "COMPACT_STRINGS" "Z", .fieldLink "java/lang/String" 1053 "jdk/internal/util/Preconditions" "SIOOBE_FORMATTER" "Ljava/util/function/BiFunction;", .methodLink "HandBook" 119 arraycopyName, .native arraycopyName, .static arraycopyName, .initialized "java/lang/System"]
theorem hb_xtra_all : hb_xtra.all (fun w => decide (w ∈ hbTB)) = true := by decide +kernel
theorem hb_xtra_in {w : Cond} (h : w ∈ hb_xtra) : w ∈ hbTB := by simpa using List.all_eq_true.mp hb_xtra_all w h
section
variable {loc stk loc' stk' : List Value} {σ σ' : hbM} {gs : List Bool} {a b d : Nat} {z : Int32} {sh : List hbS}
theorem hb_ii_inv {g : Int32 → Int32 → List Bool} {f : Int32 → Int32 → Value} (h : hb_ii loc stk σ g f = some (gs, loc', stk', σ')) : ∃ x y t, stk = .int y :: .int x :: t ∧ gs = g x y ∧ loc' = loc ∧ stk' = f x y :: t ∧ σ' = σ := by
  unfold hb_ii at h
  split at h
  · cases h; exact ⟨_, _, _, rfl, rfl, rfl, rfl, rfl⟩
  · cases h
theorem hb_ll_inv {f : Int64 → Int64 → Value} (h : hb_ll loc stk σ f = some (gs, loc', stk', σ')) : ∃ x y t, stk = .long y :: .long x :: t ∧ loc' = loc ∧ stk' = f x y :: t ∧ σ' = σ := by
  unfold hb_ll at h
  split at h
  · cases h; exact ⟨_, _, _, rfl, rfl, rfl, rfl⟩
  · cases h
theorem hb_li_inv {f : Int64 → Int32 → Value} (h : hb_li loc stk σ f = some (gs, loc', stk', σ')) : ∃ x y t, stk = .int y :: .long x :: t ∧ loc' = loc ∧ stk' = f x y :: t ∧ σ' = σ := by
  unfold hb_li at h
  split at h
  · cases h; exact ⟨_, _, _, rfl, rfl, rfl, rfl⟩
  · cases h
theorem hb_i_inv {f : Int32 → Value} (h : hb_i loc stk σ f = some (gs, loc', stk', σ')) : ∃ x t, stk = .int x :: t ∧ loc' = loc ∧ stk' = f x :: t ∧ σ' = σ := by
  unfold hb_i at h
  split at h
  · cases h; exact ⟨_, _, rfl, rfl, rfl, rfl⟩
  · cases h
theorem hb_l_inv {f : Int64 → Value} (h : hb_l loc stk σ f = some (gs, loc', stk', σ')) : ∃ x t, stk = .long x :: t ∧ loc' = loc ∧ stk' = f x :: t ∧ σ' = σ := by
  unfold hb_l at h
  split at h
  · cases h; exact ⟨_, _, rfl, rfl, rfl, rfl⟩
  · cases h
theorem hb_ldi_inv (h : hb_ldi loc stk σ a = some (gs, loc', stk', σ')) : ∃ x, loc[a]? = some (.int x) ∧ loc' = loc ∧ stk' = .int x :: stk ∧ σ' = σ := by
  unfold hb_ldi at h
  split at h
  · rename_i x hv; cases h; exact ⟨x, hv, rfl, rfl, rfl⟩
  · cases h
theorem hb_ldl_inv (h : hb_ldl loc stk σ a = some (gs, loc', stk', σ')) : ∃ x, loc[a]? = some (.long x) ∧ loc' = loc ∧ stk' = .long x :: stk ∧ σ' = σ := by
  unfold hb_ldl at h
  split at h
  · rename_i x hv; cases h; exact ⟨x, hv, rfl, rfl, rfl⟩
  · cases h
theorem hb_lda_inv (h : hb_lda loc stk σ a = some (gs, loc', stk', σ')) : ∃ x, loc[a]? = some (.ref x) ∧ loc' = loc ∧ stk' = .ref x :: stk ∧ σ' = σ := by
  unfold hb_lda at h
  split at h
  · rename_i x hv; cases h; exact ⟨x, hv, rfl, rfl, rfl⟩
  · cases h
theorem hb_put_inv {o : Option (List Value)} (h : hb_put o stk σ = some (gs, loc', stk', σ')) : o = some loc' ∧ stk' = stk ∧ σ' = σ := by
  unfold hb_put at h
  split at h
  · cases h; exact ⟨rfl, rfl, rfl⟩
  · cases h
theorem hb_sti_inv (h : hb_sti loc stk σ a = some (gs, loc', stk', σ')) : ∃ x t, stk = .int x :: t ∧ hb_sto loc a (.int x) = some loc' ∧ stk' = t ∧ σ' = σ := by
  unfold hb_sti at h
  split at h
  · obtain ⟨h1, h2, h3⟩ := hb_put_inv h; exact ⟨_, _, rfl, h1, h2, h3⟩
  · cases h
theorem hb_sta_inv (h : hb_sta loc stk σ a = some (gs, loc', stk', σ')) : ∃ x t, stk = .ref x :: t ∧ hb_sto loc a (.ref x) = some loc' ∧ stk' = t ∧ σ' = σ := by
  unfold hb_sta at h
  split at h
  · obtain ⟨h1, h2, h3⟩ := hb_put_inv h; exact ⟨_, _, rfl, h1, h2, h3⟩
  · cases h
theorem hb_stl_inv (h : hb_stl loc stk σ a = some (gs, loc', stk', σ')) : ∃ x t l1, stk = .long x :: t ∧ hb_sto loc a (.long x) = some l1 ∧ hb_set l1 (a + 1) .null = some loc' ∧ stk' = t ∧ σ' = σ := by
  unfold hb_stl at h
  split at h
  · split at h
    · rename_i l1 e1
      obtain ⟨h1, h2, h3⟩ := hb_put_inv h
      exact ⟨_, _, l1, rfl, e1, h1, h2, h3⟩
    · cases h
  · cases h
theorem hb_inc_inv (h : hb_inc loc stk σ a z = some (gs, loc', stk', σ')) : ∃ x, loc[a]? = some (.int x) ∧ hb_sto loc a (.int (x + z)) = some loc' ∧ stk' = stk ∧ σ' = σ := by
  unfold hb_inc at h
  split at h
  · rename_i x hv
    obtain ⟨h1, h2, h3⟩ := hb_put_inv h
    exact ⟨x, hv, h1, h2, h3⟩
  · cases h
theorem hb_get_inv (h : hb_get sh loc stk σ a b = some (gs, loc', stk', σ')) : ∃ c t fs o, stk = .ref c :: t ∧ sh[c]? = some (0, a, fs) ∧ fs[b]? = some o ∧ loc' = loc ∧ σ' = σ ∧ ∀ α ov, stk'.map (hb_val α ov) = hb_fv α (σ c) b o :: t.map (hb_val α ov) := by
  unfold hb_get at h
  split at h
  · rename_i c t
    split at h
    · rename_i ci fs hs
      split at h
      · rename_i e
        subst e
        split at h
        · rename_i hf
          cases h
          exact ⟨c, t, fs, none, rfl, hs, hf, rfl, rfl, fun α ov => rfl⟩
        · rename_i k hf
          cases h
          exact ⟨c, t, fs, some k, rfl, hs, hf, rfl, rfl, fun α ov => rfl⟩
        · cases h
      · cases h
    · cases h
  · cases h
theorem hb_getS_inv (h : hb_getS loc stk σ b = some (gs, loc', stk', σ')) : ∃ t, stk = .ref 1000 :: t ∧ loc' = loc ∧ σ' = σ ∧ ((b = 0 ∧ stk' = .ref 1001 :: t) ∨ (b ≠ 0 ∧ stk' = .int 0 :: t)) := by
  unfold hb_getS at h
  split at h
  · split at h
    · cases h; exact ⟨_, rfl, rfl, rfl, Or.inl ⟨rfl, rfl⟩⟩
    · rename_i hb; cases h; exact ⟨_, rfl, rfl, rfl, Or.inr ⟨fun e => hb e, rfl⟩⟩
  · cases h
theorem hb_putf_inv (h : hb_putf sh loc stk σ a b d = some (gs, loc', stk', σ')) (hg : gs.all id = true) : ∃ x c t fs, stk = .int x :: .ref c :: t ∧ sh[c]? = some (0, a, fs) ∧ fs[b]? = some none ∧ loc' = loc ∧ stk' = t ∧ σ' = hb_up σ c b x ∧ (d ≠ 0 → hb_01 x = true) := by
  unfold hb_putf at h
  split at h
  · rename_i x c t
    split at h
    · rename_i ci fs hs
      split at h
      · rename_i e
        subst e
        split at h
        · rename_i hf
          split at h
          · cases h; exact ⟨x, c, _, fs, rfl, hs, hf, rfl, rfl, rfl, fun q => absurd rfl q⟩
          · cases h; exact ⟨x, c, _, fs, rfl, hs, hf, rfl, rfl, rfl, fun _ => by simpa using hg⟩
        · cases h
      · cases h
    · cases h
  · cases h
theorem hb_ald_inv {k : Nat} (h : hb_ald sh k loc stk σ = some (gs, loc', stk', σ')) (hg : gs.all id = true) : ∃ i c t n fs, stk = .int i :: .ref c :: t ∧ sh[c]? = some (k, n, fs) ∧ hb_in i n = true ∧ loc' = loc ∧ stk' = .int (σ c i.toNatClampNeg) :: t ∧ σ' = σ := by
  unfold hb_ald at h
  split at h
  · rename_i i c t
    split at h
    · rename_i k' n fs hs
      split at h
      · rename_i e
        subst e
        cases h
        exact ⟨i, c, t, n, fs, rfl, hs, by simpa using hg, rfl, rfl, rfl⟩
      · cases h
    · cases h
  · cases h
theorem hb_aldS_inv (h : hb_aldS loc stk σ = some (gs, loc', stk', σ')) (hg : gs.all id = true) : ∃ i t, stk = .int i :: .ref 1001 :: t ∧ hb_in i 68 = true ∧ loc' = loc ∧ stk' = .int (hbW.getD i.toNatClampNeg 0) :: t ∧ σ' = σ := by
  unfold hb_aldS at h
  split at h
  · cases h; exact ⟨_, _, rfl, by simpa using hg, rfl, rfl, rfl⟩
  · cases h
theorem hb_ast_inv {k : Nat} {g : Int32 → List Bool} (h : hb_ast sh k loc stk σ g = some (gs, loc', stk', σ')) (hg : gs.all id = true) : ∃ x i c t n fs, stk = .int x :: .int i :: .ref c :: t ∧ sh[c]? = some (k, n, fs) ∧ hb_in i n = true ∧ (g x).all id = true ∧ loc' = loc ∧ stk' = t ∧ σ' = hb_up σ c i.toNatClampNeg x := by
  unfold hb_ast at h
  split at h
  · rename_i x i c t
    split at h
    · rename_i k' n fs hs
      split at h
      · rename_i e
        subst e
        cases h
        simp only [List.all_cons, id, Bool.and_eq_true] at hg
        exact ⟨x, i, c, _, n, fs, rfl, hs, hg.1, hg.2, rfl, rfl, rfl⟩
      · cases h
    · cases h
  · cases h
theorem hb_aaq_inv (h : hb_aaq sh loc stk σ = some (gs, loc', stk', σ')) (hg : gs.all id = true) : ∃ i c t n fs k, stk = .int i :: .ref c :: t ∧ sh[c]? = some (3, n, fs) ∧ fs[i.toNatClampNeg]? = some (some k) ∧ hb_in i n = true ∧ loc' = loc ∧ stk' = .ref k :: t ∧ σ' = σ := by
  unfold hb_aaq at h
  split at h
  · rename_i i c t
    split at h
    · rename_i n fs hs
      split at h
      · rename_i k hf
        cases h
        exact ⟨i, c, t, n, fs, k, rfl, hs, hf, by simpa using hg, rfl, rfl, rfl⟩
      · cases h
    · cases h
  · cases h
theorem hb_len_inv (h : hb_len sh loc stk σ = some (gs, loc', stk', σ')) : ∃ c t n fs, stk = .ref c :: t ∧ sh[c]? = some (1, n, fs) ∧ loc' = loc ∧ stk' = .int (nI n) :: t ∧ σ' = σ := by
  unfold hb_len at h
  split at h
  · rename_i c t
    split at h
    · rename_i n fs hs
      cases h
      exact ⟨c, t, n, fs, rfl, hs, rfl, rfl, rfl⟩
    · cases h
  · cases h
theorem hb_lenS_inv (h : hb_lenS loc stk σ = some (gs, loc', stk', σ')) : ∃ t, stk = .ref 1001 :: t ∧ loc' = loc ∧ stk' = .int 68 :: t ∧ σ' = σ := by
  unfold hb_lenS at h
  split at h
  · cases h; exact ⟨_, rfl, rfl, rfl, rfl⟩
  · cases h
theorem hb_dup_inv (h : hb_dup loc stk σ = some (gs, loc', stk', σ')) : ∃ v t, stk = v :: t ∧ v.category = 1 ∧ loc' = loc ∧ stk' = v :: v :: t ∧ σ' = σ := by
  unfold hb_dup at h
  split at h
  · cases h; exact ⟨_, _, rfl, rfl, rfl, rfl, rfl⟩
  · cases h; exact ⟨_, _, rfl, rfl, rfl, rfl, rfl⟩
  · cases h
theorem hb_dup2_inv (h : hb_dup2 loc stk σ = some (gs, loc', stk', σ')) : ∃ x c t, stk = .int x :: .ref c :: t ∧ loc' = loc ∧ stk' = .int x :: .ref c :: .int x :: .ref c :: t ∧ σ' = σ := by
  unfold hb_dup2 at h
  split at h
  · cases h; exact ⟨_, _, _, rfl, rfl, rfl, rfl⟩
  · cases h
theorem hb_pop_inv (h : hb_pop loc stk σ = some (gs, loc', stk', σ')) : ∃ x t, stk = .int x :: t ∧ loc' = loc ∧ stk' = t ∧ σ' = σ := by
  unfold hb_pop at h
  split at h
  · cases h; exact ⟨_, _, rfl, rfl, rfl, rfl⟩
  · cases h
theorem hb_acp_inv (h : hb_acp sh loc stk σ = some (gs, loc', stk', σ')) (hg : gs.all id = true) : ∃ n dp c1 sp c0 n0 n1 f0 f1, stk = [.int n, .int dp, .ref c1, .int sp, .ref c0] ∧ sh[c0]? = some (1, n0, f0) ∧ sh[c1]? = some (1, n1, f1) ∧ (¬ sp < 0 ∧ ¬ dp < 0 ∧ ¬ n < 0 ∧ sp.toNatClampNeg + n.toNatClampNeg ≤ n0 ∧ dp.toNatClampNeg + n.toNatClampNeg ≤ n1) ∧ loc' = loc ∧ stk' = [] ∧ σ' = hb_cpy σ c0 c1 sp.toNatClampNeg dp.toNatClampNeg n.toNatClampNeg := by
  unfold hb_acp at h
  split at h
  · rename_i n dp c1 sp c0
    split at h
    · rename_i n0 f0 n1 f1 h0 h1
      cases h
      simp only [List.all_cons, List.all_nil, id, Bool.and_eq_true, decide_eq_true_eq, Bool.and_true] at hg
      exact ⟨n, dp, c1, sp, c0, n0, n1, f0, f1, rfl, h0, h1, ⟨hg.1, hg.2.1, hg.2.2.1, hg.2.2.2.1, hg.2.2.2.2⟩, rfl, rfl, rfl⟩
    · cases h
  · cases h
end
section
variable {p : Program} {l : Launch} {e : Env} {R : Room} {s : State} {m : MethodId} {args : Array Value} {below : List Frame} {meth : Method} {c : Code} {cells slots : Nat} {Q : State → Prop}
variable {sh : List hbS} {α : Nat → Nat} {D : va_G} {cI cZ cS : ClassId} {ov : Value} {A : Nat → Prop} {mi : Nat}
set_option maxHeartbeats 4000000 in
/-- a plain instruction -/
theorem hb_sx (C : hb_Cx p s m args c sh α D cI cZ cS ov A mi) {pc : Nat} {r : hbR} {loc stk loc' stk' : List Value} {σ σ' : hbM} {gs : List Bool} (hr : hb_rok mi pc r) (hx : hb_x sh r loc stk σ = some (gs, loc', stk', σ')) (hg : gs.all id = true) (hfr : 1 ≤ R.frames) (hlo : 30 ≤ R.locals)
    (k : hb_AW p l e R s m args below meth c cells slots Q sh α D cI cZ cS ov A mi (pc + r.2.1, loc', stk', σ')) : hb_AW p l e R s m args below meth c cells slots Q sh α D cI cZ cS ov A mi (pc, loc, stk, σ) := by
  obtain ⟨hX, hB, hml, hown, hts, hK, hN, hZ, hinj, hA, ho⟩ := C
  obtain ⟨op, len, a, b, d, z, w⟩ := r
  obtain ⟨hdg, hok⟩ := hr
  dsimp only at hdg hok k
  generalize hgo : (hb_mt mi).2.2.2.2.1 = own at hown hok
  intro H locs ls hP hS hl
  dsimp only at hP hl ⊢
  have hD : va_D A (hb_w α cI cZ cS σ sh) := hb_w_D hinj hA
  cases op with
  | iconst n =>
    cases hx
    simp only [hb_opok, Bool.and_eq_true, beq_iff_eq, decide_eq_true_eq] at hok
    obtain ⟨rfl, rfl⟩ := hok
    exact lv_iconst hX hB hdg rfl (k H locs ls hP hS hl)
  | bipush n =>
    cases hx
    simp only [hb_opok, Bool.and_eq_true, beq_iff_eq, decide_eq_true_eq] at hok
    obtain ⟨rfl, rfl⟩ := hok
    exact lv_bipush hX hB hdg rfl (k H locs ls hP hS hl)
  | sipush n =>
    cases hx
    simp only [hb_opok, Bool.and_eq_true, beq_iff_eq, decide_eq_true_eq] at hok
    obtain ⟨rfl, rfl⟩ := hok
    exact lv_sipush hX hB hdg rfl (k H locs ls hP hS hl)
  | lconst n =>
    cases hx
    simp only [hb_opok, Bool.and_eq_true, beq_iff_eq, decide_eq_true_eq] at hok
    obtain ⟨rfl, rfl⟩ := hok
    exact lv_lconst hX hB hdg rfl (k H locs ls hP hS hl)
  | ldc i =>
    simp only [hb_opok, Bool.and_eq_true, beq_iff_eq] at hok
    obtain ⟨rfl, hok⟩ := hok
    cases d with
    | zero =>
      cases hx
      exact lv_ldc hX hB hown (hts _ (hb_csa_w hok)) hdg (k H locs ls hP hS hl)
    | succ d =>
      cases hx
      simp only [Bool.and_eq_true, beq_iff_eq] at hok
      obtain ⟨rfl, rfl⟩ := hok
      exact va_ldcS hX hB hown hZ.1 hdg (k H locs ls hP hS hl)
  | ldc_w i =>
    cases hx
    simp only [hb_opok, Bool.and_eq_true, beq_iff_eq] at hok
    obtain ⟨rfl, hok⟩ := hok
    exact lv_ldcw hX hB hown (hts _ (hb_csa_w hok)) hdg (k H locs ls hP hS hl)
  | ldc2_w i =>
    cases hx
    simp only [hb_opok, Bool.and_eq_true, beq_iff_eq] at hok
    obtain ⟨rfl, hok⟩ := hok
    exact lv_ldc2 hX hB hown (hts _ (hb_cla_w hok)) hdg (k H locs ls hP hS hl)
  | iload_n kk =>
    obtain ⟨x, h1, rfl, rfl, rfl⟩ := hb_ldi_inv hx
    simp only [hb_opok, Bool.and_eq_true, beq_iff_eq] at hok
    obtain ⟨rfl, hi⟩ := hok
    exact lv_iload_n hX hB hdg hi (hl.get h1 (by simp)) (k H locs ls hP hS hl)
  | iload i =>
    obtain ⟨x, h1, rfl, rfl, rfl⟩ := hb_ldi_inv hx
    simp only [hb_opok, Bool.and_eq_true, beq_iff_eq] at hok
    obtain ⟨rfl, rfl⟩ := hok
    exact lv_iload hX hB hdg (hl.get h1 (by simp)) (k H locs ls hP hS hl)
  | lload_n kk =>
    obtain ⟨x, h1, rfl, rfl, rfl⟩ := hb_ldl_inv hx
    simp only [hb_opok, Bool.and_eq_true, beq_iff_eq] at hok
    obtain ⟨rfl, hi⟩ := hok
    exact lv_lload_n hX hB hdg hi (hl.get h1 (by simp)) (k H locs ls hP hS hl)
  | lload i =>
    obtain ⟨x, h1, rfl, rfl, rfl⟩ := hb_ldl_inv hx
    simp only [hb_opok, Bool.and_eq_true, beq_iff_eq] at hok
    obtain ⟨rfl, rfl⟩ := hok
    exact lv_lload hX hB hdg (hl.get h1 (by simp)) (k H locs ls hP hS hl)
  | aload_n kk =>
    obtain ⟨x, h1, rfl, rfl, rfl⟩ := hb_lda_inv hx
    simp only [hb_opok, Bool.and_eq_true, beq_iff_eq] at hok
    obtain ⟨rfl, hi⟩ := hok
    exact lv_aload_n hX hB hdg hi (hl.get h1 (by simp)) (k H locs ls hP hS hl)
  | aload i =>
    obtain ⟨x, h1, rfl, rfl, rfl⟩ := hb_lda_inv hx
    simp only [hb_opok, Bool.and_eq_true, beq_iff_eq] at hok
    obtain ⟨rfl, rfl⟩ := hok
    exact lv_aload hX hB hdg (hl.get h1 (by simp)) (k H locs ls hP hS hl)
  | istore_n kk =>
    obtain ⟨x, t, rfl, h1, rfl, rfl⟩ := hb_sti_inv hx
    simp only [hb_opok, Bool.and_eq_true, beq_iff_eq] at hok
    obtain ⟨rfl, hi⟩ := hok
    exact lv_istore_n hX hB hdg hi hl.2 (by have := (hb_sto_eq h1).1; rw [hl.1] at this; exact this) rfl (fun ls' h' => k H locs ls' hP hS (hb_LR.st1 ho hl h1 h'))
  | istore i =>
    obtain ⟨x, t, rfl, h1, rfl, rfl⟩ := hb_sti_inv hx
    simp only [hb_opok, Bool.and_eq_true, beq_iff_eq] at hok
    obtain ⟨rfl, rfl⟩ := hok
    exact lv_istore hX hB hdg hl.2 (by have := (hb_sto_eq h1).1; rw [hl.1] at this; exact this) rfl (fun ls' h' => k H locs ls' hP hS (hb_LR.st1 ho hl h1 h'))
  | astore_n kk =>
    obtain ⟨x, t, rfl, h1, rfl, rfl⟩ := hb_sta_inv hx
    simp only [hb_opok, Bool.and_eq_true, beq_iff_eq] at hok
    obtain ⟨rfl, hi⟩ := hok
    exact lv_astore_n hX hB hdg hi hl.2 (by have := (hb_sto_eq h1).1; rw [hl.1] at this; exact this) rfl (fun ls' h' => k H locs ls' hP hS (hb_LR.st1 ho hl h1 h'))
  | astore i =>
    obtain ⟨x, t, rfl, h1, rfl, rfl⟩ := hb_sta_inv hx
    simp only [hb_opok, Bool.and_eq_true, beq_iff_eq] at hok
    obtain ⟨rfl, rfl⟩ := hok
    exact lv_astore hX hB hdg hl.2 (by have := (hb_sto_eq h1).1; rw [hl.1] at this; exact this) rfl (fun ls' h' => k H locs ls' hP hS (hb_LR.st1 ho hl h1 h'))
  | lstore_n kk =>
    obtain ⟨x, t, l1, rfl, h1, h2, rfl, rfl⟩ := hb_stl_inv hx
    simp only [hb_opok, Bool.and_eq_true, beq_iff_eq] at hok
    obtain ⟨rfl, hi⟩ := hok
    have hn := (hb_set_eq h2).1
    have e1 := (hb_sto_eq h1).2.1
    rw [e1, List.length_set, hl.1] at hn
    exact lv_lstore_n hX hB hdg hi hl.2 hn rfl (fun ls' h' => k H locs ls' hP hS (hb_LR.st2 ho hl h1 h2 h'))
  | lstore i =>
    obtain ⟨x, t, l1, rfl, h1, h2, rfl, rfl⟩ := hb_stl_inv hx
    simp only [hb_opok, Bool.and_eq_true, beq_iff_eq] at hok
    obtain ⟨rfl, rfl⟩ := hok
    have hn := (hb_set_eq h2).1
    have e1 := (hb_sto_eq h1).2.1
    rw [e1, List.length_set, hl.1] at hn
    exact lv_lstore hX hB hdg hl.2 hn rfl (fun ls' h' => k H locs ls' hP hS (hb_LR.st2 ho hl h1 h2 h'))
  | iinc i n =>
    obtain ⟨x, h0, h1, rfl, rfl⟩ := hb_inc_inv hx
    simp only [hb_opok, Bool.and_eq_true, beq_iff_eq, decide_eq_true_eq] at hok
    obtain ⟨rfl, rfl, rfl⟩ := hok
    obtain ⟨kk, hkk⟩ := List.getElem?_of_mem (hb_prs_mem (α := α) (ov := ov) (q := (i, .int x)) |>.mpr ⟨_, h0, by simp, rfl⟩)
    exact lv_iinc hX hB hdg hl.2 (k := kk) hkk rfl (by have := (hb_sto_eq h1).1; rw [hl.1] at this; exact this) rfl (fun ls' h' => k H locs ls' hP hS (hb_LR.st1 ho hl h1 h'))
  | iadd =>
    have hlen : len = 1 := by simpa [hb_opok] using hok
    subst hlen
    obtain ⟨x, y, t, rfl, rfl, rfl, rfl, rfl⟩ := hb_ii_inv hx
    exact lv_iadd hX hB hdg (k H locs ls hP hS hl)
  | isub =>
    have hlen : len = 1 := by simpa [hb_opok] using hok
    subst hlen
    obtain ⟨x, y, t, rfl, rfl, rfl, rfl, rfl⟩ := hb_ii_inv hx
    exact lv_isub hX hB hdg (k H locs ls hP hS hl)
  | imul =>
    have hlen : len = 1 := by simpa [hb_opok] using hok
    subst hlen
    obtain ⟨x, y, t, rfl, rfl, rfl, rfl, rfl⟩ := hb_ii_inv hx
    exact lv_imul hX hB hdg (k H locs ls hP hS hl)
  | iand =>
    have hlen : len = 1 := by simpa [hb_opok] using hok
    subst hlen
    obtain ⟨x, y, t, rfl, rfl, rfl, rfl, rfl⟩ := hb_ii_inv hx
    exact lv_iand hX hB hdg (k H locs ls hP hS hl)
  | ior =>
    have hlen : len = 1 := by simpa [hb_opok] using hok
    subst hlen
    obtain ⟨x, y, t, rfl, rfl, rfl, rfl, rfl⟩ := hb_ii_inv hx
    exact lv_ior hX hB hdg (k H locs ls hP hS hl)
  | ixor =>
    have hlen : len = 1 := by simpa [hb_opok] using hok
    subst hlen
    obtain ⟨x, y, t, rfl, rfl, rfl, rfl, rfl⟩ := hb_ii_inv hx
    exact lv_ixor hX hB hdg (k H locs ls hP hS hl)
  | ishl =>
    have hlen : len = 1 := by simpa [hb_opok] using hok
    subst hlen
    obtain ⟨x, y, t, rfl, rfl, rfl, rfl, rfl⟩ := hb_ii_inv hx
    exact lv_ishl hX hB hdg (k H locs ls hP hS hl)
  | ishr =>
    have hlen : len = 1 := by simpa [hb_opok] using hok
    subst hlen
    obtain ⟨x, y, t, rfl, rfl, rfl, rfl, rfl⟩ := hb_ii_inv hx
    exact lv_ishr hX hB hdg (k H locs ls hP hS hl)
  | iushr =>
    have hlen : len = 1 := by simpa [hb_opok] using hok
    subst hlen
    obtain ⟨x, y, t, rfl, rfl, rfl, rfl, rfl⟩ := hb_ii_inv hx
    exact lv_iushr hX hB hdg rfl (k H locs ls hP hS hl)
  | idiv =>
    have hlen : len = 1 := by simpa [hb_opok] using hok
    subst hlen
    obtain ⟨x, y, t, rfl, rfl, rfl, rfl, rfl⟩ := hb_ii_inv hx
    exact lv_idiv hX hB hdg (by simpa using hg) (k H locs ls hP hS hl)
  | irem =>
    have hlen : len = 1 := by simpa [hb_opok] using hok
    subst hlen
    obtain ⟨x, y, t, rfl, rfl, rfl, rfl, rfl⟩ := hb_ii_inv hx
    exact lv_irem hX hB hdg (by simpa using hg) (k H locs ls hP hS hl)
  | ineg =>
    have hlen : len = 1 := by simpa [hb_opok] using hok
    subst hlen
    obtain ⟨x, t, rfl, rfl, rfl, rfl⟩ := hb_i_inv hx
    exact lv_ineg hX hB hdg (k H locs ls hP hS hl)
  | i2l =>
    have hlen : len = 1 := by simpa [hb_opok] using hok
    subst hlen
    obtain ⟨x, t, rfl, rfl, rfl, rfl⟩ := hb_i_inv hx
    exact lv_i2l hX hB hdg rfl (k H locs ls hP hS hl)
  | i2b =>
    have hlen : len = 1 := by simpa [hb_opok] using hok
    subst hlen
    obtain ⟨x, t, rfl, rfl, rfl, rfl⟩ := hb_i_inv hx
    exact lv_i2b hX hB hdg rfl (k H locs ls hP hS hl)
  | i2s =>
    have hlen : len = 1 := by simpa [hb_opok] using hok
    subst hlen
    obtain ⟨x, t, rfl, rfl, rfl, rfl⟩ := hb_i_inv hx
    exact lv_i2s hX hB hdg rfl (k H locs ls hP hS hl)
  | i2c =>
    have hlen : len = 1 := by simpa [hb_opok] using hok
    subst hlen
    obtain ⟨x, t, rfl, rfl, rfl, rfl⟩ := hb_i_inv hx
    exact lv_i2c hX hB hdg rfl (k H locs ls hP hS hl)
  | l2i =>
    have hlen : len = 1 := by simpa [hb_opok] using hok
    subst hlen
    obtain ⟨x, t, rfl, rfl, rfl, rfl⟩ := hb_l_inv hx
    exact lv_l2i hX hB hdg rfl (k H locs ls hP hS hl)
  | ladd =>
    have hlen : len = 1 := by simpa [hb_opok] using hok
    subst hlen
    obtain ⟨x, y, t, rfl, rfl, rfl, rfl⟩ := hb_ll_inv hx
    exact lv_ladd hX hB hdg (k H locs ls hP hS hl)
  | land =>
    have hlen : len = 1 := by simpa [hb_opok] using hok
    subst hlen
    obtain ⟨x, y, t, rfl, rfl, rfl, rfl⟩ := hb_ll_inv hx
    exact lv_land hX hB hdg (k H locs ls hP hS hl)
  | lor =>
    have hlen : len = 1 := by simpa [hb_opok] using hok
    subst hlen
    obtain ⟨x, y, t, rfl, rfl, rfl, rfl⟩ := hb_ll_inv hx
    exact lv_lor hX hB hdg (k H locs ls hP hS hl)
  | lcmp =>
    have hlen : len = 1 := by simpa [hb_opok] using hok
    subst hlen
    obtain ⟨x, y, t, rfl, rfl, rfl, rfl⟩ := hb_ll_inv hx
    exact W.lcmp hX hB hdg (k H locs ls hP hS hl)
  | lshl =>
    have hlen : len = 1 := by simpa [hb_opok] using hok
    subst hlen
    obtain ⟨x, y, t, rfl, rfl, rfl, rfl⟩ := hb_li_inv hx
    exact lv_lshl hX hB hdg rfl (k H locs ls hP hS hl)
  | lshr =>
    have hlen : len = 1 := by simpa [hb_opok] using hok
    subst hlen
    obtain ⟨x, y, t, rfl, rfl, rfl, rfl⟩ := hb_li_inv hx
    exact lv_lshr hX hB hdg rfl (k H locs ls hP hS hl)
  | dup =>
    have hlen : len = 1 := by simpa [hb_opok] using hok
    subst hlen
    obtain ⟨v, t, rfl, hc, rfl, rfl, rfl⟩ := hb_dup_inv hx
    exact lv_dup hX hB hdg (by rw [hb_val_cat ho]; exact hc) (k H locs ls hP hS hl)
  | dup2 =>
    have hlen : len = 1 := by simpa [hb_opok] using hok
    subst hlen
    obtain ⟨x, c0, t, rfl, rfl, rfl, rfl⟩ := hb_dup2_inv hx
    exact lv_dup2_11 hX hB hdg rfl rfl (k H locs ls hP hS hl)
  | pop =>
    have hlen : len = 1 := by simpa [hb_opok] using hok
    subst hlen
    obtain ⟨x, t, rfl, rfl, rfl, rfl⟩ := hb_pop_inv hx
    exact lv_pop hX hB hdg rfl (k H locs ls hP hS hl)
  | getfield i =>
    simp only [hb_opok, Bool.and_eq_true, beq_iff_eq] at hok
    obtain ⟨rfl, hok⟩ := hok
    cases d with
    | zero =>
      obtain ⟨c0, t, fs, o9, rfl, hs, hf, rfl, rfl, hst⟩ := hb_get_inv hx
      obtain ⟨⟨CC, TT, NN⟩, hc, hk, hlink⟩ := hb_fla_w hok
      refine va_get (D := D) hX hB hts (hb_cl_in hc) hown hK hP c0 (hb_w_at hs) hc b hk (hts _ hlink) (fun _ h9 => h9) (v := hb_fv α (σ' c0) b o9) (by rw [hb_fs_get, hf]; rfl) hdg ?_
      have k1 := k H locs ls hP hS hl
      dsimp only at k1
      rw [hst α ov] at k1
      exact k1
    | succ d =>
      obtain ⟨t, rfl, rfl, rfl, hst⟩ := hb_getS_inv hx
      simp only [Bool.and_eq_true, beq_iff_eq] at hok
      obtain ⟨rfl, hok⟩ := hok
      obtain ⟨hs1, hs2, hs3, hs4⟩ := hZ.2.1.1 0 (by decide)
      rcases hst with ⟨rfl, rfl⟩ | ⟨hb0, rfl⟩
      · have hi : i = 9 := by simpa using hok
        subst hi
        exact vk_getf hX hB hs3 hS hown (hts _ (hb_xtra_in (List.mem_of_getElem? (i := 0) rfl))) (fun _ h9 => h9) hdg (k H locs ls hP hS hl)
      · have hi : i = 15 := by
          cases b with
          | zero => exact absurd rfl hb0
          | succ b => simpa using hok
        subst hi
        exact vk_getf hX hB hs2 hS hown (hts _ (hb_xtra_in (List.mem_of_getElem? (i := 1) rfl))) (fun _ h9 => h9) hdg (k H locs ls hP hS hl)
  | putfield i =>
    simp only [hb_opok, Bool.and_eq_true, beq_iff_eq] at hok
    obtain ⟨rfl, hok, hft⟩ := hok
    obtain ⟨x, c0, t, fs, rfl, hs, hf, rfl, rfl, rfl, h01⟩ := hb_putf_inv hx hg
    obtain ⟨⟨CC, TT, NN⟩, hc, hk, hlink⟩ := hb_fla_w hok
    obtain ⟨⟨ty0, hty⟩, hnm⟩ := hb_cl_ty hc
    dsimp only at hty hnm hk hlink
    simp only [hb_fty, hc, Bool.and_eq_true, Bool.not_eq_true'] at hft
    have hlt : b < (hb_fs α (σ c0) fs).length := by rw [hb_fs_len]; exact (List.getElem?_eq_some_iff.mp hf).1
    have key : ∃ ty, parseFieldDescriptor (TT b).2.2.1 = some ty ∧ narrow ty (.int x) = .int x ∧ fits ty (.int x) = true := by
      cases d with
      | zero =>
        have h2 : (TT b).2.2.1 = "I" := by simpa using hft.2
        exact ⟨.int, by rw [h2]; decide +kernel, rfl, rfl⟩
      | succ d =>
        have h2 : (TT b).2.2.1 = "Z" := by simpa using hft.2
        have h3 := hb_01_nar (h01 (by omega))
        exact ⟨.boolean, by rw [h2]; decide +kernel, h3.1, h3.2.1⟩
    obtain ⟨ty, hd, hn, hfit⟩ := key
    refine va_put (D := D) hX hB hts (hb_cl_in hc) ty0 hty hnm hown hK hP hD hS c0 (hb_w_at hs) hc b hk (hts _ hlink) (fun _ h9 => h9) hft.1 hd hn hfit hlt hdg (fun H1 locs1 hP1 hD1 hS1 => ?_)
    refine k H1 locs1 ls ?_ hS1 hl
    have hP1 : va_P D hbCl (List.set (hb_w α cI cZ cS σ sh) c0 (α c0, Sum.inr (a, (hb_fs α (σ c0) fs).set b (.int x)))) H1 := hP1
    rw [hb_fs_set hf, hb_w_set (σ' := hb_up σ c0 b x) hs (by rw [hb_up_at]; rfl) (fun c' hc' => hb_up_ne σ b x hc')] at hP1
    exact hP1
  | getstatic i =>
    simp only [hb_opok, Bool.and_eq_true, beq_iff_eq] at hok
    obtain ⟨rfl, rfl, hok⟩ := hok
    cases b with
    | zero =>
      cases hx
      have hi : i = 38 := by simpa using hok
      subst hi
      exact va_gets hX hB hZ.2.2.1 hS hown (hts _ (hb_xtra_in (List.mem_of_getElem? (i := 2) rfl))) (fun _ h9 => h9) hdg (k H locs ls hP hS hl)
    | succ b =>
      cases hx
      have hi : i = 1053 := by simpa using hok
      subst hi
      exact va_gets hX hB hZ.2.2.2 hS hown (hts _ (hb_xtra_in (List.mem_of_getElem? (i := 3) rfl))) (fun _ h9 => h9) hdg (k H locs ls hP hS hl)
  | iaload =>
    have hlen : len = 1 := by simpa [hb_opok] using hok
    subst hlen
    obtain ⟨i, c0, t, n, fs, rfl, hs, hin, rfl, rfl, rfl⟩ := hb_ald_inv hx hg
    exact va_iald hX hB hK hP c0 0 (hb_w_at hs) rfl (hb_in_vp hin) hdg (k H locs ls hP hS hl)
  | baload =>
    have hlen : len = 1 := by simpa [hb_opok] using hok
    subst hlen
    cases d with
    | zero =>
      obtain ⟨i, c0, t, n, fs, rfl, hs, hin, rfl, rfl, rfl⟩ := hb_ald_inv hx hg
      exact va_zald hX hB hK hP c0 1 (hb_w_at hs) rfl (hb_in_vp hin) hdg (k H locs ls hP hS hl)
    | succ d =>
      obtain ⟨i, t, rfl, hin, rfl, rfl, rfl⟩ := hb_aldS_inv hx hg
      obtain ⟨hs1, hs2, hs3, hs4⟩ := hZ.2.1.1 0 (by decide)
      exact va_tb hX hB hs4 hS (hb_in_vp hin) rfl hdg (k H locs ls hP hS hl)
  | aaload =>
    have hlen : len = 1 := by simpa [hb_opok] using hok
    subst hlen
    obtain ⟨i, c0, t, n, fs, q, rfl, hs, hf, hin, rfl, rfl, rfl⟩ := hb_aaq_inv hx hg
    refine va_aldq hX hB hK hP c0 2 (hb_w_at hs) rfl (hb_in_vp hin) hdg ?_
    have e1 : va_rf (((fs[i.toNatClampNeg]?).getD none).map α) = .ref (α q) := by rw [hf]; rfl
    rw [e1]
    exact k H locs ls hP hS hl
  | iastore =>
    have hlen : len = 1 := by simpa [hb_opok] using hok
    subst hlen
    obtain ⟨x, i, c0, t, n, fs, rfl, hs, hin, -, rfl, rfl, rfl⟩ := hb_ast_inv hx hg
    refine va_iast hX hB hK hP hD hS c0 0 (hb_w_at hs) rfl (hb_in_vp hin) hdg (fun H1 locs1 hP1 hD1 hS1 => ?_)
    refine k H1 locs1 ls ?_ hS1 hl
    rw [hb_w_set (σ' := hb_up σ c0 i.toNatClampNeg x) hs (by rw [hb_up_at]; rfl) (fun c' hc' => hb_up_ne σ _ x hc')] at hP1
    exact hP1
  | bastore =>
    have hlen : len = 1 := by simpa [hb_opok] using hok
    subst hlen
    obtain ⟨x, i, c0, t, n, fs, rfl, hs, hin, h01, rfl, rfl, rfl⟩ := hb_ast_inv hx hg
    have h3 := (hb_01_nar (x := x) (by simpa using h01)).2.2
    refine va_zast hX hB hK hP hD hS c0 1 (hb_w_at hs) rfl (hb_in_vp hin) hdg (fun H1 locs1 hP1 hD1 hS1 => ?_)
    refine k H1 locs1 ls ?_ hS1 hl
    rw [h3, hb_w_set (σ' := hb_up σ c0 i.toNatClampNeg x) hs (by rw [hb_up_at]; rfl) (fun c' hc' => hb_up_ne σ _ x hc')] at hP1
    exact hP1
  | arraylength =>
    have hlen : len = 1 := by simpa [hb_opok] using hok
    subst hlen
    cases d with
    | zero =>
      obtain ⟨c0, t, n, fs, rfl, hs, rfl, rfl, rfl⟩ := hb_len_inv hx
      exact va_alen hX hB hK hP c0 0 (hb_w_at hs) rfl rfl hdg (k H locs ls hP hS hl)
    | succ d =>
      obtain ⟨t, rfl, rfl, rfl, rfl⟩ := hb_lenS_inv hx
      obtain ⟨hs1, hs2, hs3, hs4⟩ := hZ.2.1.1 0 (by decide)
      exact va_tlen hX hB hs4 hS rfl hdg (k H locs ls hP hS hl)
  | invokestatic i =>
    have hd3 : d = 3 := by
      by_cases h : d = 3
      · exact h
      · exfalso
        have e : hb_x sh (.invokestatic i, len, a, b, d, z, w) loc stk σ = none := by
          simp only [hb_x]
        rw [e] at hx
        cases hx
    subst hd3
    simp only [hb_opok, Bool.and_eq_true, beq_iff_eq] at hok
    obtain ⟨rfl, rfl, rfl⟩ := hok
    obtain ⟨n, dp, c1, sp, c0, n0, n1, f0, f1, rfl, h0, h1, ⟨g1, g2, g3, g4, g5⟩, rfl, rfl, rfl⟩ := hb_acp_inv hx hg
    have hnf0 : (([] : List Value).map fun v => v.category).sum + (nativeFrameWords "java/lang/System" "arraycopy" 5 + 11) ≤ 30 := by decide +kernel
    have hnf : (([] : List Value).map fun v => v.category).sum + (nativeFrameWords "java/lang/System" "arraycopy" 5 + 11) ≤ R.locals := Nat.le_trans hnf0 hlo
    refine va_copyi (rest := []) hX hB (by rw [hml]; exact hl.2.1.symm) hown (hts _ (hb_xtra_in (List.mem_of_getElem? (i := 4) rfl))) (hts _ (hb_xtra_in (List.mem_of_getElem? (i := 5) rfl))) (hts _ (hb_xtra_in (List.mem_of_getElem? (i := 6) rfl))) (hts _ (hb_xtra_in (List.mem_of_getElem? (i := 7) rfl))) hK hP hD hS c0 c1 0 0 (hb_w_at h0) (hb_w_at h1) rfl rfl rfl g1 g2 g3 g4 g5 (fun _ _ => rfl) hfr hnf hdg (fun H1 locs1 hP1 hD1 hS1 => ?_)
    refine k H1 locs1 ls ?_ hS1 hl
    rw [hb_w_set (σ' := hb_cpy σ c0 c1 sp.toNatClampNeg dp.toNatClampNeg n.toNatClampNeg) h1 (by simp [hb_cpy, hb_e]) (fun c' hc' => by simp [hb_cpy, hc'])] at hP1
    exact hP1
  | _ =>
    exact absurd (show (none : Option hbX) = some (gs, loc', stk', σ') from hx) (by simp)
end
