theorem hb_rows_ok {m pc : Nat} {r : hbR} (hf : hb_fetch m pc = some r) : hb_rok m pc r := by
  by_cases h : m < 208
  · have := List.all_eq_true.mp (hb_allok_lt h) _ (hb_lookup_mem hf)
    simp only [hb_rokb, Bool.and_eq_true, decide_eq_true_eq] at this
    exact this
  · have e : hb_code m = [] := by
      have hl : hbKs.length = 208 := by decide +kernel
      unfold hb_code
      rw [List.getD_eq_getElem?_getD, List.getElem?_eq_none (by omega)]
      rfl
    unfold hb_fetch at hf
    rw [e] at hf
    cases hf
/-! the words -/
theorem hb_TB_at {i : Nat} {w : Cond} (h : lw_tbl[i]? = some w) (hg : goodWord w = true) : w ∈ hbTB := List.mem_filter.mpr ⟨List.mem_of_getElem? h, hg⟩
def hb_wd (i : Nat) (w : Cond) : Bool := decide (lw_tbl[i]? = some w) && goodWord w
theorem hb_wd_in {i : Nat} {w : Cond} (h : hb_wd i w = true) : w ∈ hbTB := by
  simp only [hb_wd, Bool.and_eq_true, decide_eq_true_eq] at h
  exact hb_TB_at h.1 h.2
theorem hb_TB_good : GoodIn hbTB hbTB := fun w h => ⟨h, good_of_word (List.mem_filter.mp h).2⟩
def hb_flok (q : Nat × Nat × Nat × Nat × Nat) : Bool := match hbCl[q.2.2.1]? with
  | some c => decide (q.2.2.2.1 < c.2.2) && hb_wd q.2.2.2.2 (.fieldLink (hbOwn q.1) q.2.1 (c.2.1 q.2.2.2.1).1 (c.2.1 q.2.2.2.1).2.1 (c.2.1 q.2.2.2.1).2.2.1)
  | none => false
theorem hb_fl_all : hbFl.all hb_flok = true := by decide +kernel
theorem hb_cs_all : hbCs.all (fun q => hb_wd q.2.2.2 (.constant (hbOwn q.1) q.2.1 q.2.2.1)) = true := by decide +kernel
theorem hb_cl_all : hbCL.all (fun q => hb_wd q.2.2.2 (.constantLong (hbOwn q.1) q.2.1 q.2.2.1)) = true := by decide +kernel
theorem hb_ml_all : hbMl.all (fun q => hb_wd q.2.2.2 (.methodLink (hbOwn q.1) q.2.1 (hb_mt q.2.2.1).1)) = true := by decide +kernel
def hb_mfok (q : Nat × Nat × Nat × Nat × Nat) : Bool := (hb_wd q.2.2.1 (.initialized (hb_mt q.1).1.cls) && (match (hb_mt q.1).2.2.2.2.2.2 with
  | true => hb_wd q.2.2.2.1 (.static (hb_mt q.1).1)
  | false => hb_wd q.2.2.2.1 (.instanceMethod (hb_mt q.1).1) && hb_wd q.2.2.2.2 (.selects (hb_mt q.1).1.cls (hb_mt q.1).1 (hb_mt q.1).1)))
theorem hb_mf_all : hbMf.all hb_mfok = true := by decide +kernel
theorem hb_mf_num : hbMf.map (fun q => q.1) = List.range 200 := by decide +kernel
def hb_yok (m : Nat) : Bool := decide ((hb_mt m).1.cls = hbOwn (hb_mt m).2.2.2.2.1) && (plainFor (hb_mt m).1 && (decide ((hb_mt m).1.cls ≠ "java/lang/invoke/MethodHandle" ∧ (hb_mt m).1.cls ≠ "java/lang/invoke/VarHandle") && (decide ((parseMethodDescriptor (hb_mt m).1.desc).map (fun d => d.parameters.length) = some (hb_mt m).2.2.2.2.2.1) && decide ((hb_mt m).2.2.1 ≤ 41))))
theorem hb_y_all : (List.range 200).all hb_yok = true := by decide +kernel
theorem hb_in_all : hbCl.all (fun q => (u_ws q.1 q.2.1 q.2.2).all (fun w => decide (w ∈ hbTB))) = true := by decide +kernel
theorem hb_own_cl : ∀ ci, ci < 13 → (hbCl[ci]?).map (fun q => q.1) = some (hbOwn ci) := by decide +kernel

theorem hb_mt_bs {a : Nat} (h : a < 208) : hb_mt a = hb_mt (hb_bs a) := by
  unfold hb_bs
  by_cases h1 : a < 200
  · rw [if_pos h1]
  · rw [if_neg h1]
    rcases (show a = 200 ∨ a = 201 ∨ a = 202 ∨ a = 203 ∨ a = 204 ∨ a = 205 ∨ a = 206 ∨ a = 207 by omega) with rfl | rfl | rfl | rfl | rfl | rfl | rfl | rfl <;> rfl
theorem hb_bs_lt {a : Nat} : hb_bs a < 200 := by
  unfold hb_bs
  split <;> omega
/-- what the words say of a method -/
theorem hb_mt_words {a : Nat} (h : a < 208) : Cond.code (hb_mt a).1 (hb_mt a).2.1 (hb_mt a).2.2.1 (hb_mt a).2.2.2.1 ∈ hbTB ∧ Cond.initialized (hb_mt a).1.cls ∈ hbTB ∧ ((hb_mt a).2.2.2.2.2.2 = true → Cond.static (hb_mt a).1 ∈ hbTB) ∧ ((hb_mt a).2.2.2.2.2.2 = false → Cond.instanceMethod (hb_mt a).1 ∈ hbTB ∧ Cond.selects (hb_mt a).1.cls (hb_mt a).1 (hb_mt a).1 ∈ hbTB) := by
  rw [hb_mt_bs h]
  have hb := hb_bs_lt (a := a)
  generalize hb_bs a = k at hb
  obtain ⟨i, hi⟩ := hb_mcm k hb
  have hk : k ∈ hbMf.map (fun q => q.1) := by rw [hb_mf_num]; exact List.mem_range.mpr hb
  obtain ⟨q, hq, rfl⟩ := List.mem_map.mp hk
  have h1 := List.all_eq_true.mp hb_mf_all q hq
  simp only [hb_mfok, Bool.and_eq_true] at h1
  refine ⟨hb_TB_at hi rfl, hb_wd_in h1.1, fun hs => ?_, fun hs => ?_⟩
  · have h2 := h1.2
    rw [hs] at h2
    exact hb_wd_in h2
  · have h2 := h1.2
    rw [hs] at h2
    simp only [Bool.and_eq_true] at h2
    exact ⟨hb_wd_in h2.1, hb_wd_in h2.2⟩
theorem hb_mt_y {a : Nat} (h : a < 208) : (hb_mt a).1.cls = hbOwn (hb_mt a).2.2.2.2.1 ∧ plainFor (hb_mt a).1 = true ∧ ((hb_mt a).1.cls ≠ "java/lang/invoke/MethodHandle" ∧ (hb_mt a).1.cls ≠ "java/lang/invoke/VarHandle") ∧ (parseMethodDescriptor (hb_mt a).1.desc).map (fun d => d.parameters.length) = some (hb_mt a).2.2.2.2.2.1 ∧ (hb_mt a).2.2.1 ≤ 41 := by
  rw [hb_mt_bs h]
  have h1 := List.all_eq_true.mp hb_y_all (hb_bs a) (List.mem_range.mpr hb_bs_lt)
  simp only [hb_yok, Bool.and_eq_true, decide_eq_true_eq] at h1
  exact ⟨h1.1, h1.2.1, h1.2.2.1, h1.2.2.2.1, h1.2.2.2.2⟩
theorem hb_fla_w {own i a b : Nat} (h : hb_fla own i a b = true) : ∃ c : vw_C, hbCl[a]? = some c ∧ b < c.2.2 ∧ Cond.fieldLink (hbOwn own) i (c.2.1 b).1 (c.2.1 b).2.1 (c.2.1 b).2.2.1 ∈ hbTB := by
  obtain ⟨q, hq, h1⟩ := List.any_eq_true.mp h
  simp only [Bool.and_eq_true, beq_iff_eq] at h1
  obtain ⟨e1, e2, e3, e4⟩ := h1
  have h2 := List.all_eq_true.mp hb_fl_all q hq
  subst e1; subst e2; subst e3; subst e4
  unfold hb_flok at h2
  cases hc : hbCl[q.2.2.1]? with
  | none => rw [hc] at h2; cases h2
  | some c =>
    rw [hc] at h2
    simp only [Bool.and_eq_true, decide_eq_true_eq] at h2
    exact ⟨c, rfl, h2.1, hb_wd_in h2.2⟩
theorem hb_csa_w {own i : Nat} {z : Int32} (h : hb_csa own i z = true) : Cond.constant (hbOwn own) i z ∈ hbTB := by
  obtain ⟨q, hq, h1⟩ := List.any_eq_true.mp h
  simp only [Bool.and_eq_true, beq_iff_eq, decide_eq_true_eq] at h1
  obtain ⟨e1, e2, e3⟩ := h1
  subst e1; subst e2; subst e3
  exact hb_wd_in (List.all_eq_true.mp hb_cs_all q hq)
theorem hb_cla_w {own i : Nat} {z : Int64} (h : hb_cla own i z = true) : Cond.constantLong (hbOwn own) i z ∈ hbTB := by
  obtain ⟨q, hq, h1⟩ := List.any_eq_true.mp h
  simp only [Bool.and_eq_true, beq_iff_eq, decide_eq_true_eq] at h1
  obtain ⟨e1, e2, e3⟩ := h1
  subst e1; subst e2; subst e3
  exact hb_wd_in (List.all_eq_true.mp hb_cl_all q hq)
theorem hb_mla_w {own i a : Nat} (h : hb_mla own i a = true) (ha : a < 208) : Cond.methodLink (hbOwn own) i (hb_mt a).1 ∈ hbTB := by
  obtain ⟨q, hq, h1⟩ := List.any_eq_true.mp h
  simp only [Bool.and_eq_true, beq_iff_eq] at h1
  obtain ⟨e1, e2, e3⟩ := h1
  subst e1; subst e2
  rw [hb_mt_bs ha, ← e3]
  exact hb_wd_in (List.all_eq_true.mp hb_ml_all q hq)
theorem hb_cl_in {ci : Nat} {c : vw_C} (h : hbCl[ci]? = some c) : ∀ w ∈ u_ws c.1 c.2.1 c.2.2, w ∈ hbTB := by
  have h1 := List.all_eq_true.mp hb_in_all c (List.mem_of_getElem? h)
  intro w hw
  simpa using List.all_eq_true.mp h1 w hw
theorem hb_cl_ty {ci : Nat} {c : vw_C} (h : hbCl[ci]? = some c) : (∃ ty : Nat → FieldType, ∀ k, k < c.2.2 → parseFieldDescriptor (c.2.1 k).2.2.1 = some (ty k)) ∧ ∀ a, a < c.2.2 → ∀ b, b < c.2.2 → a ≠ b → (c.2.1 a).2.1 ≠ (c.2.1 b).2.1 := by
  have hl : ci < 13 := (List.getElem?_eq_some_iff.mp h).1
  rcases (show ci = 0 ∨ ci = 1 ∨ ci = 2 ∨ ci = 3 ∨ ci = 4 ∨ ci = 5 ∨ ci = 6 ∨ ci = 7 ∨ ci = 8 ∨ ci = 9 ∨ ci = 10 ∨ ci = 11 ∨ ci = 12 by omega) with rfl | rfl | rfl | rfl | rfl | rfl | rfl | rfl | rfl | rfl | rfl | rfl | rfl <;> cases h
  · exact ⟨⟨tyX0, tyX0_ok⟩, nmX0⟩
  · exact ⟨⟨tyX1, tyX1_ok⟩, nmX1⟩
  · exact ⟨⟨tyX2, tyX2_ok⟩, nmX2⟩
  · exact ⟨⟨tyX3, tyX3_ok⟩, nmX3⟩
  · exact ⟨⟨tyX4, tyX4_ok⟩, nmX4⟩
  · exact ⟨⟨tyX5, tyX5_ok⟩, nmX5⟩
  · exact ⟨⟨tyX6, tyX6_ok⟩, nmX6⟩
  · exact ⟨⟨tyX7, tyX7_ok⟩, nmX7⟩
  · exact ⟨⟨tyX8, tyX8_ok⟩, nmX8⟩
  · exact ⟨⟨tyX9, tyX9_ok⟩, nmX9⟩
  · exact ⟨⟨tyX10, tyX10_ok⟩, nmX10⟩
  · exact ⟨⟨tyX11, tyX11_ok⟩, nmX11⟩
  · exact ⟨⟨tyX12, tyX12_ok⟩, nmX12⟩
