/-! what the tables and the start give: classes, rows, the text -/
theorem hl_nest_in : (hn_nest ++ hb_nest).all (fun w => decide (w ∈ lw_tbl) && w.onTables) = true := by decide +kernel
theorem hl_inst_in : hbCl.all (fun q => decide (Cond.instantiable q.1 q.2.2 ∈ lw_tbl)) = true := by decide +kernel
def hl_el (j : Nat) : Cond := .eq (.elem (.field (.string "HandBook$Tape" 46) "java/lang/String" "value" "[B") (.int (Int32.ofNat j))) (.int (hbW.getD j 0))
theorem hl_els : (List.range 68).all (fun j => decide (hl_el j ∈ flatC (Jvm.Cond.and given_1 narrow_1))) = true := by decide +kernel
set_option maxHeartbeats 4000000 in
theorem hl_G {s : State} {b : Nat} (hts : ∀ w ∈ lw_tbl, w.before #[Value.ref b] s = true) (hgv : (Jvm.Cond.and given_1 narrow_1).before #[Value.ref b] s = true) : ∃ (D : va_G) (cI cZ cS : ClassId) (α : Nat → Nat) (ov : Value), hn_G D cI cZ cS α ov (fun q => s.heap.size ≤ q) s ∧ ov.category = 1 := by
  have hs := flat_of_before _ hgv
  have hAn : ∀ a : Nat, a < s.heap.size → ¬ s.heap.size ≤ a := fun a h => Nat.not_le.mpr h
  obtain ⟨dC, dI, hKc⟩ : ∃ (dC : Nat → ClassId) (dI : Nat → Nat → Nat), ∀ (k : Nat) (q : vw_C), hbCl[k]? = some q → u_Kn s q.1 q.2.1 q.2.2 (dC k) (dI k) := by
    have h : ∀ k : Nat, ∃ z : ClassId × (Nat → Nat), ∀ q : vw_C, hbCl[k]? = some q → u_Kn s q.1 q.2.1 q.2.2 z.1 z.2 := by
      intro k
      cases hq : hbCl[k]? with
      | none => exact ⟨(0, fun _ => 0), fun q h => by cases h⟩
      | some q =>
        have hi : Cond.instantiable q.1 q.2.2 ∈ lw_tbl := by simpa using List.all_eq_true.mp hl_inst_in q (List.mem_of_getElem? hq)
        obtain ⟨c, iS, h⟩ := u_known (C := q.1) (T := q.2.1) (N := q.2.2) (n := q.2.2) hts (fun w hw => (List.mem_filter.mp (hb_cl_in hq w hw)).1) (hts _ hi)
        exact ⟨(c, iS), fun q' h' => by cases h'; exact h⟩
    obtain ⟨z, hz⟩ := Classical.axiomOfChoice h
    exact ⟨fun k => (z k).1, fun k => (z k).2, fun k q hq => hz k q hq⟩
  obtain ⟨cI, kI, compI, i1, i2, i3⟩ := Cond.arrayClass_spec (hts (.arrayClass .int) (by decide +kernel))
  obtain ⟨cZ, kZ, compZ, z1, z2, z3⟩ := Cond.arrayClass_spec (hts (.arrayClass .boolean) (by decide +kernel))
  have hov := hts (.arrayOver (.object "HandBook$Sheet")) (by decide +kernel)
  obtain ⟨compS, cS, kS, s1, s2, s3, s4, s5⟩ := Cond.arrayOver_spec hov
  obtain ⟨ov, v1, v2⟩ := Cond.isRef_spec (hs (.isRef (.static "jdk/internal/util/Preconditions" "SIOOBE_FORMATTER" "Ljava/util/function/BiFunction;")) (by decide +kernel))
  have hcat : ov.category = 1 := by cases ov <;> first | rfl | cases v2
  obtain ⟨adK, adV, hS, hE⟩ := vk_Sof (args := #[Value.ref b]) (s := s) (N := 1) (tm := fun _ => .string "HandBook$Tape" 46) (len := [68]) (byt := [hbW]) (A := fun q => s.heap.size ≤ q) (fun i hi => (by rw [show i = 0 by omega]; decide)) (fun i hi => hs _ (by decide +kernel)) (fun i hi => hs _ (by decide +kernel)) (fun i hi => hs _ (by decide +kernel)) (fun i hi => by
      obtain rfl : i = 0 := by omega
      exact hs _ (by decide +kernel)) (fun i hi j hj => by
      obtain rfl : i = 0 := by omega
      have hj' : j < 68 := hj
      exact hs (hl_el j) (by simpa using List.all_eq_true.mp hl_els j (List.mem_range.mpr hj'))) (fun i j hi hj hij => absurd (by omega) hij) hAn
  refine ⟨(dC, dI), cI, cZ, cS, fun c => if c = 1000 then adK 0 else adV 0, ov, ⟨⟨hKc, fun k q hq => ?_⟩, fun w hw => ?_, fun w hw => ?_, ⟨?_, ?_, ?_, ?_⟩, va_AO.of hov, fun q h => h⟩, hcat⟩
  · match k, hq with
    | 0, hq => cases hq; exact ⟨fun n z => ⟨fun k h => (by cases h), kI, i2, compI, i3⟩, i1⟩
    | 1, hq => cases hq; exact ⟨fun n z => ⟨fun k h => (by cases h), kZ, z2, compZ, z3⟩, z1⟩
    | 2, hq => cases hq; exact ⟨fun n z => ⟨fun k h => (by cases h), kS, s3, compS, s4⟩, kS, compS, s3, s4, s1, s5⟩
    | k + 3, hq => simp at hq
  · have h1 := List.all_eq_true.mp hl_nest_in w (List.mem_append_left _ hw)
    simp only [Bool.and_eq_true, decide_eq_true_eq] at h1
    exact va_Nw.of h1.2 (hts w h1.1)
  · have h1 := List.all_eq_true.mp hl_nest_in w (List.mem_append_right _ hw)
    simp only [Bool.and_eq_true, decide_eq_true_eq] at h1
    exact va_Nw.of h1.2 (hts w h1.1)
  · exact vk_R.of (A := #[Value.ref b]) (hts _ (by decide +kernel)) (hE 0 (by decide))
  · exact ⟨fun i hi => by
      obtain rfl : i = 0 := by omega
      exact hS.1 0 hi, fun i j hi hj _ => by omega⟩
  · exact va_Zof (hts _ (by decide +kernel)) (hts _ (by decide +kernel)) (va_eqi (hs _ (by decide +kernel))) hAn
  · exact va_Zof (hts _ (by decide +kernel)) (hts _ (by decide +kernel)) v1 hAn
theorem hb_w_D2 {α : Nat → Nat} {cI cZ cS : ClassId} {σ : hbM} {sh : List hbS} {A : Nat → Prop} (h : va_D A (hb_w α cI cZ cS σ sh)) : hb_inj α sh.length ∧ ∀ c, c < sh.length → A (α c) := by
  have hat : ∀ c, c < sh.length → ∃ en, (hb_w α cI cZ cS σ sh)[c]? = some (α c, en) := fun c hc => ⟨_, hb_w_at (List.getElem?_eq_getElem hc)⟩
  refine ⟨fun i j hi hj he => ?_, fun c hc => ?_⟩
  · obtain ⟨e1, q1⟩ := hat i hi
    obtain ⟨e2, q2⟩ := hat j hj
    exact h.1 i j _ _ q1 q2 he
  · obtain ⟨e1, q1⟩ := hat c hc
    exact h.2 c _ q1
