/-! the law: its switch and its loop -/
theorem hl_and31 (w : Int32) : ∃ t, t < 32 ∧ w &&& 31 = nI t := by
  refine ⟨(w.toBitVec &&& 31#32).toNat, ?_, ?_⟩
  · rw [BitVec.toNat_and]
    exact Nat.lt_of_le_of_lt Nat.and_le_right (by decide)
  · apply Int32.toBitVec_inj.mp
    rw [Int32.toBitVec_and]
    show w.toBitVec &&& 31#32 = (Int32.ofNat (w.toBitVec &&& 31#32).toNat).toBitVec
    show w.toBitVec &&& 31#32 = BitVec.ofNat 32 (w.toBitVec &&& 31#32).toNat
    rw [BitVec.ofNat_toNat, BitVec.setWidth_eq]
theorem hl_cond {L n : Nat} (hL : L ≤ 3072) (hn : 6 * n ≤ L) (h : L < 6 * n + 6) : Int32.ofNat L - 6 < nI (6 * n) := by
  show nI L - nI 6 < nI (6 * n)
  rcases Nat.lt_or_ge L 6 with q | q
  · have e : n = 0 := by omega
    subst e
    rcases (show L = 0 ∨ L = 1 ∨ L = 2 ∨ L = 3 ∨ L = 4 ∨ L = 5 by omega) with rfl | rfl | rfl | rfl | rfl | rfl <;> decide
  · rw [q_sub q]
    exact nI_lt (by omega) (by omega)
theorem J_succ {n : Nat} {σ : hbM} (h : J n σ) : J (n + 1) σ := ⟨h.1, jR_le (Nat.le_succ n) h.2⟩
section
variable {p : Program} {l : Launch} {e : Env} {s : State} {m : MethodId} {below : List Frame} {meth : Method} {c : Code} {cells slots : Nat} {b L : Nat} {xs : Nat → Int32} {D : va_G} {cI cZ cS : ClassId} {α : Nat → Nat} {ov : Value} {A : Nat → Prop}
set_option maxRecDepth 100000 in
theorem law_body (C : hl_C p s m c b L xs D cI cZ cS α ov A) {n : Nat} {ls : Array Slot} {σ : hbM} (hl : hl_L α b n ls) (hcl : cells ≤ 600000) (hsl : slots ≤ 7302250) (hL : L ≤ 3072) (hn : 6 * n + 6 ≤ L) (hJ : J n σ) (k : ∀ σ2, J (n + 1) σ2 → hl_W p l e s m below meth c b D cI cZ cS α A cells slots σ2 1067 ls []) : hl_W p l e s m below meth c b D cI cZ cS α A cells slots σ 27 ls [] := by
  intro H locs hP hS
  obtain ⟨hx, hb, hml, hown, hts, hX, hbl, hbA, -⟩ := id C
  refine lv_aload_n hx hb dl_27 rfl (lv_at hl 3 rfl) ?_
  refine lv_iload_n hx hb dl_28 rfl (lv_at hl 0 rfl) ?_
  refine va_sld hx hb hX hbl hbA hS (vp_in_nI (by omega) (by omega)) dl_29 ?_
  refine lv_bipush (v := 31) hx hb dl_30 (by decide +kernel) ?_
  refine lv_iand hx hb dl_32 ?_
  obtain ⟨t, ht, e31⟩ := hl_and31 (xs (nI (6 * n)).toNatClampNeg)
  rw [e31]
  rcases (show t = 0 ∨ t = 1 ∨ t = 2 ∨ t = 3 ∨ t = 4 ∨ t = 5 ∨ t = 6 ∨ t = 7 ∨ t = 8 ∨ t = 9 ∨ t = 10 ∨ t = 11 ∨ t = 12 ∨ t = 13 ∨ t = 14 ∨ t = 15 ∨ t = 16 ∨ t = 17 ∨ t = 18 ∨ t = 19 ∨ t = 20 ∨ t = 21 ∨ t = 22 ∨ t = 23 ∨ t = 24 ∨ t = 25 ∨ t = 26 ∨ t = 27 ∨ t = 28 ∨ t = 29 ∨ t = 30 ∨ t = 31 by omega) with rfl | rfl | rfl | rfl | rfl | rfl | rfl | rfl | rfl | rfl | rfl | rfl | rfl | rfl | rfl | rfl | rfl | rfl | rfl | rfl | rfl | rfl | rfl | rfl | rfl | rfl | rfl | rfl | rfl | rfl | rfl | rfl
  · exact lv_tableIn hx hb dl_33 (by decide +kernel) (by decide +kernel) (off := 123) (by decide +kernel) (tgt := 156) (by decide) (law_0 C hl hcl hsl hL hn hJ k H locs hP hS)
  · exact lv_tableIn hx hb dl_33 (by decide +kernel) (by decide +kernel) (off := 166) (by decide +kernel) (tgt := 199) (by decide) (law_1 C hl hcl hsl hL hn hJ k H locs hP hS)
  · exact lv_tableIn hx hb dl_33 (by decide +kernel) (by decide +kernel) (off := 209) (by decide +kernel) (tgt := 242) (by decide) (law_2 C hl hcl hsl hL hn hJ k H locs hP hS)
  · exact lv_tableIn hx hb dl_33 (by decide +kernel) (by decide +kernel) (off := 272) (by decide +kernel) (tgt := 305) (by decide) (law_3 C hl hcl hsl hL hn hJ k H locs hP hS)
  · exact lv_tableIn hx hb dl_33 (by decide +kernel) (by decide +kernel) (off := 295) (by decide +kernel) (tgt := 328) (by decide) (law_4 C hl hcl hsl hL hn hJ k H locs hP hS)
  · exact lv_tableIn hx hb dl_33 (by decide +kernel) (by decide +kernel) (off := 358) (by decide +kernel) (tgt := 391) (by decide) (law_5 C hl hcl hsl hL hn hJ k H locs hP hS)
  · exact lv_tableIn hx hb dl_33 (by decide +kernel) (by decide +kernel) (off := 371) (by decide +kernel) (tgt := 404) (by decide) (law_6 C hl hcl hsl hL hn hJ k H locs hP hS)
  · exact lv_tableIn hx hb dl_33 (by decide +kernel) (by decide +kernel) (off := 384) (by decide +kernel) (tgt := 417) (by decide) (law_7 C hl hcl hsl hL hn hJ k H locs hP hS)
  · exact lv_tableIn hx hb dl_33 (by decide +kernel) (by decide +kernel) (off := 417) (by decide +kernel) (tgt := 450) (by decide) (law_8 C hl hcl hsl hL hn hJ k H locs hP hS)
  · exact lv_tableIn hx hb dl_33 (by decide +kernel) (by decide +kernel) (off := 450) (by decide +kernel) (tgt := 483) (by decide) (law_9 C hl hcl hsl hL hn hJ k H locs hP hS)
  · exact lv_tableIn hx hb dl_33 (by decide +kernel) (by decide +kernel) (off := 493) (by decide +kernel) (tgt := 526) (by decide) (law_10 C hl hcl hsl hL hn hJ k H locs hP hS)
  · exact lv_tableIn hx hb dl_33 (by decide +kernel) (by decide +kernel) (off := 516) (by decide +kernel) (tgt := 549) (by decide) (law_11 C hl hcl hsl hL hn hJ k H locs hP hS)
  · exact lv_tableIn hx hb dl_33 (by decide +kernel) (by decide +kernel) (off := 549) (by decide +kernel) (tgt := 582) (by decide) (law_12 C hl hcl hsl hL hn hJ k H locs hP hS)
  · exact lv_tableIn hx hb dl_33 (by decide +kernel) (by decide +kernel) (off := 592) (by decide +kernel) (tgt := 625) (by decide) (law_13 C hl hcl hsl hL hn hJ k H locs hP hS)
  · exact lv_tableIn hx hb dl_33 (by decide +kernel) (by decide +kernel) (off := 625) (by decide +kernel) (tgt := 658) (by decide) (law_14 C hl hcl hsl hL hn hJ k H locs hP hS)
  · exact lv_tableIn hx hb dl_33 (by decide +kernel) (by decide +kernel) (off := 668) (by decide +kernel) (tgt := 701) (by decide) (law_15 C hl hcl hsl hL hn hJ k H locs hP hS)
  · exact lv_tableIn hx hb dl_33 (by decide +kernel) (by decide +kernel) (off := 701) (by decide +kernel) (tgt := 734) (by decide) (law_16 C hl hcl hsl hL hn hJ k H locs hP hS)
  · exact lv_tableIn hx hb dl_33 (by decide +kernel) (by decide +kernel) (off := 744) (by decide +kernel) (tgt := 777) (by decide) (law_17 C hl hcl hsl hL hn hJ k H locs hP hS)
  · exact lv_tableIn hx hb dl_33 (by decide +kernel) (by decide +kernel) (off := 777) (by decide +kernel) (tgt := 810) (by decide) (law_18 C hl hcl hsl hL hn hJ k H locs hP hS)
  · exact lv_tableIn hx hb dl_33 (by decide +kernel) (by decide +kernel) (off := 810) (by decide +kernel) (tgt := 843) (by decide) (law_19 C hl hcl hsl hL hn hJ k H locs hP hS)
  · exact lv_tableIn hx hb dl_33 (by decide +kernel) (by decide +kernel) (off := 853) (by decide +kernel) (tgt := 886) (by decide) (law_20 C hl hcl hsl hL hn hJ k H locs hP hS)
  · exact lv_tableIn hx hb dl_33 (by decide +kernel) (by decide +kernel) (off := 886) (by decide +kernel) (tgt := 919) (by decide) (law_21 C hl hcl hsl hL hn hJ k H locs hP hS)
  · exact lv_tableIn hx hb dl_33 (by decide +kernel) (by decide +kernel) (off := 909) (by decide +kernel) (tgt := 942) (by decide) (law_22 C hl hcl hsl hL hn hJ k H locs hP hS)
  · exact lv_tableIn hx hb dl_33 (by decide +kernel) (by decide +kernel) (off := 942) (by decide +kernel) (tgt := 975) (by decide) (law_23 C hl hcl hsl hL hn hJ k H locs hP hS)
  · exact lv_tableIn hx hb dl_33 (by decide +kernel) (by decide +kernel) (off := 975) (by decide +kernel) (tgt := 1008) (by decide) (law_24 C hl hcl hsl hL hn hJ k H locs hP hS)
  · exact lv_tableIn hx hb dl_33 (by decide +kernel) (by decide +kernel) (off := 998) (by decide +kernel) (tgt := 1031) (by decide) (law_25 C hl hcl hsl hL hn hJ k H locs hP hS)
  · exact lv_tableIn hx hb dl_33 (by decide +kernel) (by decide +kernel) (off := 1021) (by decide +kernel) (tgt := 1054) (by decide) (law_26 C hl hcl hsl hL hn hJ k H locs hP hS)
  · exact lv_tableOut hx hb dl_33 (by decide +kernel) (tgt := 1067) (by decide) (k σ (J_succ hJ) H locs hP hS)
  · exact lv_tableOut hx hb dl_33 (by decide +kernel) (tgt := 1067) (by decide) (k σ (J_succ hJ) H locs hP hS)
  · exact lv_tableOut hx hb dl_33 (by decide +kernel) (tgt := 1067) (by decide) (k σ (J_succ hJ) H locs hP hS)
  · exact lv_tableOut hx hb dl_33 (by decide +kernel) (tgt := 1067) (by decide) (k σ (J_succ hJ) H locs hP hS)
  · exact lv_tableOut hx hb dl_33 (by decide +kernel) (tgt := 1067) (by decide) (k σ (J_succ hJ) H locs hP hS)
theorem law_loop (C : hl_C p s m c b L xs D cI cZ cS α ov A) (hAs : ∀ q, A q → s.heap.size ≤ q) (hr : meth.sig.returnType = ret) (hlocks : meth.locks = false) (hcl : cells ≤ 600000) (hsl : slots ≤ 7302250) (hL : L ≤ 3072) : ∀ (f n : Nat) (σ : hbM) (ls : Array Slot), L ≤ 6 * (n + f) + 5 → 6 * n ≤ L → J n σ → hl_L α b n ls → hl_W p l e s m below meth c b D cI cZ cS α A cells slots σ 18 ls [] := by
  have key : ∀ (n : Nat) (σ : hbM) (ls : Array Slot), 6 * n ≤ L → hl_L α b n ls → (6 * n + 6 ≤ L → hl_W p l e s m below meth c b D cI cZ cS α A cells slots σ 27 ls []) → hl_W p l e s m below meth c b D cI cZ cS α A cells slots σ 18 ls [] := by
    intro n σ ls hn hl k H locs hP hS
    obtain ⟨hx, hb, hml, hown, hts, hX, hbl, hbA, -⟩ := id C
    refine lv_iload_n hx hb dl_18 rfl (lv_at hl 0 rfl) ?_
    refine lv_aload_n hx hb dl_19 rfl (lv_at hl 3 rfl) ?_
    refine va_slen hx hb hX hbl hbA hS dl_20 ?_
    refine lv_bipush (v := 6) hx hb dl_21 (by decide +kernel) ?_
    refine lv_isub hx hb dl_23 ?_
    refine lv_icmp_gt (tgt := 1073) hx hb dl_24 (by decide) (fun h => ?_) (fun h => ?_)
    · refine lv_iconst (v := 1) hx hb dl_1073 (by decide +kernel) ?_
      refine va_forget (fun q hq => hAs _ (hS.2.2 q hq)) ?_
      refine W.widen (k := 600000) (n := 7302250) hcl hsl ?_
      exact lw_ret hx hb hr hlocks dl_1074
    · refine k ?_ H locs hP hS
      rcases Nat.lt_or_ge L (6 * n + 6) with q | q
      · exact absurd (hl_cond hL hn q) h
      · exact q
  intro f
  induction f with
  | zero =>
    intro n σ ls hf hn hJ hl
    exact key n σ ls hn hl (fun h => absurd h (by omega))
  | succ f ih =>
    intro n σ ls hf hn hJ hl
    refine key n σ ls hn hl (fun h6 => law_body C hl hcl hsl hL h6 hJ (fun σ2 hJ2 => ?_))
    intro H locs hP hS
    obtain ⟨hx, hb, -⟩ := id C
    refine lv_iinc (v := nI (6 * (n + 1))) (lv' := [(3, .int (nI (6 * (n + 1)))), (2, .ref (α 54)), (1, .ref (α 13)), (0, .ref b)]) hx hb dl_1067 hl (k := 0) rfl (by rw [show Int32.ofInt 6 = nI 6 by decide +kernel, q_add]; rfl) (by decide) rfl (fun ls hl => ?_)
    refine lv_goto (tgt := 18) hx hb dl_1070 (by decide) ?_
    exact ih (n + 1) σ2 ls (by omega) (by omega) hJ2 hl H locs hP hS
end
