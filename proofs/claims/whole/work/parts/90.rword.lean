/-! the reference's words and numbers -/
theorem l_shl8 {a : Nat} (ha : a < 72057594037927936) : lN a <<< ((8 : Int32).toInt64 &&& 63) = lN (256 * a) := by
  have h8 : ((8 : Int32).toInt64 &&& 63) = lN 8 := by decide
  rw [h8]
  apply Int64.toBitVec_inj.mp
  rw [Int64.toBitVec_shiftLeft, show (lN 8).toBitVec.smod 64 = BitVec.ofNat 64 8 by decide]
  apply BitVec.eq_of_toNat_eq
  show (BitVec.ofNat 64 a <<< BitVec.ofNat 64 8).toNat = (BitVec.ofNat 64 (256 * a)).toNat
  rw [BitVec.shiftLeft_eq', BitVec.toNat_shiftLeft, BitVec.toNat_ofNat, BitVec.toNat_ofNat, BitVec.toNat_ofNat, Nat.shiftLeft_eq, Nat.mod_eq_of_lt (show a < 2 ^ 64 by omega), show (8 % 2 ^ 64) = 8 from rfl, Nat.mul_comm a]
theorem l_or8 {a b : Nat} (ha : a < 72057594037927936) (hb : b < 256) : lN (256 * a) ||| lN b = lN (256 * a + b) := by
  apply Int64.toBitVec_inj.mp
  rw [Int64.toBitVec_or]
  apply BitVec.eq_of_toNat_eq
  show (BitVec.ofNat 64 (256 * a) ||| BitVec.ofNat 64 b).toNat = (BitVec.ofNat 64 (256 * a + b)).toNat
  rw [BitVec.toNat_or, BitVec.toNat_ofNat, BitVec.toNat_ofNat, BitVec.toNat_ofNat, Nat.mod_eq_of_lt (show 256 * a < 2 ^ 64 by omega), Nat.mod_eq_of_lt (show b < 2 ^ 64 by omega), Nat.mod_eq_of_lt (show 256 * a + b < 2 ^ 64 by omega), ← Nat.two_pow_add_eq_or_of_lt (i := 8) (by omega : b < 2 ^ 8) a]
section
variable (bt : Nat → Nat) (n : Nat)
def wv (k : Nat) : Nat := if rY bt n k = 2 ∧ rE bt n k - tkS bt n k < 8 then pkN bt (tkS bt n k) (rE bt n k - tkS bt n k) else 0
end
section
variable {bt : Nat → Nat} {n : Nat}
theorem pkN_lt (h : ∀ x, bt x < 256) (i : Nat) : ∀ l, pkN bt i l < 256 ^ l := by
  intro l
  induction l with
  | zero => exact Nat.one_pos
  | succ l ih =>
    have := h (i + l)
    show 256 * pkN bt i l + bt (i + l) < 256 ^ (l + 1)
    rw [Nat.pow_succ]
    omega
theorem pkN_lt7 (h : ∀ x, bt x < 256) (i : Nat) {l : Nat} (hl : l < 8) : pkN bt i l < 72057594037927936 := by
  have h1 := pkN_lt h i l
  have h2 : 256 ^ l ≤ 256 ^ 7 := Nat.pow_le_pow_right (by omega) (by omega)
  have h3 : (256 : Nat) ^ 7 = 72057594037927936 := by decide
  omega
theorem rE_b (hn : n ≤ 400) (k : Nat) : tkS bt n k ≤ rE bt n k ∧ rE bt n k ≤ n := by
  have := tkS_le (bt := bt) hn k
  unfold rE
  split
  · rename_i h; have := enT_sp (bt := bt) hn h; omega
  · omega
theorem s126 {k : Nat} {σ : hbM} (hT : rTp bt n σ) (hR : rT bt n σ k) : hb_ev hbSH 126 [.ref 54] σ = some (some (.long (lN (wv bt n k))), σ) := by
  obtain ⟨⟨hn, h256, hb⟩, h25⟩ := hT
  obtain ⟨r1, r2, r3, r4⟩ := hR
  obtain ⟨e1, e2⟩ := rE_b (bt := bt) hn k
  have hy : rY bt n k < 5 := by unfold rY; repeat' split
                                all_goals omega
  rw [v126, e126_0, r1]
  have e22 : (nI (rY bt n k) = (2 : Int32)) = (rY bt n k = 2) := q_eq (b := 2) (by omega) (by omega)
  by_cases hc : rY bt n k = 2 ∧ rE bt n k - tkS bt n k < 8
  · have hw : wv bt n k = pkN bt (tkS bt n k) (rE bt n k - tkS bt n k) := by unfold wv; rw [if_pos hc]
    rw [hw]
    have key : ∀ (f l : Nat), l + f = rE bt n k - tkS bt n k → hb_run hbSH 126 (7, [.ref 54, .long (lN (pkN bt (tkS bt n k) l)), .null, .int (nI (tkS bt n k + l))], [], σ) = some (some (.long (lN (pkN bt (tkS bt n k) (rE bt n k - tkS bt n k)))), σ) := by
      intro f
      induction f with
      | zero =>
        intro l hl
        have hl' : l = rE bt n k - tkS bt n k := by omega
        rw [e126_7, r3, if_pos (by rw [q_le (by omega) (by omega)]; omega), hl']
      | succ f ih =>
        intro l hl
        have hp := pkN_lt7 h256 (tkS bt n k) (l := l) (by omega)
        have hbt := h256 (tkS bt n k + l)
        rw [e126_7, r3, if_neg (by rw [q_le (by omega) (by omega)]; omega), r4]
        simp only [e22]
        rw [if_neg (fun z => z hc.1), r1, q_sub e1, if_neg (by rw [q_8, q_le (by omega) (by omega)]; omega), q_inT (by omega) (by omega), hb_g_t, hb_g_nil, q_cl (by omega), hb _ (by omega), nI_l (by omega), l_shl8 hp, l_or8 hp hbt, nI_1]
        exact ih (l + 1) (by omega)
    have := key (rE bt n k - tkS bt n k) 0 (by omega)
    rw [Nat.add_zero] at this
    exact this
  · have hw : wv bt n k = 0 := by unfold wv; rw [if_neg hc]
    rw [hw, e126_7, r3]
    by_cases z1 : nI (rE bt n k) ≤ nI (tkS bt n k)
    · rw [if_pos z1]; rfl
    · rw [if_neg z1, r4]
      simp only [e22]
      by_cases z2 : rY bt n k = 2
      · rw [if_neg (fun y => y z2), r1, q_sub e1, if_pos (by rw [q_8, q_le (by omega) (by omega)]; have : ¬ rE bt n k - tkS bt n k < 8 := fun y => hc ⟨z2, y⟩; omega)]; rfl
      · rw [if_pos z2]; rfl
theorem WS_p : ∀ x, x < 15 → 0 < pkW (WS.getD x []) ∧ pkW (WS.getD x []) < 72057594037927936 := by decide +kernel
theorem wv_iff (hn : n ≤ 400) (h256 : ∀ x, bt x < 256) {k x : Nat} (hx : x < 15) : lN (wv bt n k) = lN (pkW (WS.getD x [])) ↔ tkD bt n k = x := by
  obtain ⟨p1, p2⟩ := WS_p x hx
  have hwl : wv bt n k < 72057594037927936 := by
    unfold wv
    split
    · rename_i h; exact pkN_lt7 h256 _ h.2
    · omega
  rw [pk_lEQ (by omega) (by omega)]
  have h15 : WS.length = 15 := rfl
  by_cases h2 : rY bt n k = 2
  · have hs : tkS bt n k < n ∧ isL (bt (tkS bt n k)) = true := by
      unfold rY at h2
      split at h2
      · rename_i h
        refine ⟨h, ?_⟩
        cases z : isL (bt (tkS bt n k)) with
        | true => rfl
        | false =>
          rw [z, if_neg (by decide)] at h2
          split at h2
          · split at h2 <;> omega
          · split at h2 <;> omega
      · omega
    have hre : rE bt n k = enT bt n (tkS bt n k) := by unfold rE; rw [if_pos hs.1]
    have hd : tkD bt n k = ffW bt (tkS bt n k) (enT bt n (tkS bt n k)) WS 0 := by unfold tkD cOT; rw [if_pos hs.1, if_pos hs.2]
    rw [hd, code_pk hn h256 hs.1 hs.2 hx]
    unfold wv
    rw [hre]
    constructor
    · intro h
      split at h
      · rename_i hc; exact ⟨hc.2, h⟩
      · omega
    · rintro ⟨a, b⟩
      rw [if_pos ⟨h2, a⟩]; exact b
  · have hw : wv bt n k = 0 := by unfold wv; rw [if_neg (fun z => h2 z.1)]
    rw [hw]
    constructor
    · intro z; omega
    · intro z
      exfalso
      unfold rY at h2
      unfold tkD at z
      split at h2
      · rename_i h
        rw [if_pos h] at z
        unfold cOT at z
        split at h2
        · omega
        · rename_i hl
          rw [if_neg hl] at z
          split at z
          · split at z <;> omega
          · split at z <;> omega
      · rename_i h
        rw [if_neg h] at z
        omega
end
