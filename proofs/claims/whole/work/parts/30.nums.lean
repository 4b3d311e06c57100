/-! NUMBERS: ints that stand for natural numbers (nI), and rows to rewrite with (side conditions by omega) -/
theorem q_0 : (0 : Int32) = nI 0 := rfl
theorem q_1 : (1 : Int32) = nI 1 := rfl
theorem q_2 : (2 : Int32) = nI 2 := rfl
theorem q_3 : (3 : Int32) = nI 3 := rfl
theorem q_4 : (4 : Int32) = nI 4 := rfl
theorem q_5 : (5 : Int32) = nI 5 := rfl
theorem q_6 : (6 : Int32) = nI 6 := rfl
theorem q_7 : (7 : Int32) = nI 7 := rfl
theorem q_8 : (8 : Int32) = nI 8 := rfl
theorem q_9 : (9 : Int32) = nI 9 := rfl
theorem q_10 : (10 : Int32) = nI 10 := rfl
theorem q_11 : (11 : Int32) = nI 11 := rfl
theorem q_12 : (12 : Int32) = nI 12 := rfl
theorem q_13 : (13 : Int32) = nI 13 := rfl
theorem q_14 : (14 : Int32) = nI 14 := rfl
theorem q_15 : (15 : Int32) = nI 15 := rfl
theorem q_16 : (16 : Int32) = nI 16 := rfl
theorem q_17 : (17 : Int32) = nI 17 := rfl
theorem q_18 : (18 : Int32) = nI 18 := rfl
theorem q_19 : (19 : Int32) = nI 19 := rfl
theorem q_20 : (20 : Int32) = nI 20 := rfl
theorem q_21 : (21 : Int32) = nI 21 := rfl
theorem q_22 : (22 : Int32) = nI 22 := rfl
theorem q_23 : (23 : Int32) = nI 23 := rfl
theorem q_24 : (24 : Int32) = nI 24 := rfl
theorem q_25 : (25 : Int32) = nI 25 := rfl
theorem q_26 : (26 : Int32) = nI 26 := rfl
theorem q_27 : (27 : Int32) = nI 27 := rfl
theorem q_28 : (28 : Int32) = nI 28 := rfl
theorem q_29 : (29 : Int32) = nI 29 := rfl
theorem q_30 : (30 : Int32) = nI 30 := rfl
theorem q_31 : (31 : Int32) = nI 31 := rfl
theorem q_32 : (32 : Int32) = nI 32 := rfl
theorem q_33 : (33 : Int32) = nI 33 := rfl
theorem q_34 : (34 : Int32) = nI 34 := rfl
theorem q_35 : (35 : Int32) = nI 35 := rfl
theorem q_36 : (36 : Int32) = nI 36 := rfl
theorem q_37 : (37 : Int32) = nI 37 := rfl
theorem q_38 : (38 : Int32) = nI 38 := rfl
theorem q_39 : (39 : Int32) = nI 39 := rfl
theorem q_40 : (40 : Int32) = nI 40 := rfl
theorem q_41 : (41 : Int32) = nI 41 := rfl
theorem q_42 : (42 : Int32) = nI 42 := rfl
theorem q_43 : (43 : Int32) = nI 43 := rfl
theorem q_44 : (44 : Int32) = nI 44 := rfl
theorem q_45 : (45 : Int32) = nI 45 := rfl
theorem q_46 : (46 : Int32) = nI 46 := rfl
theorem q_47 : (47 : Int32) = nI 47 := rfl
theorem q_48 : (48 : Int32) = nI 48 := rfl
theorem q_49 : (49 : Int32) = nI 49 := rfl
theorem q_50 : (50 : Int32) = nI 50 := rfl
theorem q_51 : (51 : Int32) = nI 51 := rfl
theorem q_52 : (52 : Int32) = nI 52 := rfl
theorem q_53 : (53 : Int32) = nI 53 := rfl
theorem q_54 : (54 : Int32) = nI 54 := rfl
theorem q_55 : (55 : Int32) = nI 55 := rfl
theorem q_56 : (56 : Int32) = nI 56 := rfl
theorem q_57 : (57 : Int32) = nI 57 := rfl
theorem q_58 : (58 : Int32) = nI 58 := rfl
theorem q_59 : (59 : Int32) = nI 59 := rfl
theorem q_60 : (60 : Int32) = nI 60 := rfl
theorem q_61 : (61 : Int32) = nI 61 := rfl
theorem q_62 : (62 : Int32) = nI 62 := rfl
theorem q_63 : (63 : Int32) = nI 63 := rfl
theorem q_97 : (97 : Int32) = nI 97 := rfl
theorem q_99 : (99 : Int32) = nI 99 := rfl
theorem q_100 : (100 : Int32) = nI 100 := rfl
theorem q_122 : (122 : Int32) = nI 122 := rfl
theorem q_128 : (128 : Int32) = nI 128 := rfl
theorem q_255 : (255 : Int32) = nI 255 := rfl
theorem q_320 : (320 : Int32) = nI 320 := rfl
theorem q_400 : (400 : Int32) = nI 400 := rfl
theorem q_401 : (401 : Int32) = nI 401 := rfl
theorem q_1000 : (1000 : Int32) = nI 1000 := rfl
theorem q_1008 : (1008 : Int32) = nI 1008 := rfl
theorem q_1023 : (1023 : Int32) = nI 1023 := rfl
theorem q_1024 : (1024 : Int32) = nI 1024 := rfl
theorem q_17408 : (17408 : Int32) = nI 17408 := rfl
theorem q_52224 : (52224 : Int32) = nI 52224 := rfl
theorem q_65535 : (65535 : Int32) = nI 65535 := rfl
theorem q_m1 : (-1 : Int32) = nI 4294967295 := by decide
theorem q_lt {a b : Nat} (ha : a < 2147483648) (hb : b < 2147483648) : (nI a < nI b) = (a < b) := propext (nI_ltI (by omega) (by omega))
theorem q_le {a b : Nat} (ha : a < 2147483648) (hb : b < 2147483648) : (nI a ≤ nI b) = (a ≤ b) := propext (nI_leI (by omega) (by omega))
theorem q_eq {a b : Nat} (ha : a < 2147483648) (hb : b < 2147483648) : (nI a = nI b) = (a = b) := propext (nI_eq (by omega) (by omega))
theorem q_cl {a : Nat} (ha : a < 2147483648) : (nI a).toNatClampNeg = a := nI_clamp (by omega)
theorem q_ti {a : Nat} (ha : a < 2147483648) : (nI a).toInt = (a : Int) := nI_toInt (by omega)
theorem q_in {a n : Nat} (ha : a < 2147483648) : hb_in (nI a) n = decide (a < n) := by
  unfold hb_in
  rw [nI_clamp (by omega)]
  have h : ¬ nI a < 0 := nI_pos (by omega)
  by_cases hn : a < n
  · simp [h, hn]
  · simp [h, hn]; omega
theorem q_inT {a n : Nat} (ha : a < 2147483648) (hn : a < n) : hb_in (nI a) n = true := by rw [q_in ha]; exact decide_eq_true hn
theorem q_in_of {x : Int32} {n : Nat} (h : hb_in x n = true) : ∃ a : Nat, a < n ∧ x = nI a := by
  unfold hb_in at h
  simp only [Bool.not_eq_true', Bool.or_eq_false_iff, decide_eq_false_iff_not] at h
  obtain ⟨j, hj, rfl⟩ := nI_of h.1
  exact ⟨j, by have := h.2; rw [nI_clamp hj] at this; omega, rfl⟩
theorem q_add (a b : Nat) : nI a + nI b = nI (a + b) := nI_add a b
theorem q_mul (a b : Nat) : nI a * nI b = nI (a * b) := pk_mul a b
theorem q_sub {a b : Nat} (h : b ≤ a) : nI a - nI b = nI (a - b) := pk_sub h
theorem q_div {a d : Nat} (ha : a < 2147483648) (h0 : 0 < d) (hd : d < 2147483648) : nI a / nI d = nI (a / d) := pk_div (by omega) h0 (by omega)
theorem q_rem {a d : Nat} (ha : a < 2147483648) (h0 : 0 < d) (hd : d < 2147483648) : nI a - nI (a / d) * nI d = nI (a % d) := by
  rw [← pk_div (by omega) h0 (by omega)]; exact pk_rem (by omega) h0 (by omega)
theorem q_bv (a : Nat) : (nI a).toBitVec = BitVec.ofNat 32 a := rfl
theorem q_inj {x y : Int32} (h : x.toBitVec = y.toBitVec) : x = y := by
  exact Int32.toBitVec_inj.mp h
theorem q_and (a b : Nat) : nI a &&& nI b = nI (a &&& b) := by
  apply q_inj
  show BitVec.ofNat 32 a &&& BitVec.ofNat 32 b = BitVec.ofNat 32 (a &&& b)
  apply BitVec.eq_of_getLsbD_eq
  intro i hi
  simp only [BitVec.getLsbD_and, BitVec.getLsbD_ofNat, hi, decide_true, Bool.true_and, Nat.testBit_and]
theorem q_or (a b : Nat) : nI a ||| nI b = nI (a ||| b) := by
  apply q_inj
  show BitVec.ofNat 32 a ||| BitVec.ofNat 32 b = BitVec.ofNat 32 (a ||| b)
  apply BitVec.eq_of_getLsbD_eq
  intro i hi
  simp only [BitVec.getLsbD_or, BitVec.getLsbD_ofNat, hi, decide_true, Bool.true_and, Nat.testBit_or]
theorem q_xor (a b : Nat) : nI a ^^^ nI b = nI (a ^^^ b) := by
  apply q_inj
  show BitVec.ofNat 32 a ^^^ BitVec.ofNat 32 b = BitVec.ofNat 32 (a ^^^ b)
  apply BitVec.eq_of_getLsbD_eq
  intro i hi
  simp only [BitVec.getLsbD_xor, BitVec.getLsbD_ofNat, hi, decide_true, Bool.true_and, Nat.testBit_xor]
theorem q_sh31 : ∀ k, k < 32 → ((nI k &&& 31).toBitVec.smod 32).toNat = k := by decide +kernel
theorem q_shr {a k : Nat} (ha : a < 2147483648) (hk : k < 32) : nI a >>> (nI k &&& 31) = nI (a / 2 ^ k) := pk_shrN (by omega) _ k (q_sh31 k hk)
theorem q_shl {a k : Nat} (hk : k < 32) (h : a * 2 ^ k < 4294967296) : nI a <<< (nI k &&& 31) = nI (a * 2 ^ k) := pk_shlN _ k (q_sh31 k hk) (by omega)
theorem q_sh0 : ∀ k, k < 32 → ((nI k).toBitVec.smod 32).toNat = k := by decide +kernel
theorem q_shrn {a k : Nat} (ha : a < 2147483648) (hk : k < 32) : nI a >>> nI k = nI (a / 2 ^ k) := pk_shrN (by omega) _ k (q_sh0 k hk)
theorem q_shln {a k : Nat} (hk : k < 32) (h : a * 2 ^ k < 4294967296) : nI a <<< nI k = nI (a * 2 ^ k) := pk_shlN _ k (q_sh0 k hk) (by omega)
theorem q_nn {x : Int32} {n : Nat} (h : hb_in x n = true) (hn : n ≤ 2147483648) : x = nI x.toNatClampNeg ∧ x.toNatClampNeg < n := by
  obtain ⟨a, ha, rfl⟩ := q_in_of h
  rw [q_cl (by omega)]
  exact ⟨rfl, ha⟩
theorem q_shr3 {a : Nat} (ha : a < 2147483648) : nI a >>> (3 : Int32) = nI (a / 8) := pk_shrN (by omega) _ 3 (by decide)
theorem q_shr2 {a : Nat} (ha : a < 2147483648) : nI a >>> (2 : Int32) = nI (a / 4) := pk_shrN (by omega) _ 2 (by decide)
theorem q_shr4 {a : Nat} (ha : a < 2147483648) : nI a >>> (4 : Int32) = nI (a / 16) := pk_shrN (by omega) _ 4 (by decide)
theorem q_shr6 {a : Nat} (ha : a < 2147483648) : nI a >>> (6 : Int32) = nI (a / 64) := pk_shrN (by omega) _ 6 (by decide)
theorem q_shl2 {a : Nat} (h : a < 536870912) : nI a <<< (2 : Int32) = nI (a * 4) := pk_shlN _ 2 (by decide) (by omega)
theorem q_shl3 {a : Nat} (h : a < 536870912) : nI a <<< (3 : Int32) = nI (a * 8) := pk_shlN _ 3 (by decide) (by omega)
theorem q_shl4 {a : Nat} (h : a < 134217728) : nI a <<< (4 : Int32) = nI (a * 16) := pk_shlN _ 4 (by decide) (by omega)
theorem q_shl6 {a : Nat} (h : a < 33554432) : nI a <<< (6 : Int32) = nI (a * 64) := pk_shlN _ 6 (by decide) (by omega)
theorem q_shl7 {a : Nat} (h : a < 16777216) : nI a <<< (7 : Int32) = nI (a * 128) := pk_shlN _ 7 (by decide) (by omega)
theorem q_a1 (a : Nat) : a &&& 1 = a % 2 := Nat.and_one_is_mod a
theorem q_a3 (a : Nat) : a &&& 3 = a % 4 := Nat.and_two_pow_sub_one_eq_mod a 2
theorem q_a7 (a : Nat) : a &&& 7 = a % 8 := Nat.and_two_pow_sub_one_eq_mod a 3
theorem q_a15 (a : Nat) : a &&& 15 = a % 16 := Nat.and_two_pow_sub_one_eq_mod a 4
theorem q_neg {a b : Nat} (ha : a < 2147483648) (hb : 0 < b) (hb2 : b < 2147483648) : (nI a = -nI b) = False := by
  apply eq_false
  intro h
  have h1 := congrArg Int32.toInt h
  rw [nI_toInt (by omega), Int32.toInt_neg, nI_toInt (by omega)] at h1
  have h2 : (-(b : Int)).bmod (2 ^ 32) = -(b : Int) := Int.bmod_eq_of_le (by omega) (by omega)
  rw [h2] at h1
  omega
/-- NONE of the program -/
abbrev hbNO : Int32 := -1000000
theorem q_no {a : Nat} (ha : a < 2147483648) : (nI a = hbNO) = False := q_neg (b := 1000000) ha (by omega) (by omega)
theorem q_no' {a : Nat} (ha : a < 2147483648) : (hbNO = nI a) = False := by rw [show (hbNO = nI a) = (nI a = hbNO) from propext eq_comm]; exact q_no ha
def hbo : Option Nat → Int32
  | none => hbNO
  | some q => nI q
theorem q_01 (b : Bool) : hb_01 (if b = true then 1 else 0) = true := by cases b <;> rfl
theorem q_01p (P : Prop) [Decidable P] : hb_01 (if P then 1 else 0) = true := by split <;> rfl
theorem q_01n {a : Nat} (h : a < 2) : hb_01 (nI a) = true := by
  rcases (show a = 0 ∨ a = 1 by omega) with rfl | rfl <;> rfl
/-- a truth as an int -/
def hbb (b : Bool) : Int32 := if b = true then 1 else 0
theorem hbb_0 (b : Bool) : (hbb b = 0) = (b = false) := by cases b <;> simp [hbb]
theorem hbb_01 (b : Bool) : hb_01 (hbb b) = true := by cases b <;> rfl
theorem hbb_t : hbb true = 1 := rfl
theorem hbb_f : hbb false = 0 := rfl
theorem hbb_n (b : Bool) : hbb b = nI (if b = true then 1 else 0) := by cases b <;> rfl
theorem q_res (σ : hbM) {a b : Nat} (h : a = b) : (some (some (Value.int (nI a)), σ) : Option hbO) = some (some (Value.int (nI b)), σ) := by rw [h]
theorem q_rs (σ : hbM) {a b : Int32} (h : a = b) : (some (some (Value.int a), σ) : Option hbO) = some (some (Value.int b), σ) := by rw [h]
/-! memory -/
theorem um_s (σ : hbM) (c i : Nat) (v : Int32) : hb_up σ c i v c i = v := by simp [hb_up, upd]
theorem um_i (σ : hbM) (c : Nat) {i j : Nat} (v : Int32) (h : j ≠ i) : hb_up σ c i v c j = σ c j := by simp [hb_up, upd, h]
theorem um_c (σ : hbM) {c d : Nat} (i : Nat) (v : Int32) (h : d ≠ c) : hb_up σ c i v d = σ d := by simp [hb_up, h]
theorem um_at (σ : hbM) (c i j : Nat) (v : Int32) : hb_up σ c i v c j = if j = i then v else σ c j := by simp [hb_up, upd]
theorem hb_g_nil {α : Type} (x : Option α) : hb_g [] x = x := rfl
theorem hb_g_t {α : Type} (t : List Bool) (x : Option α) : hb_g (true :: t) x = hb_g t x := rfl
theorem hb_g_c {α : Type} (b : Bool) (t : List Bool) (x : Option α) : hb_g (b :: t) x = if b = true then hb_g t x else none := rfl
theorem q_d0 {a : Nat} (h0 : 0 < a) (ha : a < 2147483648) : decide (¬ nI a = 0) = true := by
  apply decide_eq_true
  exact nI_ne0 h0 (by omega)
