/-! fewest -/
def gB (P : hbGP) (b : Nat) : hbGP := (P.1, P.2.1, P.2.2.1, P.2.2.2.1, P.2.2.2.2.1, b, P.2.2.2.2.2.2)
def kOk (b k : Nat) : Bool := !decide (k / 4 = k % 4) && decide (b / 2 ^ k % 2 = 0)
theorem or16 {b m : Nat} (hb : b < 65536) (hm : m < 65536) : b ||| m < 65536 := Nat.or_lt_two_pow (n := 16) hb hm
theorem pow16 {k : Nat} (hk : k < 16) : 2 ^ k < 65536 := Nat.pow_lt_pow_right (a := 2) (by omega) hk
/-- isSafe -/
theorem s62 {σ : hbM} {bd gd : Nat → Bool} {r st m : Nat} (hg : gI σ) (hB : ∀ s, s < 1024 → σ 11 s = hbb (bd s)) (hG : ∀ s, s < 1024 → σ 12 s = hbb (gd s)) (hrJ : rJ σ r) (hr : r + 1 < 100000000) (hst : st < 1024) (hm : m < 65536) :
    ∃ σ', hb_ev hbSH 62 [.ref 50, .int (nI st), .int (nI m)] σ = some (some (.int (hbb (!tHarm (gB (gP σ) (tn σ 0 10 ||| m)) bd 1 st))), σ') ∧ cS σ σ' ∧ rJ σ' (r + 1) := by
  obtain ⟨eb, hb⟩ := q_nn hg.2.2.2.1 (by omega)
  have hb' : tn σ 0 10 < 65536 := hb
  have eb' : σ 0 10 = nI (tn σ 0 10) := eb
  have hor := or16 hb' hm
  generalize hσ1 : hb_up σ 0 10 (nI (tn σ 0 10 ||| m)) = σ1
  have hoth : ∀ c, c ≠ 0 → σ1 c = σ c := fun c hc => by rw [← hσ1, um_c _ _ _ hc]
  have htn : ∀ c, c ≠ 0 → tn σ1 c = tn σ c := fun c hc => by funext i; unfold tn; rw [hoth c hc]
  have h10 : tn σ1 0 10 = tn σ 0 10 ||| m := by rw [← hσ1]; show (hb_up σ 0 10 (nI (tn σ 0 10 ||| m)) 0 10).toNatClampNeg = _; rw [um_s, q_cl (by omega)]
  have hgP : gP σ1 = gB (gP σ) (tn σ 0 10 ||| m) := by
    unfold gP gB
    rw [htn 31 (by omega), htn 32 (by omega), htn 33 (by omega), htn 34 (by omega), htn 10 (by omega), htn 37 (by omega), hoth 37 (by omega), h10]
  have hgI : gI σ1 := by
    obtain ⟨h1, h2, h3, h4, h5⟩ := hg
    refine ⟨by rw [hoth 31 (by omega)]; exact h1, fun i hi => ?_, fun s hs => by rw [hoth 10 (by omega)]; exact h3 s hs, ?_, fun v hv => by rw [hoth 37 (by omega)]; exact h5 v hv⟩
    · rw [htn 31 (by omega)] at hi
      rw [hoth 32 (by omega), hoth 33 (by omega), hoth 34 (by omega), htn 32 (by omega), htn 33 (by omega)]
      exact h2 i hi
    · rw [← hσ1, um_s]; exact q_inT (by omega) hor
  obtain ⟨σ2, k1, k2, k3⟩ := s50 (σ := σ1) (bd := bd) (gd := gd) (r := r) (st := st) (sl := 1) (w := 1) hgI hgP (fun s hs => by rw [hoth 11 (by omega)]; exact hB s hs) (fun s hs => by rw [hoth 12 (by omega)]; exact hG s hs) (rJ_c (fun c hc => hoth c (by omega)) hrJ) hr hst (by omega) (by omega)
  have hfin : cS σ (hb_up σ2 0 10 (σ 0 10)) := fun c hc => by
    by_cases z : c = 0
    · rw [z]
      funext i
      rw [um_at]
      by_cases y : i = 10
      · rw [if_pos y, y]
      · rw [if_neg y, k2 0 (by omega), ← hσ1, um_i _ _ _ y]
    · rw [um_c _ _ _ z, k2 c hc, hoth c z]
  refine ⟨hb_up σ2 0 10 (σ 0 10), ?_, hfin, rJ_c (fun c hc => um_c _ _ _ (by omega)) k3⟩
  have e1 : σ 0 10 ||| nI m = nI (tn σ 0 10 ||| m) := by rw [eb', q_or]
  rw [v62, e62_0, e1, hσ1, show (1 : Int32) = nI 1 from rfl, k1, hb_ci_s, aThr_1]
  cases tHarm (gB (gP σ) (tn σ 0 10 ||| m)) bd 1 st <;> rfl
theorem s61 {σ : hbM} {k : Nat} (hb : hb_in (σ 0 10) 65536 = true) (hk : k < 16) : hb_ev hbSH 61 [.ref 50, .int (nI k)] σ = some (some (.int (hbb (kOk (tn σ 0 10) k))), σ) := by
  obtain ⟨eb, hb⟩ := q_nn hb (by omega)
  have hb' : tn σ 0 10 < 65536 := hb
  have eb' : σ 0 10 = nI (tn σ 0 10) := eb
  have d1 : decide (¬ (4 : Int32) = 0) = true := by decide
  have eq1 : nI k / (4 : Int32) = nI (k / 4) := q_div (d := 4) (by omega) (by omega) (by omega)
  have eq2 : nI k - nI (k / 4) * (4 : Int32) = nI (k % 4) := q_rem (d := 4) (by omega) (by omega) (by omega)
  have hdl : tn σ 0 10 / 2 ^ k < 65536 := Nat.lt_of_le_of_lt (Nat.div_le_self _ _) hb'
  rw [v61, e61_0, d1, hb_g_t, hb_g_t, hb_g_nil, eq1, eq2, eb', q_shr (by omega) (by omega), q_1, q_and, q_a1, q_0]
  simp only [q_eq (show k / 4 < 2147483648 by omega) (show k % 4 < 2147483648 by omega), q_eq (show tn σ 0 10 / 2 ^ k % 2 < 2147483648 by omega) (show 0 < 2147483648 by omega)]
  unfold kOk
  by_cases z : k / 4 = k % 4
  · rw [if_pos z, decide_eq_true z]; rfl
  · rw [if_neg z, decide_eq_false z]
    by_cases y : tn σ 0 10 / 2 ^ k % 2 = 0
    · rw [if_neg (fun q => q y), decide_eq_true y]; rfl
    · rw [if_pos y, decide_eq_false y]; rfl
theorem s171 (σ : hbM) {k : Nat} (hk : k < 16) : hb_ev hbSH 171 [.int (nI k)] σ = some (some (.int (nI (2 ^ k))), σ) := by
  have := pow16 hk
  rw [v171, e171_0, q_1, q_shl (by omega) (by omega), Nat.one_mul]
theorem sh1 {k : Nat} (hk : k < 16) : (1 : Int32) <<< (nI k &&& 31) = nI (2 ^ k) := by
  have := pow16 hk
  rw [q_1, q_shl (by omega) (by omega), Nat.one_mul]
/-! what is found -/
def w1 (ok sv : Nat → Bool) : Nat → Nat → Option Nat
  | 0, _ => none
  | f + 1, k => if (ok k && sv (2 ^ k)) = true then some k else w1 ok sv f (k + 1)
def w2i (ok sv : Nat → Bool) (h : Nat) : Nat → Nat → Option Nat
  | 0, _ => none
  | f + 1, l => if (ok h && (ok l && sv (2 ^ h ||| 2 ^ l))) = true then some l else w2i ok sv h f (l + 1)
def w2 (ok sv : Nat → Bool) : Nat → Nat → Option (Nat × Nat)
  | 0, _ => none
  | f + 1, h => match w2i ok sv h h 0 with
    | some l => some (h, l)
    | none => w2 ok sv f (h + 1)
def tri : Nat → Nat → Nat
  | 0, _ => 0
  | f + 1, h => h + tri f (h + 1)
def aFew (ok sv : Nat → Bool) (w : Nat) : Int32 :=
  if sv 0 = true then 0 else match w1 ok sv 16 0 with
    | some k => if w = 0 then 1 else nI (2 ^ k)
    | none => match w2 ok sv 16 0 with
      | some (h, l) => if w = 0 then 2 else nI (2 ^ h ||| 2 ^ l)
      | none => hbNO
theorem w1_t {ok sv : Nat → Bool} {f k : Nat} (h1 : ok k = true) (h2 : sv (2 ^ k) = true) : w1 ok sv (f + 1) k = some k := by simp only [w1, h1, h2]; rfl
theorem w1_f1 {ok sv : Nat → Bool} {f k : Nat} (h1 : ok k = false) : w1 ok sv (f + 1) k = w1 ok sv f (k + 1) := by simp only [w1, h1, Bool.false_and]; rfl
theorem w1_f2 {ok sv : Nat → Bool} {f k : Nat} (h1 : sv (2 ^ k) = false) : w1 ok sv (f + 1) k = w1 ok sv f (k + 1) := by simp only [w1, h1, Bool.and_false]; rfl
theorem w2i_t {ok sv : Nat → Bool} {f h l : Nat} (h0 : ok h = true) (h1 : ok l = true) (h2 : sv (2 ^ h ||| 2 ^ l) = true) : w2i ok sv h (f + 1) l = some l := by simp only [w2i, h0, h1, h2]; rfl
theorem w2i_f0 {ok sv : Nat → Bool} {f h l : Nat} (h0 : ok h = false) : w2i ok sv h (f + 1) l = w2i ok sv h f (l + 1) := by simp only [w2i, h0, Bool.false_and]; rfl
theorem w2i_f1 {ok sv : Nat → Bool} {f h l : Nat} (h0 : ok l = false) : w2i ok sv h (f + 1) l = w2i ok sv h f (l + 1) := by simp only [w2i, h0, Bool.false_and, Bool.and_false]; rfl
theorem w2i_f2 {ok sv : Nat → Bool} {f h l : Nat} (h0 : sv (2 ^ h ||| 2 ^ l) = false) : w2i ok sv h (f + 1) l = w2i ok sv h f (l + 1) := by simp only [w2i, h0, Bool.and_false]; rfl
theorem w2_t {ok sv : Nat → Bool} {f h l : Nat} (h0 : w2i ok sv h h 0 = some l) : w2 ok sv (f + 1) h = some (h, l) := by simp only [w2, h0]
theorem w2_f {ok sv : Nat → Bool} {f h : Nat} (h0 : w2i ok sv h h 0 = none) : w2 ok sv (f + 1) h = w2 ok sv f (h + 1) := by simp only [w2, h0]
/-- the class's memory in fewest -/
def kI (σ0 : hbM) (bd gd : Nat → Bool) (r : Nat) (σ : hbM) : Prop := cS σ0 σ ∧ rJ σ r
theorem kI_62 {σ0 : hbM} {bd gd : Nat → Bool} (hg : gI σ0) (hB : ∀ s, s < 1024 → σ0 11 s = hbb (bd s)) (hG : ∀ s, s < 1024 → σ0 12 s = hbb (gd s)) {r st m : Nat} {σ : hbM} (hI : kI σ0 bd gd r σ) (hr : r + 1 < 100000000) (hst : st < 1024) (hm : m < 65536) :
    ∃ σ', hb_ev hbSH 62 [.ref 50, .int (nI st), .int (nI m)] σ = some (some (.int (hbb (!tHarm (gB (gP σ0) (tn σ0 0 10 ||| m)) bd 1 st))), σ') ∧ kI σ0 bd gd (r + 1) σ' := by
  obtain ⟨h1, h2⟩ := hI
  obtain ⟨σ', k1, k2, k3⟩ := s62 (bd := bd) (gd := gd) (cS_gI h1 hg) (fun s hs => by rw [h1 11 (by omega)]; exact hB s hs) (fun s hs => by rw [h1 12 (by omega)]; exact hG s hs) h2 hr hst hm
  rw [cS_gP h1, show tn σ 0 10 = tn σ0 0 10 by unfold tn; rw [h1 0 (by omega)]] at k1
  exact ⟨σ', k1, h1.tr k2, k3⟩
theorem kI_61 {σ0 : hbM} {bd gd : Nat → Bool} (hg : gI σ0) {r k : Nat} {σ : hbM} (hI : kI σ0 bd gd r σ) (hk : k < 16) : hb_ev hbSH 61 [.ref 50, .int (nI k)] σ = some (some (.int (hbb (kOk (tn σ0 0 10) k))), σ) := by
  have h1 := hI.1
  have := s61 (σ := σ) (k := k) (by rw [h1 0 (by omega)]; exact hg.2.2.2.1) hk
  rw [show tn σ 0 10 = tn σ0 0 10 by unfold tn; rw [h1 0 (by omega)]] at this
  exact this
theorem nno {a : Nat} (h : a < 2147483648) : ¬ nI a = (-1000000 : Int32) := fun z => by rw [q_no h] at z; exact z
theorem s60_22f (σ : hbM) (x1 : Int32) {a : Nat} (ha : a < 65536) (x4 : Int32) : hb_run hbSH 60 (22, [.ref 50, .int x1, .int 16, .int (nI a), .int x4, .null, .null], [], σ) = some (some (.int (nI a)), σ) := by
  have hn := nno (a := a) (by omega)
  have h74 : hb_run hbSH 60 (74, [.ref 50, .int x1, .int 16, .int (nI a), .int 0, .null, .null], [], σ) = some (some (.int (nI a)), σ) := by
    rw [e60_74, if_neg (by decide), if_pos hn]
  rw [e60_22]
  by_cases z : (16 : Int32) ≤ x4
  · rw [if_pos z, h74]
  · rw [if_neg z, if_pos hn, h74]
theorem s60_74f (σ : hbM) (x1 : Int32) {a : Nat} (ha : a < 65536) (x4 : Int32) (v5 v6 : Value) : hb_run hbSH 60 (74, [.ref 50, .int x1, .int 16, .int (nI a), .int x4, v5, v6], [], σ) = some (some (.int (nI a)), σ) := by
  have hn := nno (a := a) (by omega)
  rw [e60_74]
  by_cases z : (16 : Int32) ≤ x4
  · rw [if_pos z]
  · rw [if_neg z, if_pos hn]
theorem s60_89f (σ : hbM) (x1 : Int32) {a : Nat} (ha : a < 65536) (x4 x5 : Int32) (v6 : Value) : hb_run hbSH 60 (89, [.ref 50, .int x1, .int 16, .int (nI a), .int x4, .int x5, v6], [], σ) = some (some (.int (nI a)), σ) := by
  have hn := nno (a := a) (by omega)
  rw [e60_89]
  by_cases z : x4 ≤ x5
  · rw [if_pos z, s60_74f _ _ ha]
  · rw [if_neg z, if_pos hn, s60_74f _ _ ha]
section
variable {σ0 : hbM} {bd gd ok sv : Nat → Bool} {st : Nat}
theorem s60_one (hg : gI σ0) (hB : ∀ s, s < 1024 → σ0 11 s = hbb (bd s)) (hG : ∀ s, s < 1024 → σ0 12 s = hbb (gd s)) (hst : st < 1024) (hok : ok = kOk (tn σ0 0 10)) (hsv : ∀ m, sv m = !tHarm (gB (gP σ0) (tn σ0 0 10 ||| m)) bd 1 st) : ∀ (f k r : Nat) (σ : hbM), k + f = 16 → kI σ0 bd gd r σ → r + f + 1 < 100000000 →
    ∃ σ' r', kI σ0 bd gd r' σ' ∧ r ≤ r' ∧ r' ≤ r + f ∧ hb_run hbSH 60 (22, [.ref 50, .int (nI st), .int 16, .int (-1000000), .int (nI k), .null, .null], [], σ) = (match w1 ok sv f k with
      | some k' => some (some (.int (nI (2 ^ k'))), σ')
      | none => hb_run hbSH 60 (74, [.ref 50, .int (nI st), .int 16, .int (-1000000), .int 0, .null, .null], [], σ')) := by
  intro f
  induction f with
  | zero =>
    intro k r σ hk hI hr
    obtain rfl : k = 16 := by omega
    refine ⟨σ, r, hI, by omega, by omega, ?_⟩
    rw [e60_22, if_pos (by decide)]
    rfl
  | succ f ih =>
    intro k r σ hk hI hr
    have hp := pow16 (k := k) (by omega)
    rw [e60_22, if_neg (by rw [q_16, q_le (by omega) (by omega)]; omega), if_neg (fun z => z rfl), kI_61 hg hI (by omega), ← hok, hb_ci_s]
    cases hk1 : ok k with
    | false =>
      obtain ⟨σ', r', a1, a2, a3, a4⟩ := ih (k + 1) r σ (by omega) hI (by omega)
      refine ⟨σ', r', a1, a2, by omega, ?_⟩
      rw [hbb_f, if_pos rfl, nI_1, w1_f1 hk1]
      exact a4
    | true =>
      obtain ⟨σ1, k1, k2⟩ := kI_62 hg hB hG hI (by omega) hst hp
      rw [← hsv] at k1
      rw [hbb_t, if_neg (by decide), sh1 (by omega), k1, hb_ci_s]
      cases hs : sv (2 ^ k) with
      | false =>
        obtain ⟨σ', r', a1, a2, a3, a4⟩ := ih (k + 1) (r + 1) σ1 (by omega) k2 (by omega)
        refine ⟨σ', r', a1, by omega, by omega, ?_⟩
        rw [hbb_f, if_pos rfl, nI_1, w1_f2 hs]
        exact a4
      | true =>
        refine ⟨σ1, r + 1, k2, by omega, by omega, ?_⟩
        rw [hbb_t, if_neg (by decide), s60_22f _ _ hp, w1_t hk1 hs]
theorem s60_in (hg : gI σ0) (hB : ∀ s, s < 1024 → σ0 11 s = hbb (bd s)) (hG : ∀ s, s < 1024 → σ0 12 s = hbb (gd s)) (hst : st < 1024) (hok : ok = kOk (tn σ0 0 10)) (hsv : ∀ m, sv m = !tHarm (gB (gP σ0) (tn σ0 0 10 ||| m)) bd 1 st) {h : Nat} (hh : h < 16) : ∀ (f l r : Nat) (σ : hbM) (v6 : Value), l + f = h → kI σ0 bd gd r σ → r + f + 1 < 100000000 →
    ∃ σ' r' v5 v6', kI σ0 bd gd r' σ' ∧ r ≤ r' ∧ r' ≤ r + f ∧ hb_run hbSH 60 (89, [.ref 50, .int (nI st), .int 16, .int (-1000000), .int (nI h), .int (nI l), v6], [], σ) = (match w2i ok sv h f l with
      | some l' => some (some (.int (nI (2 ^ h ||| 2 ^ l'))), σ')
      | none => hb_run hbSH 60 (74, [.ref 50, .int (nI st), .int 16, .int (-1000000), .int (nI (h + 1)), v5, v6'], [], σ')) := by
  intro f
  induction f with
  | zero =>
    intro l r σ v6 hl hI hr
    obtain rfl : l = h := by omega
    rw [e60_89, if_pos (by rw [q_le (by omega) (by omega)]; omega), nI_1]
    exact ⟨σ, r, _, _, hI, by omega, by omega, rfl⟩
  | succ f ih =>
    intro l r σ v6 hl hI hr
    have hp := or16 (pow16 (k := h) hh) (pow16 (k := l) (by omega))
    rw [e60_89, if_neg (by rw [q_le (by omega) (by omega)]; omega), if_neg (fun z => z rfl), kI_61 hg hI hh, ← hok, hb_ci_s]
    cases hk1 : ok h with
    | false =>
      obtain ⟨σ', r', v5, v6', a1, a2, a3, a4⟩ := ih (l + 1) r σ (.int (((1 : Int32) <<< (nI h &&& 31)) ||| ((1 : Int32) <<< (nI l &&& 31)))) (by omega) hI (by omega)
      refine ⟨σ', r', v5, v6', a1, a2, by omega, ?_⟩
      rw [hbb_f, if_pos rfl, nI_1, w2i_f0 hk1]
      exact a4
    | true =>
      rw [hbb_t, if_neg (by decide), kI_61 hg hI (by omega), ← hok, hb_ci_s]
      cases hk2 : ok l with
      | false =>
        obtain ⟨σ', r', v5, v6', a1, a2, a3, a4⟩ := ih (l + 1) r σ (.int (((1 : Int32) <<< (nI h &&& 31)) ||| ((1 : Int32) <<< (nI l &&& 31)))) (by omega) hI (by omega)
        refine ⟨σ', r', v5, v6', a1, a2, by omega, ?_⟩
        rw [hbb_f, if_pos rfl, nI_1, w2i_f1 hk2]
        exact a4
      | true =>
        obtain ⟨σ1, k1, k2⟩ := kI_62 hg hB hG hI (by omega) hst hp
        rw [← hsv] at k1
        rw [hbb_t, if_neg (by decide), sh1 hh, sh1 (show l < 16 by omega), q_or, k1, hb_ci_s]
        cases hs : sv (2 ^ h ||| 2 ^ l) with
        | false =>
          obtain ⟨σ', r', v5, v6', a1, a2, a3, a4⟩ := ih (l + 1) (r + 1) σ1 (.int (nI (2 ^ h ||| 2 ^ l))) (by omega) k2 (by omega)
          refine ⟨σ', r', v5, v6', a1, by omega, by omega, ?_⟩
          rw [hbb_f, if_pos rfl, nI_1, w2i_f2 hs]
          exact a4
        | true =>
          refine ⟨σ1, r + 1, .null, .null, k2, by omega, by omega, ?_⟩
          rw [hbb_t, if_neg (by decide), s60_89f _ _ hp, w2i_t hk1 hk2 hs]
theorem s60_out (hg : gI σ0) (hB : ∀ s, s < 1024 → σ0 11 s = hbb (bd s)) (hG : ∀ s, s < 1024 → σ0 12 s = hbb (gd s)) (hst : st < 1024) (hok : ok = kOk (tn σ0 0 10)) (hsv : ∀ m, sv m = !tHarm (gB (gP σ0) (tn σ0 0 10 ||| m)) bd 1 st) : ∀ (f h r : Nat) (σ : hbM) (v5 v6 : Value), h + f = 16 → kI σ0 bd gd r σ → r + tri f h + 1 < 100000000 →
    ∃ σ' r', kI σ0 bd gd r' σ' ∧ r ≤ r' ∧ r' ≤ r + tri f h ∧ hb_run hbSH 60 (74, [.ref 50, .int (nI st), .int 16, .int (-1000000), .int (nI h), v5, v6], [], σ) = (match w2 ok sv f h with
      | some (h', l') => some (some (.int (nI (2 ^ h' ||| 2 ^ l'))), σ')
      | none => some (some (.int (-1000000)), σ')) := by
  intro f
  induction f with
  | zero =>
    intro h r σ v5 v6 hh hI hr
    obtain rfl : h = 16 := by omega
    refine ⟨σ, r, hI, by omega, by omega, ?_⟩
    rw [e60_74, if_pos (by decide)]
    rfl
  | succ f ih =>
    intro h r σ v5 v6 hh hI hr
    simp only [tri] at hr ⊢
    obtain ⟨σ1, r1, v5', v6', a1, a2, a3, a4⟩ := s60_in hg hB hG hst hok hsv (h := h) (by omega) h 0 r σ v6 (by omega) hI (by omega)
    rw [e60_74, if_neg (by rw [q_16, q_le (by omega) (by omega)]; omega), if_neg (fun z => z rfl), show (0 : Int32) = nI 0 from rfl, a4]
    cases hw : w2i ok sv h h 0 with
    | some l => exact ⟨σ1, r1, a1, a2, by omega, by rw [w2_t hw]⟩
    | none =>
      obtain ⟨σ', r', b1, b2, b3, b4⟩ := ih (h + 1) r1 σ1 v5' v6' (by omega) a1 (by omega)
      exact ⟨σ', r', b1, by omega, by omega, by rw [w2_f hw]; exact b4⟩
end
