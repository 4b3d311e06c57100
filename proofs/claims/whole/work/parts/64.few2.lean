/-! fewest: the call -/
theorem gI_bar {σ : hbM} (hg : gI σ) {b : Nat} (hb : b < 65536) : gI (hb_up σ 0 10 (nI b)) ∧ gP (hb_up σ 0 10 (nI b)) = gB (gP σ) b := by
  generalize hσ1 : hb_up σ 0 10 (nI b) = σ1
  have hoth : ∀ c, c ≠ 0 → σ1 c = σ c := fun c hc => by rw [← hσ1, um_c _ _ _ hc]
  have htn : ∀ c, c ≠ 0 → tn σ1 c = tn σ c := fun c hc => by funext i; unfold tn; rw [hoth c hc]
  have h10 : tn σ1 0 10 = b := by rw [← hσ1]; show (hb_up σ 0 10 (nI b) 0 10).toNatClampNeg = _; rw [um_s, q_cl (by omega)]
  constructor
  · obtain ⟨h1, h2, h3, h4, h5⟩ := hg
    refine ⟨by rw [hoth 31 (by omega)]; exact h1, fun i hi => ?_, fun s hs => by rw [hoth 10 (by omega)]; exact h3 s hs, ?_, fun v hv => by rw [hoth 37 (by omega)]; exact h5 v hv⟩
    · rw [htn 31 (by omega)] at hi
      rw [hoth 32 (by omega), hoth 33 (by omega), hoth 34 (by omega), htn 32 (by omega), htn 33 (by omega)]
      exact h2 i hi
    · rw [← hσ1, um_s]; exact q_inT (by omega) hb
  · unfold gP gB
    rw [htn 31 (by omega), htn 32 (by omega), htn 33 (by omega), htn 34 (by omega), htn 10 (by omega), htn 37 (by omega), hoth 37 (by omega), h10]
def lB (ok sv : Nat → Bool) : Option Nat := if sv 0 = true then some 0 else match w1 ok sv 16 0 with
  | some k => some (2 ^ k)
  | none => match w2 ok sv 16 0 with
    | some (h, l) => some (2 ^ h ||| 2 ^ l)
    | none => none
/-- leastBars -/
theorem s60 {σ0 : hbM} {bd gd ok sv : Nat → Bool} {st : Nat} (hg : gI σ0) (hB : ∀ s, s < 1024 → σ0 11 s = hbb (bd s)) (hG : ∀ s, s < 1024 → σ0 12 s = hbb (gd s)) (hst : st < 1024) (hok : ok = kOk (tn σ0 0 10)) (hsv : ∀ m, sv m = !tHarm (gB (gP σ0) (tn σ0 0 10 ||| m)) bd 1 st) {r : Nat} (hr : r + 138 < 100000000) (hrJ : rJ σ0 r) :
    ∃ σ' r', hb_ev hbSH 60 [.ref 50, .int (nI st)] σ0 = some (some (.int (hbo (lB ok sv))), σ') ∧ cS σ0 σ' ∧ rJ σ' r' ∧ r' ≤ r + 137 := by
  have ht : tri 16 0 = 120 := by decide
  obtain ⟨σ1, k1, k2⟩ := kI_62 (σ0 := σ0) (bd := bd) (gd := gd) hg hB hG (r := r) (σ := σ0) ⟨cS.rf σ0, hrJ⟩ (by omega) hst (m := 0) (by omega)
  rw [← hsv] at k1
  rw [v60, e60_0, show (0 : Int32) = nI 0 from rfl, k1, hb_ci_s]
  cases h0 : sv 0 with
  | true =>
    refine ⟨σ1, r + 1, ?_, k2.1, k2.2, by omega⟩
    rw [hbb_t, if_neg (by decide), s60_22f _ _ (by omega)]
    unfold lB
    rw [if_pos h0]; rfl
  | false =>
    obtain ⟨σ2, r2, a1, a2, a3, a4⟩ := s60_one hg hB hG hst hok hsv 16 0 (r + 1) σ1 (by omega) k2 (by omega)
    rw [hbb_f, if_pos (show (0 : Int32) = nI 0 from rfl), a4]
    cases h1 : w1 ok sv 16 0 with
    | some k =>
      refine ⟨σ2, r2, ?_, a1.1, a1.2, by omega⟩
      unfold lB
      rw [h0, h1]; rfl
    | none =>
      obtain ⟨σ3, r3, b1, b2, b3, b4⟩ := s60_out hg hB hG hst hok hsv 16 0 r2 σ2 .null .null (by omega) a1 (by omega)
      refine ⟨σ3, r3, ?_, b1.1, b1.2, by omega⟩
      rw [show (0 : Int32) = nI 0 from rfl]
      refine Eq.trans b4 ?_
      unfold lB
      rw [h0, h1]
      cases h2 : w2 ok sv 16 0 with
      | none => rfl
      | some hl => rfl
theorem w1_lt {ok sv : Nat → Bool} : ∀ (f k k' : Nat), w1 ok sv f k = some k' → k' < k + f := by
  intro f
  induction f with
  | zero => intro k k' h; cases h
  | succ f ih =>
    intro k k' h
    simp only [w1] at h
    split at h
    · cases h; omega
    · have := ih _ _ h; omega
theorem w2i_lt {ok sv : Nat → Bool} {h : Nat} : ∀ (f l l' : Nat), w2i ok sv h f l = some l' → l' < l + f := by
  intro f
  induction f with
  | zero => intro k k' h; cases h
  | succ f ih =>
    intro k k' h
    simp only [w2i] at h
    split at h
    · cases h; omega
    · have := ih _ _ h; omega
theorem w2_lt {ok sv : Nat → Bool} : ∀ (f h h' l' : Nat), w2 ok sv f h = some (h', l') → h' < h + f ∧ l' < h' := by
  intro f
  induction f with
  | zero => intro h h' l' e; cases e
  | succ f ih =>
    intro h h' l' e
    cases hw : w2i ok sv h h 0 with
    | some l =>
      rw [w2_t hw] at e
      cases e
      have := w2i_lt _ _ _ hw
      omega
    | none =>
      rw [w2_f hw] at e
      have := ih _ _ _ e
      omega
theorem bc_1 : ∀ k, k < 16 → bcS (2 ^ k / 256) + bcS (2 ^ k % 256) = 1 := by decide +kernel
theorem bc_2 : ∀ h, h < 16 → ∀ l, l < h → bcS ((2 ^ h ||| 2 ^ l) / 256) + bcS ((2 ^ h ||| 2 ^ l) % 256) = 2 := by decide +kernel
theorem lB_lt {ok sv : Nat → Bool} {b : Nat} (h : lB ok sv = some b) : b < 65536 := by
  unfold lB at h
  split at h
  · cases h; omega
  · split at h
    · rename_i k hk
      cases h
      exact pow16 (by have := w1_lt _ _ _ hk; omega)
    · split at h
      · rename_i hh l hk
        cases h
        have := w2_lt _ _ _ _ hk
        exact or16 (pow16 (by omega)) (pow16 (by omega))
      · cases h
theorem aFew_eq (ok sv : Nat → Bool) {w : Nat} (hw : w < 2) : aFew ok sv w = (match lB ok sv with
    | none => hbNO
    | some b => if w = 1 then nI b else nI (bcS (b / 256) + bcS (b % 256))) := by
  unfold aFew lB
  cases h0 : sv 0 with
  | true =>
    rw [if_pos rfl, if_pos rfl]
    rcases (show w = 0 ∨ w = 1 by omega) with rfl | rfl <;> rfl
  | false =>
    rw [if_neg (by decide), if_neg (by decide)]
    cases h1 : w1 ok sv 16 0 with
    | some k =>
      have := bc_1 k (by have := w1_lt _ _ _ h1; omega)
      rcases (show w = 0 ∨ w = 1 by omega) with rfl | rfl
      · show (1 : Int32) = nI _
        rw [this]; rfl
      · rfl
    | none =>
      cases h2 : w2 ok sv 16 0 with
      | none => rfl
      | some hl =>
        obtain ⟨h, l⟩ := hl
        have h3 := w2_lt _ _ _ _ h2
        have := bc_2 h (by omega) l h3.2
        rcases (show w = 0 ∨ w = 1 by omega) with rfl | rfl
        · show (2 : Int32) = nI _
          rw [this]; rfl
        · rfl
/-! the reference -/
theorem mR_bar {σ : hbM} {P : hbGP} {F : hbF} (hR : mR σ P F) {b : Nat} (hb : b < 65536) : mR (hb_up σ 54 34 (nI b)) (gB P b) F := by
  obtain ⟨⟨f1, f2, f3⟩, hn, hn2, hi, hT, hb', hbe, hl⟩ := hR
  have ho : ∀ c, c ≠ 54 → hb_up σ 54 34 (nI b) c = σ c := fun c hc => um_c _ _ _ hc
  have hf : ∀ i, i ≠ 34 → hb_up σ 54 34 (nI b) 54 i = σ 54 i := fun i hi => um_i _ _ _ hi
  have htn : ∀ c, c ≠ 54 → tn (hb_up σ 54 34 (nI b)) c = tn σ c := fun c hc => by funext i; unfold tn; rw [ho c hc]
  refine ⟨⟨f1, by rw [hf 5 (by omega)]; exact f2, fun i hi => by rw [ho 58 (by omega), ho 59 (by omega), ho 60 (by omega)]; exact f3 i hi⟩, hn, by rw [hf 11 (by omega)]; exact hn2, fun i hk => ?_, hT, hb, um_s _ _ _ _, fun v hv => by rw [ho 68 (by omega)]; exact hl v hv⟩
  obtain ⟨a1, a2, a3, a4, a5, a6⟩ := hi i hk
  refine ⟨a1, by rw [ho 65 (by omega)]; exact a2, a3, a4, fun x y => by rw [ho 66 (by omega)]; exact a5 x y, fun x => ?_⟩
  unfold mC cM
  rw [ho 62 (by omega), ho 63 (by omega), ho 64 (by omega), htn 62 (by omega), htn 63 (by omega), htn 64 (by omega)]
  exact a6 x
/-- isSafeWith -/
theorem s170 {σ : hbM} {P : hbGP} {F : hbF} {B : hbL} (hR : mR σ P F) (hB : mL σ B 9 0) (hP : ∀ b, b < 65536 → gOk (gB P b)) {st m : Nat} (hst : st < 1024) (hm : m < 65536) :
    ∃ σ', hb_ev hbSH 170 [.ref 54, .int (nI st), .int (nI m)] σ = some (some (.int (hbb (!tHarm (gB P (P.2.2.2.2.2.1 ||| m)) (fun s => wAny B s B.1) 1 st))), σ') ∧ mS σ σ' := by
  have hb := hR.2.2.2.2.2.1
  have hbe := hR.2.2.2.2.2.2.1
  have hor := or16 hb hm
  have hR1 := mR_bar hR hor
  have hB1 : mL (hb_up σ 54 34 (nI (P.2.2.2.2.2.1 ||| m))) B 9 0 := by
    obtain ⟨h1, h2, h3⟩ := hB
    refine ⟨h1, by rw [um_i _ _ _ (by omega)]; exact h2, fun i hi => ?_⟩
    unfold mC cM tn
    rw [um_c _ _ _ (by omega), um_c _ _ _ (by omega), um_c _ _ _ (by omega), um_c _ _ _ (by omega)]
    exact h3 i hi
  obtain ⟨σ2, n, row, k1, k2, k3⟩ := s160 hR1 (hP _ hor) (sl := 1) (st := st) (by omega) hst
  have h161 := s161 (mS_mL k2 (Or.inl rfl) hB1) k3 (fun x hx => by
    have := Rch_lt (hP _ hor) (show st < 17408 by omega) (bP_iff.mp hx)
    omega)
  refine ⟨hb_up σ2 54 34 (σ 54 34), ?_, ⟨fun c h1 h2 => by rw [um_c _ _ _ h1, k2.1 c h1 h2, um_c _ _ _ h1], fun i h1 h2 h3 h4 => ?_⟩⟩
  · rw [v170, e170_0, hbe, q_or, show (1 : Int32) = nI 1 from rfl, k1, hb_cv_s, h161, hb_ci_s]
    cases tHarm (gB P (P.2.2.2.2.2.1 ||| m)) (fun s => wAny B s B.1) 1 st <;> rfl
  · rw [um_at]
    by_cases z : i = 34
    · rw [if_pos z, z]
    · rw [if_neg z, k2.2 i h1 h2 h3 h4, um_i _ _ _ z]
theorem s172 {σ : hbM} {b k : Nat} (hb' : b < 65536) (eb' : σ 54 34 = nI b) (hk : k < 16) : hb_ev hbSH 172 [.ref 54, .int (nI k)] σ = some (some (.int (hbb (kOk b k))), σ) := by
  have d1 : decide (¬ (4 : Int32) = 0) = true := by decide
  have eq1 : nI k / (4 : Int32) = nI (k / 4) := q_div (d := 4) (by omega) (by omega) (by omega)
  have eq2 : nI k - nI (k / 4) * (4 : Int32) = nI (k % 4) := q_rem (d := 4) (by omega) (by omega) (by omega)
  have hdl : b / 2 ^ k < 65536 := Nat.lt_of_le_of_lt (Nat.div_le_self _ _) hb'
  rw [v172, e172_0, d1, hb_g_t, hb_g_t, hb_g_nil, eq1, eq2, eb', q_shr (by omega) (by omega), q_1, q_and, q_a1, q_0]
  simp only [q_eq (show k / 4 < 2147483648 by omega) (show k % 4 < 2147483648 by omega), q_eq (show b / 2 ^ k % 2 < 2147483648 by omega) (show 0 < 2147483648 by omega)]
  unfold kOk
  by_cases z : k / 4 = k % 4
  · rw [if_pos z, decide_eq_true z]; rfl
  · rw [if_neg z, decide_eq_false z]
    by_cases y : b / 2 ^ k % 2 = 0
    · rw [if_neg (fun q => q y), decide_eq_true y]; rfl
    · rw [if_pos y, decide_eq_false y]; rfl
section
variable {σ0 : hbM} {P : hbGP} {F : hbF} {B : hbL} {ok sv : Nat → Bool} {st w : Nat}
theorem s173_one (hR : mR σ0 P F) (hB : mL σ0 B 9 0) (hP : ∀ b, b < 65536 → gOk (gB P b)) (hst : st < 1024) (hw : w < 2) (hok : ok = kOk P.2.2.2.2.2.1) (hsv : ∀ m, sv m = !tHarm (gB P (P.2.2.2.2.2.1 ||| m)) (fun s => wAny B s B.1) 1 st) : ∀ (f k : Nat) (σ : hbM), k + f = 16 → mS σ0 σ →
    ∃ σ', mS σ0 σ' ∧ hb_run hbSH 173 (38, [.ref 54, .int (nI st), .int (nI w), .int (nI k), .null], [], σ) = (match w1 ok sv f k with
      | some k' => some (some (.int (if w = 0 then 1 else nI (2 ^ k'))), σ')
      | none => hb_run hbSH 173 (85, [.ref 54, .int (nI st), .int (nI w), .int 0, .null], [], σ')) := by
  have hbl := hR.2.2.2.2.2.1
  intro f
  induction f with
  | zero =>
    intro k σ hk hS
    obtain rfl : k = 16 := by omega
    exact ⟨σ, hS, by rw [e173_38, if_pos (by decide)]; rfl⟩
  | succ f ih =>
    intro k σ hk hS
    have hp := pow16 (k := k) (by omega)
    have hbe := (mS_mR hS hR).2.2.2.2.2.2.1
    rw [e173_38, if_neg (by rw [q_16, q_le (by omega) (by omega)]; omega), s172 hbl hbe (by omega), ← hok, hb_ci_s]
    cases hk1 : ok k with
    | false =>
      obtain ⟨σ', a1, a4⟩ := ih (k + 1) σ (by omega) hS
      refine ⟨σ', a1, ?_⟩
      rw [hbb_f, if_pos rfl, nI_1, w1_f1 hk1]
      exact a4
    | true =>
      obtain ⟨σ1, k1, k2⟩ := s170 (mS_mR hS hR) (mS_mL hS (Or.inl rfl) hB) hP hst hp
      rw [← hsv] at k1
      rw [hbb_t, if_neg (by decide), s171 σ (by omega), hb_ci_s, k1, hb_ci_s]
      cases hs : sv (2 ^ k) with
      | false =>
        obtain ⟨σ', a1, a4⟩ := ih (k + 1) σ1 (by omega) (hS.tr k2)
        refine ⟨σ', a1, ?_⟩
        rw [hbb_f, if_pos rfl, nI_1, w1_f2 hs]
        exact a4
      | true =>
        refine ⟨σ1, hS.tr k2, ?_⟩
        rw [hbb_t, if_neg (by decide), w1_t hk1 hs]
        rcases (show w = 0 ∨ w = 1 by omega) with rfl | rfl
        · rfl
        · rw [if_pos (by decide), s171 σ1 (by omega), hb_ci_s]; rfl
theorem s173_in (hR : mR σ0 P F) (hB : mL σ0 B 9 0) (hP : ∀ b, b < 65536 → gOk (gB P b)) (hst : st < 1024) (hw : w < 2) (hok : ok = kOk P.2.2.2.2.2.1) (hsv : ∀ m, sv m = !tHarm (gB P (P.2.2.2.2.2.1 ||| m)) (fun s => wAny B s B.1) 1 st) {h : Nat} (hh : h < 16) : ∀ (f l : Nat) (σ : hbM), l + f = h → mS σ0 σ →
    ∃ σ' v4, mS σ0 σ' ∧ hb_run hbSH 173 (94, [.ref 54, .int (nI st), .int (nI w), .int (nI h), .int (nI l)], [], σ) = (match w2i ok sv h f l with
      | some l' => some (some (.int (if w = 0 then 2 else nI (2 ^ h ||| 2 ^ l'))), σ')
      | none => hb_run hbSH 173 (85, [.ref 54, .int (nI st), .int (nI w), .int (nI (h + 1)), v4], [], σ')) := by
  have hbl := hR.2.2.2.2.2.1
  intro f
  induction f with
  | zero =>
    intro l σ hl hS
    obtain rfl : l = h := by omega
    rw [e173_94, if_pos (by rw [q_le (by omega) (by omega)]; omega), nI_1]
    exact ⟨σ, _, hS, rfl⟩
  | succ f ih =>
    intro l σ hl hS
    have hp := or16 (pow16 (k := h) hh) (pow16 (k := l) (by omega))
    have hbe := (mS_mR hS hR).2.2.2.2.2.2.1
    rw [e173_94, if_neg (by rw [q_le (by omega) (by omega)]; omega), s172 hbl hbe hh, ← hok, hb_ci_s]
    cases hk1 : ok h with
    | false =>
      obtain ⟨σ', v4, a1, a4⟩ := ih (l + 1) σ (by omega) hS
      refine ⟨σ', v4, a1, ?_⟩
      rw [hbb_f, if_pos rfl, nI_1, w2i_f0 hk1]
      exact a4
    | true =>
      rw [hbb_t, if_neg (by decide), s172 hbl hbe (by omega), ← hok, hb_ci_s]
      cases hk2 : ok l with
      | false =>
        obtain ⟨σ', v4, a1, a4⟩ := ih (l + 1) σ (by omega) hS
        refine ⟨σ', v4, a1, ?_⟩
        rw [hbb_f, if_pos rfl, nI_1, w2i_f1 hk2]
        exact a4
      | true =>
        obtain ⟨σ1, k1, k2⟩ := s170 (mS_mR hS hR) (mS_mL hS (Or.inl rfl) hB) hP hst hp
        rw [← hsv] at k1
        rw [hbb_t, if_neg (by decide), s171 σ hh, hb_ci_s, s171 σ (show l < 16 by omega), hb_ci_s, q_or, k1, hb_ci_s]
        cases hs : sv (2 ^ h ||| 2 ^ l) with
        | false =>
          obtain ⟨σ', v4, a1, a4⟩ := ih (l + 1) σ1 (by omega) (hS.tr k2)
          refine ⟨σ', v4, a1, ?_⟩
          rw [hbb_f, if_pos rfl, nI_1, w2i_f2 hs]
          exact a4
        | true =>
          refine ⟨σ1, .null, hS.tr k2, ?_⟩
          rw [hbb_t, if_neg (by decide), w2i_t hk1 hk2 hs]
          rcases (show w = 0 ∨ w = 1 by omega) with rfl | rfl
          · rfl
          · rw [if_pos (by decide), s171 σ1 hh, hb_ci_s, s171 σ1 (show l < 16 by omega), hb_ci_s, q_or]; rfl
theorem s173_out (hR : mR σ0 P F) (hB : mL σ0 B 9 0) (hP : ∀ b, b < 65536 → gOk (gB P b)) (hst : st < 1024) (hw : w < 2) (hok : ok = kOk P.2.2.2.2.2.1) (hsv : ∀ m, sv m = !tHarm (gB P (P.2.2.2.2.2.1 ||| m)) (fun s => wAny B s B.1) 1 st) : ∀ (f h : Nat) (σ : hbM) (v4 : Value), h + f = 16 → mS σ0 σ →
    ∃ σ', mS σ0 σ' ∧ hb_run hbSH 173 (85, [.ref 54, .int (nI st), .int (nI w), .int (nI h), v4], [], σ) = (match w2 ok sv f h with
      | some (h', l') => some (some (.int (if w = 0 then 2 else nI (2 ^ h' ||| 2 ^ l'))), σ')
      | none => some (some (.int (-1000000)), σ')) := by
  intro f
  induction f with
  | zero =>
    intro h σ v4 hh hS
    obtain rfl : h = 16 := by omega
    exact ⟨σ, hS, by rw [e173_85, if_pos (by decide)]; rfl⟩
  | succ f ih =>
    intro h σ v4 hh hS
    obtain ⟨σ1, v4', a1, a4⟩ := s173_in hR hB hP hst hw hok hsv (h := h) (by omega) h 0 σ (by omega) hS
    rw [e173_85, if_neg (by rw [q_16, q_le (by omega) (by omega)]; omega), show (0 : Int32) = nI 0 from rfl, a4]
    cases hw2 : w2i ok sv h h 0 with
    | some l => exact ⟨σ1, a1, by rw [w2_t hw2]⟩
    | none =>
      obtain ⟨σ', b1, b4⟩ := ih (h + 1) σ1 v4' (by omega) a1
      exact ⟨σ', b1, by rw [w2_f hw2]; exact b4⟩
theorem s173 {σ : hbM} (hR : mR σ P F) (hB : mL σ B 9 0) (hP : ∀ b, b < 65536 → gOk (gB P b)) (x y : Int32) :
    ∃ σ', hb_ev hbSH 173 [.ref 54, .int x, .int y] σ = some (some (.int (if hb_in x 1024 = true ∧ hb_in y 2 = true then aFew (kOk P.2.2.2.2.2.1) (fun m => !tHarm (gB P (P.2.2.2.2.2.1 ||| m)) (fun s => wAny B s B.1) 1 x.toNatClampNeg) y.toNatClampNeg else -1000001)), σ') ∧ mS σ σ' := by
  have m0 := mS_t σ
  rw [v173, e173_0, s136, hb_ci_s]
  cases hx : hb_in x 1024 with
  | false => exact ⟨_, by rw [hbb_f, if_pos rfl, if_neg (fun q => by cases q.1)], m0⟩
  | true =>
    rw [hbb_t, if_neg (by decide), s112, q_long y 2 (by decide), hb_ci_s]
    cases hy : hb_in y 2 with
    | false => exact ⟨_, by rw [hbb_f, if_neg (fun q => q rfl), if_neg (fun q => by cases q.2)], m0⟩
    | true =>
      obtain ⟨st, hs, rfl⟩ := q_in_of hx
      obtain ⟨w, hw, rfl⟩ := q_in_of hy
      rw [hbb_t, if_pos (by decide), q_cl (by omega), q_cl (by omega), if_pos (show (true = true ∧ true = true) from ⟨rfl, rfl⟩)]
      obtain ⟨σ1, k1, k2⟩ := s170 (mS_mR m0 hR) (mS_mL m0 (Or.inl rfl) hB) hP hs (m := 0) (by omega)
      have m1 := m0.tr k2
      generalize hsv : (fun m => !tHarm (gB P (P.2.2.2.2.2.1 ||| m)) (fun s => wAny B s B.1) 1 st) = sv
      have hsv' : ∀ m, sv m = !tHarm (gB P (P.2.2.2.2.2.1 ||| m)) (fun s => wAny B s B.1) 1 st := fun m => by rw [← hsv]
      rw [← hsv'] at k1
      generalize hok : kOk P.2.2.2.2.2.1 = ok
      rw [show nI 0 = (0 : Int32) from rfl] at k1
      rw [k1, hb_ci_s]
      cases h0 : sv 0 with
      | true =>
        refine ⟨σ1, ?_, m1⟩
        rw [hbb_t, if_neg (by decide)]
        unfold aFew
        rw [h0]; rfl
      | false =>
        obtain ⟨σ2, a1, a4⟩ := s173_one hR hB hP hs hw hok.symm hsv' 16 0 σ1 (by omega) m1
        rw [show nI 0 = (0 : Int32) from rfl] at a4
        rw [hbb_f, if_pos rfl, a4]
        cases h1 : w1 ok sv 16 0 with
        | some k =>
          refine ⟨σ2, ?_, a1⟩
          unfold aFew
          rw [h0, h1]; rfl
        | none =>
          obtain ⟨σ3, b1, b4⟩ := s173_out hR hB hP hs hw hok.symm hsv' 16 0 σ2 .null (by omega) a1
          refine ⟨σ3, ?_, b1⟩
          refine Eq.trans b4 ?_
          unfold aFew
          rw [h0, h1]
          cases h2 : w2 ok sv 16 0 with
          | none => rfl
          | some hl => rfl
end
theorem o_fewest {n : Nat} {σ : hbM} (hJ : J n σ) (hn : n < 1000) (x y : Int32) : Ok2 n 98 173 [.int x, .int y] σ := by
  obtain ⟨⟨⟨F, B, G, w1', w2', w3, w4, w5, w6, _⟩, _⟩, r, hr, hrJ⟩ := id hJ
  have key : ∃ σ1, hb_ev hbSH 98 [.ref 13, .int x, .int y] σ = some (some (.int (if hb_in x 1024 = true ∧ hb_in y 2 = true then aFew (kOk (gP σ).2.2.2.2.2.1) (fun m => !tHarm (gB (gP σ) ((gP σ).2.2.2.2.2.1 ||| m)) (fun s => wAny B s B.1) 1 x.toNatClampNeg) y.toNatClampNeg else -1000001)), σ1) ∧ cS σ σ1 ∧ jR (n + 1) σ1 := by
    rw [v98, e98_0, s109n, hb_ci_s]
    cases hx : hb_in x 1024 with
    | false => exact ⟨σ, by rw [hbb_f, if_pos rfl, if_neg (fun q => by cases q.1)], cS.rf σ, J_s hJ⟩
    | true =>
      rw [hbb_t, if_neg (by decide), s110n _ _ 2 q_2 (by omega), hb_ci_s]
      cases hy : hb_in y 2 with
      | false => exact ⟨σ, by rw [hbb_f, if_neg (fun q => q rfl), if_neg (fun q => by cases q.2)], cS.rf σ, J_s hJ⟩
      | true =>
        obtain ⟨st, hs, rfl⟩ := q_in_of hx
        obtain ⟨w, hw, rfl⟩ := q_in_of hy
        obtain ⟨σ1, r', k1, k2, k3, k4⟩ := s60 (ok := kOk (tn σ 0 10)) (sv := fun m => !tHarm (gB (gP σ) (tn σ 0 10 ||| m)) (fun s => wAny B s B.1) 1 st) w1' w5 w6 hs rfl (fun _ => rfl) (r := r) (by omega) hrJ
        refine ⟨σ1, ?_, k2, r', by omega, k3⟩
        rw [hbb_t, if_pos (by decide), k1, hb_ci_s, q_cl (by omega), q_cl (by omega), if_pos (show (true = true ∧ true = true) from ⟨rfl, rfl⟩), show (gP σ).2.2.2.2.2.1 = tn σ 0 10 from rfl, aFew_eq _ _ hw]
        cases hl : lB (kOk (tn σ 0 10)) (fun m => !tHarm (gB (gP σ) (tn σ 0 10 ||| m)) (fun s => wAny B s B.1) 1 st) with
        | none => rw [if_pos (show hbo none = (-1000000 : Int32) from rfl)]; rfl
        | some b =>
          have hb := lB_lt hl
          rw [if_neg (show ¬ hbo (some b) = (-1000000 : Int32) from nno (by omega))]
          rcases (show w = 0 ∨ w = 1 by omega) with rfl | rfl
          · rw [if_pos (by decide), show hbo (some b) = nI b from rfl, s188 σ1 hb, hb_ci_s]; rfl
          · rw [if_neg (by decide)]; rfl
  obtain ⟨σ1, k1, k2, k3⟩ := key
  refine Ok2.of hJ k1 k2 k3 (fun _ => s173 (cS_mR k2 w2') (cS_mL k2 w3) (fun b hb => ?_) x y)
  have := gI_bar w1' hb
  rw [← this.2]
  exact gI_ok this.1
