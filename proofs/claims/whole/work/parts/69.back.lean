/-! back: deeds, ways, the reference -/
def gdd (P : hbGP) (st k : Nat) : Nat := if k = 0 then P.2.2.2.2.1 st else gDone P.2.2.2.2.1 P.2.2.2.2.2.1 st (k - 1) (decide (st / 2 ^ (k - 1) % 2 = 0))
theorem gdd_lt {P : hbGP} (hT : ∀ s, s < 1024 → P.2.2.2.2.1 s < 1024) {st k : Nat} (hs : st < 1024) (hk : k < 5) : gdd P st k < 1024 := by
  unfold gdd
  split
  · exact hT st hs
  · have hp : 2 ^ (k - 1) < 1024 := by rcases (show k - 1 = 0 ∨ k - 1 = 1 ∨ k - 1 = 2 ∨ k - 1 = 3 by omega) with h | h | h | h <;> rw [h] <;> decide
    unfold gDone
    split
    · split
      · exact hT _ hs
      · exact hT _ (Nat.or_lt_two_pow (n := 10) hs hp)
    · exact hT _ (Nat.lt_of_le_of_lt Nat.and_le_left hs)
section
variable (P : hbGP) (bd gd : Nat → Bool)
def Pt : Nat → Nat → Nat → Prop
  | 0, y, x => y = x
  | m + 1, y, x => ∃ j, j < 5 ∧ bd (gdd P y j) = false ∧ Pt m (gdd P y j) x
def Rw : Nat → Nat → Prop
  | 0, x => gd x = true
  | m + 1, x => gd x = true ∨ (bd x = false ∧ ∃ k, k < 5 ∧ Rw m (gdd P x k))
def lay (d x : Nat) : Prop := Rw P bd gd d x ∧ ∀ d', d' < d → ¬ Rw P bd gd d' x
/-- the least way to a good state: its length and first deed -/
def bMin (st D K : Nat) : Prop := K < 5 ∧ (∃ x m, D = m + 1 ∧ gd x = true ∧ bd (gdd P st K) = false ∧ Pt P bd m (gdd P st K) x) ∧ ∀ m k x, k < 5 → gd x = true → bd (gdd P st k) = false → Pt P bd m (gdd P st k) x → 5 * D + K ≤ 5 * (m + 1) + k
def bS (st : Nat) : Option (Nat × Nat) → Prop
  | some (D, K) => bMin P bd gd st D K
  | none => ∀ m k x, k < 5 → gd x = true → bd (gdd P st k) = false → ¬ Pt P bd m (gdd P st k) x
end
section
variable {P : hbGP} {bd gd : Nat → Bool}
theorem bS_un {st : Nat} {a b : Option (Nat × Nat)} (ha : bS P bd gd st a) (hb : bS P bd gd st b) : a = b := by
  cases a with
  | none =>
    cases b with
    | none => rfl
    | some q =>
      obtain ⟨D, K⟩ := q
      obtain ⟨h1, ⟨x, m, h2, h3, h4, h5⟩, h6⟩ := hb
      exact absurd h5 (ha m K x h1 h3 h4)
  | some p =>
    obtain ⟨D, K⟩ := p
    obtain ⟨h1, ⟨x, m, h2, h3, h4, h5⟩, h6⟩ := ha
    cases b with
    | none => exact absurd h5 (hb m K x h1 h3 h4)
    | some q =>
      obtain ⟨D', K'⟩ := q
      obtain ⟨g1, ⟨x', m', g2, g3, g4, g5⟩, g6⟩ := hb
      have e1 := h6 m' K' x' g1 g3 g4 g5
      have e2 := g6 m K x h1 h3 h4 h5
      have hD : D = D' := by omega
      have hK : K = K' := by omega
      rw [hD, hK]
theorem Rw_mono : ∀ (m x : Nat), Rw P bd gd m x → Rw P bd gd (m + 1) x := by
  intro m
  induction m with
  | zero => intro x h; exact Or.inl h
  | succ m ih =>
    intro x h
    rcases h with h | ⟨h, k, hk, hr⟩
    · exact Or.inl h
    · exact Or.inr ⟨h, k, hk, ih _ hr⟩
theorem Rw_le {m n x : Nat} (h : m ≤ n) (hr : Rw P bd gd m x) : Rw P bd gd n x := by
  obtain ⟨k, rfl⟩ := Nat.exists_eq_add_of_le h
  clear h
  induction k with
  | zero => exact hr
  | succ k ih => exact Rw_mono _ _ ih
theorem Rw_nb (hgb : ∀ x, gd x = true → bd x = false) {m x : Nat} (h : Rw P bd gd m x) : bd x = false := by
  cases m with
  | zero => exact hgb x h
  | succ m => rcases h with h | h; exact hgb x h; exact h.1
theorem Pt_Rw : ∀ (m y x : Nat), bd y = false → gd x = true → Pt P bd m y x → Rw P bd gd m y := by
  intro m
  induction m with
  | zero => intro y x _ hg h; have h : y = x := h; rw [h]; exact hg
  | succ m ih =>
    intro y x hy hg h
    obtain ⟨j, hj, h1, h2⟩ := h
    exact Or.inr ⟨hy, j, hj, ih _ x h1 hg h2⟩
theorem Rw_Pt (hgb : ∀ x, gd x = true → bd x = false) : ∀ (m y : Nat), Rw P bd gd m y → ∃ m' x, m' ≤ m ∧ gd x = true ∧ Pt P bd m' y x := by
  intro m
  induction m with
  | zero => intro y h; exact ⟨0, y, Nat.le_refl _, h, rfl⟩
  | succ m ih =>
    intro y h
    rcases h with h | ⟨h, k, hk, hr⟩
    · exact ⟨0, y, by omega, h, rfl⟩
    · obtain ⟨m', x, h1, h2, h3⟩ := ih _ hr
      exact ⟨m' + 1, x, by omega, h2, k, hk, Rw_nb hgb hr, h3⟩
/-- from distances to the least way -/
theorem bS_lay (hgb : ∀ x, gd x = true → bd x = false) {st D K : Nat} (hb : bd st = false) (hl : lay P bd gd (D + 1) st) (hK : K < 5) (hk : lay P bd gd D (gdd P st K)) (hmin : ∀ k, k < K → ¬ lay P bd gd D (gdd P st k)) : bS P bd gd st (some (D + 1, K)) := by
  refine ⟨hK, ?_, fun m k x h1 h2 h3 h4 => ?_⟩
  · obtain ⟨m', x, a1, a2, a3⟩ := Rw_Pt hgb D _ hk.1
    refine ⟨x, D, rfl, a2, Rw_nb hgb hk.1, ?_⟩
    have : m' = D := by
      by_cases z : m' < D
      · exact absurd (Pt_Rw m' _ x (Rw_nb hgb hk.1) a2 a3) (hk.2 m' z)
      · omega
    rw [← this]; exact a3
  · have hr := Pt_Rw m _ x h3 h2 h4
    have hs : Rw P bd gd (m + 1) st := Or.inr ⟨hb, k, h1, hr⟩
    have hD : D + 1 ≤ m + 1 := by
      by_cases z : m + 1 < D + 1
      · exact absurd hs (hl.2 _ z)
      · omega
    by_cases z : D = m
    · have : K ≤ k := by
        by_cases y : k < K
        · refine absurd ⟨by rw [z]; exact hr, fun d' hd' h => ?_⟩ (hmin k y)
          exact hl.2 (d' + 1) (by omega) (Or.inr ⟨hb, k, h1, h⟩)
        · omega
      omega
    · omega
theorem bS_no {st : Nat} (hb : bd st = false) (h : ∀ m, ¬ Rw P bd gd m st) : bS P bd gd st none := fun m k x h1 h2 h3 h4 => h (m + 1) (Or.inr ⟨hb, k, h1, Pt_Rw m _ x h3 h2 h4⟩)
/-- what a state's cell of distances says when m rounds are through -/
def St (P : hbGP) (bd gd : Nat → Bool) (σ : hbM) (m x : Nat) : Prop := (σ 76 x = hbNO ∧ ¬ Rw P bd gd m x) ∨ ∃ d, d ≤ m ∧ σ 76 x = nI d ∧ lay P bd gd d x
theorem St_is {σ : hbM} {m x d : Nat} (h : St P bd gd σ m x) (hd : d ≤ m) (hm : m < 100000) : (σ 76 x = nI d) ↔ lay P bd gd d x := by
  rcases h with ⟨h1, h2⟩ | ⟨d', h1, h2, h3⟩
  · constructor
    · intro z; rw [h1] at z; exact absurd z.symm (nno (by omega))
    · intro z; exact absurd (Rw_le hd z.1) h2
  · rw [h2, q_eq (by omega) (by omega)]
    constructor
    · intro z; rw [← z]; exact h3
    · intro z
      by_cases a : d < d'
      · exact absurd z.1 (h3.2 d a)
      · by_cases b : d' < d
        · exact absurd h3.1 (z.2 d' b)
        · omega
theorem s166 {σ : hbM} {F : hbF} (hR : mR σ P F) {st k : Nat} (hs : st < 1024) (hk : k < 5) : hb_ev hbSH 166 [.ref 54, .int (nI st), .int (nI k)] σ = some (some (.int (nI (gdd P st k))), σ) := by
  rw [v166, e166_0]
  unfold gdd
  by_cases hk0 : k = 0
  · rw [hk0, if_neg (fun z => z rfl), s142 hR.1 hs, hb_ci_s, if_pos rfl, hR.2.2.2.2.1 st hs]
  · have e1 : nI k - (1 : Int32) = nI (k - 1) := by rw [q_1, q_sub (by omega)]
    have hdl : st / 2 ^ (k - 1) < 1024 := Nat.lt_of_le_of_lt (Nat.div_le_self _ _) hs
    have hc : (¬ ((nI st >>> (nI (k - 1) &&& 31)) &&& (1 : Int32)) = 0) = (¬ st / 2 ^ (k - 1) % 2 = 0) := by
      rw [q_shr (by omega) (by omega), q_1, q_and, q_a1, q_0, q_eq (by omega) (by omega)]
    rw [if_pos (fun z => hk0 (by rw [q_0, q_eq (by omega) (by omega)] at z; exact z)), e1, if_neg hk0]
    simp only [hc]
    by_cases z : st / 2 ^ (k - 1) % 2 = 0
    · rw [if_neg (fun y => y z), e166_32, decide_eq_true z, show (1 : Int32) = hbb true from rfl, s150 hR hs (by omega), hb_ci_s]
    · rw [if_pos z, e166_32, decide_eq_false z, show (0 : Int32) = hbb false from rfl, s150 hR hs (by omega), hb_ci_s]
theorem mS76 {σ σ' : hbM} (h : ∀ c, c ≠ 76 → σ' c = σ c) : mS σ σ' := ⟨fun c _ h2 => h c (by omega), fun i _ _ _ _ => by rw [h 54 (by omega)]⟩
end
section
variable {P : hbGP} {F : hbF} {B G : hbL}
theorem s167_0 (x1 x2 : Int32) : ∀ (f i : Nat) (σ : hbM), i + f = 1024 → mL σ B 9 0 → mL σ G 10 4 → ∃ σ', hb_run hbSH 167 (27, [.ref 54, .int x1, .int x2, .int (nI i), .null, .null, .null], [], σ) = hb_run hbSH 167 (65, [.ref 54, .int x1, .int x2, .int 1, .int 1, .null, .null], [], σ') ∧ (∀ c, c ≠ 76 → σ' c = σ c) ∧ (∀ x, i ≤ x → x < 1024 → σ' 76 x = if wGood B G x = true then 0 else hbNO) ∧ ∀ x, x < i → σ' 76 x = σ 76 x := by
  intro f
  induction f with
  | zero =>
    intro i σ hi hB hG
    obtain rfl : i = 1024 := by omega
    exact ⟨σ, by rw [e167_27, if_pos (by decide)], fun _ _ => rfl, fun x h1 h2 => by omega, fun _ _ => rfl⟩
  | succ f ih =>
    intro i σ hi hB hG
    have fr : ∀ v, ∀ c, c ≠ 76 → hb_up σ 76 i v c = σ c := fun v c hc => um_c _ _ _ hc
    obtain ⟨σ', r1, r2, r3, r4⟩ := ih (i + 1) (hb_up σ 76 i (if wGood B G i = true then 0 else hbNO)) (by omega) (mS_mL (mS76 (fr _)) (Or.inl rfl) hB) (mS_mL (mS76 (fr _)) (Or.inr rfl) hG)
    refine ⟨σ', ?_, fun c hc => (r2 c hc).trans (fr _ c hc), fun x h1 h2 => ?_, fun x hx => by rw [r4 x (by omega), um_i _ _ _ (by omega)]⟩
    · rw [e167_27, if_neg (by rw [q_1024, q_le (by omega) (by omega)]; omega), s147 hB hG (by omega), hb_ci_s, q_inT (by omega) (by omega), nI_1, q_cl (by omega)]
      cases hg : wGood B G i with
      | true =>
        rw [hg, if_pos rfl] at r1
        rw [hbb_t, if_neg (by decide), hb_g_t, hb_g_nil]; exact r1
      | false =>
        rw [hg, if_neg (by decide)] at r1
        rw [hbb_f, if_pos rfl, hb_g_t, hb_g_nil]; exact r1
    · by_cases z : x = i
      · rw [z, r4 i (by omega), um_s]
      · exact r3 x (by omega) h2
/-- one state's deeds in round r + 1 -/
theorem s167_85 (hT : ∀ s, s < 1024 → P.2.2.2.2.1 s < 1024) (x1 x2 : Int32) {r s : Nat} (hr : r < 5000) (hs : s < 1024) : ∀ (f k : Nat) (mo : Bool) (σ : hbM), k + f = 5 → mR σ P F → mL σ B 9 0 → (∀ x, x < 1024 → St P (fun s => wAny B s B.1) (wGood B G) σ r x ∨ (x < s ∧ St P (fun s => wAny B s B.1) (wGood B G) σ (r + 1) x)) → σ 76 s = hbNO → ¬ Rw P (fun s => wAny B s B.1) (wGood B G) r s → wAny B s B.1 = false → (∀ j, j < k → ¬ Rw P (fun s => wAny B s B.1) (wGood B G) r (gdd P s j)) →
    ∃ σ' mo' x6, hb_run hbSH 167 (85, [.ref 54, .int x1, .int x2, .int (hbb mo), .int (nI (r + 1)), .int (nI s), .int (nI k)], [], σ) = hb_run hbSH 167 (74, [.ref 54, .int x1, .int x2, .int (hbb mo'), .int (nI (r + 1)), .int (nI (s + 1)), .int x6], [], σ') ∧ (∀ c, c ≠ 76 → σ' c = σ c) ∧ St P (fun s => wAny B s B.1) (wGood B G) σ' (r + 1) s ∧ ((σ' = σ ∧ mo' = mo) ∨ (mo' = true ∧ (∀ x, x ≠ s → σ' 76 x = σ 76 x) ∧ ¬ σ' 76 s = hbNO)) := by
  intro f
  induction f with
  | zero =>
    intro k mo σ hk hR hB hSt hn hnr hb hno
    obtain rfl : k = 5 := by omega
    refine ⟨σ, mo, nI 5, by rw [e167_85, if_pos (by decide), nI_1], fun _ _ => rfl, Or.inl ⟨hn, fun z => ?_⟩, Or.inl ⟨rfl, rfl⟩⟩
    rcases z with z | ⟨_, j, hj, z⟩
    · exact hnr (Rw_le (by omega) (show Rw P (fun s => wAny B s B.1) (wGood B G) 0 s from z))
    · exact hno j hj z
  | succ f ih =>
    intro k mo σ hk hR hB hSt hn hnr hb hno
    have hy := gdd_lt hT hs (k := k) (by omega)
    have hcmp : (σ 76 (gdd P s k) = nI r) ↔ lay P (fun s => wAny B s B.1) (wGood B G) r (gdd P s k) := by
      rcases hSt _ hy with h | ⟨_, h⟩
      · exact St_is h (Nat.le_refl _) (by omega)
      · exact St_is h (by omega) (by omega)
    have e1 : nI (r + 1) - (1 : Int32) = nI r := by rw [q_1, q_sub (by omega)]; rfl
    rw [e167_85, if_neg (by rw [q_5, q_le (by omega) (by omega)]; omega), q_inT (by omega) hs, hb_g_t, hb_g_nil, q_cl (by omega), if_neg (fun z => z hn), s146 hB hs, hb_ci_s, hb, hbb_f, if_neg (fun z => z rfl), s166 hR hs (by omega), hb_ci_s, q_inT (by omega) hy, hb_g_t, hb_g_nil, q_cl (by omega), e1]
    by_cases hl : σ 76 (gdd P s k) = nI r
    · have hlay := hcmp.mp hl
      rw [if_neg (fun z => z hl), hb_g_t, hb_g_nil]
      have fr : ∀ c, c ≠ 76 → hb_up σ 76 s (nI (r + 1)) c = σ c := fun c hc => um_c _ _ _ hc
      have hset : hb_up σ 76 s (nI (r + 1)) 76 s = nI (r + 1) := um_s _ _ _ _
      refine ⟨hb_up σ 76 s (nI (r + 1)), true, nI (k + 1), ?_, fr, Or.inr ⟨r + 1, Nat.le_refl _, hset, Or.inr ⟨hb, k, by omega, hlay.1⟩, fun d' hd' z => hnr (Rw_le (by omega) z)⟩, Or.inr ⟨rfl, fun x hx => um_i _ _ _ hx, ?_⟩⟩
      · rw [nI_1, e167_85]
        by_cases z : (5 : Int32) ≤ nI (k + 1)
        · rw [if_pos z, nI_1]; rfl
        · rw [if_neg z, q_inT (by omega) hs, hb_g_t, hb_g_nil, q_cl (by omega), hset, if_pos (nno (by omega)), nI_1]; rfl
      · rw [hset]; exact nno (by omega)
    · rw [if_pos hl, nI_1]
      refine ih (k + 1) mo σ (by omega) hR hB hSt hn hnr hb (fun j hj => ?_)
      by_cases z : j = k
      · rw [z]
        intro hrw
        refine hl (hcmp.mpr ⟨hrw, fun d' hd' h => ?_⟩)
        cases r with
        | zero => omega
        | succ r => exact hnr (Rw_le (show d' + 1 ≤ r + 1 by omega) (Or.inr ⟨hb, k, by omega, h⟩))
      · exact hno j (by omega)
/-- one round -/
theorem s167_74 (hT : ∀ s, s < 1024 → P.2.2.2.2.1 s < 1024) (x1 x2 : Int32) {r : Nat} (hr : r < 5000) {σ0 : hbM} (hb0 : ∀ x, x < 1024 → σ0 76 x = hbNO → True) : ∀ (f s : Nat) (mo : Bool) (σ : hbM) (v6 : Value), s + f = 1024 → mR σ P F → mL σ B 9 0 → (∀ c, c ≠ 76 → σ c = σ0 c) → (∀ x, x < s → St P (fun s => wAny B s B.1) (wGood B G) σ (r + 1) x) → (∀ x, s ≤ x → x < 1024 → St P (fun s => wAny B s B.1) (wGood B G) σ r x) → (mo = false → ∀ x, x < 1024 → σ 76 x = σ0 76 x) → cnt (fun x => decide (σ 76 x = hbNO)) 1024 + (if mo = true then 1 else 0) ≤ cnt (fun x => decide (σ0 76 x = hbNO)) 1024 →
    ∃ σ' mo' v5 v6', hb_run hbSH 167 (74, [.ref 54, .int x1, .int x2, .int (hbb mo), .int (nI (r + 1)), .int (nI s), v6], [], σ) = hb_run hbSH 167 (65, [.ref 54, .int x1, .int x2, .int (hbb mo'), .int (nI (r + 1 + 1)), v5, v6'], [], σ') ∧ (∀ c, c ≠ 76 → σ' c = σ0 c) ∧ (∀ x, x < 1024 → St P (fun s => wAny B s B.1) (wGood B G) σ' (r + 1) x) ∧ (mo' = false → ∀ x, x < 1024 → σ' 76 x = σ0 76 x) ∧ cnt (fun x => decide (σ' 76 x = hbNO)) 1024 + (if mo' = true then 1 else 0) ≤ cnt (fun x => decide (σ0 76 x = hbNO)) 1024 := by
  intro f
  induction f with
  | zero =>
    intro s mo σ v6 hs hR hB hfr h1 h2 h3 h4
    obtain rfl : s = 1024 := by omega
    rw [e167_74, if_pos (by decide), nI_1]
    exact ⟨σ, mo, _, _, rfl, hfr, fun x hx => h1 x hx, h3, h4⟩
  | succ f ih =>
    intro s mo σ v6 hs hR hB hfr h1 h2 h3 h4
    have hs1 : s < 1024 := by omega
    rw [e167_74, if_neg (by rw [q_1024, q_le (by omega) (by omega)]; omega)]
    have hSt := h2 s (Nat.le_refl _) hs1
    have nxt : ∀ (σ1 : hbM) (mo1 : Bool) (x6 : Int32), (∀ c, c ≠ 76 → σ1 c = σ c) → St P (fun s => wAny B s B.1) (wGood B G) σ1 (r + 1) s → ((σ1 = σ ∧ mo1 = mo) ∨ (mo1 = true ∧ (∀ x, x ≠ s → σ1 76 x = σ 76 x) ∧ ¬ σ1 76 s = hbNO ∧ σ 76 s = hbNO)) →
        ∃ σ' mo' v5 v6', hb_run hbSH 167 (74, [.ref 54, .int x1, .int x2, .int (hbb mo1), .int (nI (r + 1)), .int (nI (s + 1)), .int x6], [], σ1) = hb_run hbSH 167 (65, [.ref 54, .int x1, .int x2, .int (hbb mo'), .int (nI (r + 1 + 1)), v5, v6'], [], σ') ∧ (∀ c, c ≠ 76 → σ' c = σ0 c) ∧ (∀ x, x < 1024 → St P (fun s => wAny B s B.1) (wGood B G) σ' (r + 1) x) ∧ (mo' = false → ∀ x, x < 1024 → σ' 76 x = σ0 76 x) ∧ cnt (fun x => decide (σ' 76 x = hbNO)) 1024 + (if mo' = true then 1 else 0) ≤ cnt (fun x => decide (σ0 76 x = hbNO)) 1024 := by
      intro σ1 mo1 x6 a1 a2 a3
      have hsame : ∀ x, x ≠ s → σ1 76 x = σ 76 x := by
        rcases a3 with ⟨e, _⟩ | ⟨_, e, _⟩
        · intro x _; rw [e]
        · exact e
      refine ih (s + 1) mo1 σ1 _ (by omega) (mS_mR (mS76 a1) hR) (mS_mL (mS76 a1) (Or.inl rfl) hB) (fun c hc => (a1 c hc).trans (hfr c hc)) (fun x hx => ?_) (fun x hx hx2 => ?_) ?_ ?_
      · by_cases z : x = s
        · rw [z]; exact a2
        · have := h1 x (by omega)
          unfold St at this ⊢
          rw [hsame x z]; exact this
      · have := h2 x (by omega) hx2
        unfold St at this ⊢
        rw [hsame x (by omega)]; exact this
      · rcases a3 with ⟨e1, e2⟩ | ⟨e, _⟩
        · rw [e1, e2]; exact h3
        · intro z; rw [e] at z; cases z
      · rcases a3 with ⟨e1, e2⟩ | ⟨e1, e2, e3, e4⟩
        · rw [e1, e2]; exact h4
        · have hd := cnt_del (f := fun x => decide (σ 76 x = hbNO)) (p := s) (decide_eq_true e4) hs1
          have : cnt (fun x => decide (σ1 76 x = hbNO)) 1024 = cnt (fun x => decide (σ 76 x = hbNO) && !decide (x = s)) 1024 := cnt_eq _ (fun x _ => by
            show decide (σ1 76 x = hbNO) = (decide (σ 76 x = hbNO) && !decide (x = s))
            by_cases z : x = s
            · rw [z, decide_eq_false e3, decide_eq_true rfl]; simp
            · rw [e2 x z, decide_eq_false z]; simp)
          rw [e1, if_pos rfl]
          have : (if mo = true then 1 else 0) ≤ 1 := by split <;> omega
          omega
    rcases hSt with ⟨hn, hnr⟩ | ⟨d, hd, he, hlay⟩
    · cases hb : wAny B s B.1 with
      | true =>
        rw [e167_85, if_neg (by decide), q_inT (by omega) hs1, hb_g_t, hb_g_nil, q_cl (by omega), if_neg (fun z => z hn), s146 hB hs1, hb_ci_s, hb, hbb_t, if_pos (by decide), nI_1]
        refine nxt σ mo _ (fun _ _ => rfl) (Or.inl ⟨hn, fun z => ?_⟩) (Or.inl ⟨rfl, rfl⟩)
        rcases z with z | ⟨z, _⟩
        · exact hnr (Rw_le (by omega) (show Rw P (fun s => wAny B s B.1) (wGood B G) 0 s from z))
        · rw [show wAny B s B.1 = false from z] at hb; cases hb
      | false =>
        obtain ⟨σ1, mo1, x6, b1, b2, b3, b4⟩ := s167_85 (F := F) (B := B) (G := G) hT x1 x2 hr hs1 5 0 mo σ (by omega) hR hB (fun x hx => by
          by_cases z : x < s
          · exact Or.inr ⟨z, h1 x z⟩
          · exact Or.inl (h2 x (by omega) hx)) hn hnr hb (fun j hj => by omega)
        obtain ⟨σ', mo', v5, v6', c1, c2⟩ := nxt σ1 mo1 x6 b2 b3 (by
          rcases b4 with h | ⟨h1', h2', h3'⟩
          · exact Or.inl h
          · exact Or.inr ⟨h1', h2', h3', hn⟩)
        exact ⟨σ', mo', v5, v6', b1.trans c1, c2⟩
    · rw [e167_85, if_neg (by decide), q_inT (by omega) hs1, hb_g_t, hb_g_nil, q_cl (by omega), he, if_pos (nno (by omega)), nI_1]
      exact nxt σ mo _ (fun _ _ => rfl) (Or.inr ⟨d, by omega, he, hlay⟩) (Or.inl ⟨rfl, rfl⟩)
/-- all rounds -/
theorem s167_65 (hT : ∀ s, s < 1024 → P.2.2.2.2.1 s < 1024) (x1 x2 : Int32) : ∀ (f r : Nat) (σ : hbM) (v5 v6 : Value), cnt (fun x => decide (σ 76 x = hbNO)) 1024 < f → r + cnt (fun x => decide (σ 76 x = hbNO)) 1024 ≤ 1024 → mR σ P F → mL σ B 9 0 → (∀ x, x < 1024 → St P (fun s => wAny B s B.1) (wGood B G) σ r x) →
    ∃ σ' x4 v5' v6' m, hb_run hbSH 167 (65, [.ref 54, .int x1, .int x2, .int 1, .int (nI (r + 1)), v5, v6], [], σ) = hb_run hbSH 167 (65, [.ref 54, .int x1, .int x2, .int 0, .int x4, v5', v6'], [], σ') ∧ (∀ c, c ≠ 76 → σ' c = σ c) ∧ m ≤ 1024 ∧ (∀ x, x < 1024 → St P (fun s => wAny B s B.1) (wGood B G) σ' m x) ∧ ∀ x, x < 1024 → Rw P (fun s => wAny B s B.1) (wGood B G) (m + 1) x → Rw P (fun s => wAny B s B.1) (wGood B G) m x := by
  intro f
  induction f with
  | zero => intro r σ v5 v6 h; omega
  | succ f ih =>
    intro r σ v5 v6 hf hrb hR hB hSt
    obtain ⟨σ1, mo1, w5, w6, a1, a2, a3, a4, a5⟩ := s167_74 (F := F) (B := B) (G := G) hT x1 x2 (r := r) (by omega) (σ0 := σ) (fun _ _ _ => trivial) 1024 0 false σ v6 (by omega) hR hB (fun _ _ => rfl) (fun x hx => by omega) (fun x _ hx => hSt x hx) (fun _ _ _ => rfl) (by rw [if_neg (by decide)]; omega)
    rw [e167_65, if_neg (by decide), show (0 : Int32) = nI 0 from rfl]
    rw [show hbb false = nI 0 from rfl] at a1
    cases mo1 with
    | true =>
      rw [if_pos rfl] at a5
      obtain ⟨σ2, x4, u5, u6, m, b1, b2, b3, b4, b5⟩ := ih (r + 1) σ1 w5 w6 (by omega) (by omega) (mS_mR (mS76 a2) hR) (mS_mL (mS76 a2) (Or.inl rfl) hB) a3
      exact ⟨σ2, x4, u5, u6, m, a1.trans b1, fun c hc => (b2 c hc).trans (a2 c hc), b3, b4, b5⟩
    | false =>
      refine ⟨σ1, nI (r + 1 + 1), w5, w6, r, a1, a2, by omega, fun x hx => ?_, fun x hx hrw => ?_⟩
      · have := hSt x hx
        unfold St at this ⊢
        rw [a4 rfl x hx]; exact this
      · have h1 := hSt x hx
        have h2 := a3 x hx
        rw [St, a4 rfl x hx] at h2
        rcases h1 with ⟨e1, n1⟩ | ⟨d, hd, e1, l1⟩
        · rcases h2 with ⟨_, n2⟩ | ⟨d, hd, e2, _⟩
          · exact absurd hrw n2
          · rw [e1] at e2; exact absurd e2.symm (nno (by omega))
        · exact Rw_le hd l1.1
end
