/-! shows: moves, with one slip ahead or none -/
def mvS (P : hbGP) (s k : Nat) (c : Nat × Bool) : Option ((Nat × Bool) × Bool) :=
  match (if (c.2 && decide (c.1 / 1024 = s)) = true then gSl P c.1 k else none) with
  | some q => some ((q, false), decide (k = 1 ∨ k = 2))
  | none => match gOn P c.1 with
    | none => none
    | some q => some ((q, c.2), gTk P c.1)
def nt (P : hbGP) (s k : Nat) : Nat → Nat × Bool → (Nat × Bool) × Bool
  | 0, c => (c, false)
  | f + 1, c => match mvS P s k c with
    | none => (c, false)
    | some (c', true) => (c', true)
    | some (c', false) => nt P s k f c'
theorem nt_n {P : hbGP} {s k f : Nat} {c : Nat × Bool} (h : mvS P s k c = none) : nt P s k (f + 1) c = (c, false) := by simp only [nt, h]
theorem nt_t {P : hbGP} {s k f : Nat} {c c' : Nat × Bool} (h : mvS P s k c = some (c', true)) : nt P s k (f + 1) c = (c', true) := by simp only [nt, h]
theorem nt_f {P : hbGP} {s k f : Nat} {c c' : Nat × Bool} (h : mvS P s k c = some (c', false)) : nt P s k (f + 1) c = nt P s k f c' := by simp only [nt, h]
theorem gOn_st {P : hbGP} {p q : Nat} (h : gOn P p = some q) (ht : gTk P p = false) : q % 1024 = p % 1024 := by
  unfold gOn at h
  unfold gTk at ht
  split at h
  · rename_i hk
    rw [decide_eq_true hk, Bool.true_and, Bool.or_eq_false_iff, decide_eq_false_iff_not] at ht
    split at h
    · omega
    · split at h
      · omega
      · split at h
        · rename_i h2
          rw [decide_eq_true h2, Bool.true_and] at ht
          split at h
          · cases h; omega
          · rename_i h3
            rw [Bool.not_eq_false'] at ht
            exact absurd ht.2 h3
        · split at h
          · split at h <;> cases h <;> omega
          · split at h <;> cases h
            omega
  · cases h
theorem gSl_st {P : hbGP} {p q k : Nat} (h : gSl P p k = some q) (hk1 : ¬ (k = 1 ∨ k = 2)) : q % 1024 = p % 1024 := by
  unfold gSl at h
  split at h
  · split at h
    · cases h; omega
    · split at h
      · omega
      · split at h
        · omega
        · split at h
          · cases h
          · cases h; omega
  · cases h
theorem gSl_on {P : hbGP} {p q k : Nat} (h : gSl P p k = some q) : gOn P p ≠ none := by
  unfold gSl at h
  unfold gOn
  split at h
  · rename_i hk
    rw [if_pos hk.1]
    intro z
    split at z
    · cases z
    · split at z
      · cases z
      · split at z
        · split at z <;> cases z
        · omega
  · cases h
theorem mvS_st {P : hbGP} {s k : Nat} {c c' : Nat × Bool} (h : mvS P s k c = some (c', false)) : c'.1 % 1024 = c.1 % 1024 := by
  unfold mvS at h
  split at h
  · rename_i q hq
    split at hq
    · simp only [Option.some.injEq, Prod.mk.injEq] at h
      obtain ⟨h1, h2⟩ := h
      rw [← h1]
      exact gSl_st hq (of_decide_eq_false h2)
    · cases hq
  · split at h
    · cases h
    · rename_i q hq
      simp only [Option.some.injEq, Prod.mk.injEq] at h
      obtain ⟨h1, h2⟩ := h
      rw [← h1]
      exact gOn_st hq h2
theorem mvS_lt {P : hbGP} (hP : gOk P) {s k : Nat} {c c' : Nat × Bool} {b : Bool} (hc : c.1 < 17408) (h : mvS P s k c = some (c', b)) : c'.1 < 17408 := by
  unfold mvS at h
  split at h
  · rename_i q hq
    split at hq
    · simp only [Option.some.injEq, Prod.mk.injEq] at h
      obtain ⟨h1, h2⟩ := h
      rw [← h1]
      exact hP.2.1 _ _ _ hc hq
    · cases hq
  · split at h
    · cases h
    · rename_i q hq
      simp only [Option.some.injEq, Prod.mk.injEq] at h
      obtain ⟨h1, h2⟩ := h
      rw [← h1]
      exact hP.1 _ _ hc hq
theorem mvS_none {P : hbGP} {s k : Nat} {c : Nat × Bool} : mvS P s k c = none ↔ gOn P c.1 = none := by
  unfold mvS
  split
  · rename_i q hq
    constructor
    · intro h; cases h
    · intro h
      split at hq
      · exact absurd h (gSl_on hq)
      · cases hq
  · split
    · rename_i h; exact ⟨fun _ => h, fun _ => rfl⟩
    · rename_i q h
      constructor
      · intro z; cases z
      · intro z; rw [h] at z; cases z
/-! quiet: no tick comes -/
def quiet (P : hbGP) (s k : Nat) (c : Nat × Bool) : Prop := ∀ f, (nt P s k f c).2 = false
theorem quiet_s {P : hbGP} {s k : Nat} {c c' : Nat × Bool} (h : mvS P s k c = some (c', false)) : quiet P s k c ↔ quiet P s k c' := by
  constructor
  · intro q f
    have := q (f + 1)
    rw [nt_f h] at this
    exact this
  · intro q f
    cases f with
    | zero => rfl
    | succ f => rw [nt_f h]; exact q f
theorem quiet_n {P : hbGP} {s k : Nat} {c : Nat × Bool} (h : mvS P s k c = none) : quiet P s k c := by
  intro f
  cases f with
  | zero => rfl
  | succ f => rw [nt_n h]
/-- codes of places with one state -/
def cde (c : Nat × Bool) : Nat := 2 * (c.1 / 1024) + (if c.2 = true then 1 else 0)
def dcd (st x : Nat) : Nat × Bool := (1024 * (x / 2) + st, decide (x % 2 = 1))
theorem dcd_cde {st : Nat} {c : Nat × Bool} (h : c.1 % 1024 = st) : dcd st (cde c) = c := by
  obtain ⟨p, a⟩ := c
  unfold dcd cde
  have h : p % 1024 = st := h
  cases a
  · refine Prod.ext ?_ ?_
    · show 1024 * ((2 * (p / 1024) + (if false = true then 1 else 0)) / 2) + st = p
      rw [if_neg (by decide)]; omega
    · show decide ((2 * (p / 1024) + (if false = true then 1 else 0)) % 2 = 1) = false
      rw [if_neg (by decide)]; exact decide_eq_false (by omega)
  · refine Prod.ext ?_ ?_
    · show 1024 * ((2 * (p / 1024) + (if true = true then 1 else 0)) / 2) + st = p
      rw [if_pos rfl]; omega
    · show decide ((2 * (p / 1024) + (if true = true then 1 else 0)) % 2 = 1) = true
      rw [if_pos rfl]; exact decide_eq_true (by omega)
def onq (P : hbGP) (s k st x : Nat) : Option Nat := match mvS P s k (dcd st x) with
  | some (c', false) => some (cde c')
  | _ => none
theorem onq_of {P : hbGP} {s k st : Nat} {c c' : Nat × Bool} (hst : c.1 % 1024 = st) (h : mvS P s k c = some (c', false)) : onq P s k st (cde c) = some (cde c') := by
  unfold onq; rw [dcd_cde hst, h]
theorem cde_lt {c : Nat × Bool} (h : c.1 < 17408) : cde c < 34 := by unfold cde; split <;> omega
theorem onq_lt {P : hbGP} (hP : gOk P) {s k st : Nat} (hst : st < 1024) (x q : Nat) (hx : x < 34) (h : onq P s k st x = some q) : q < 34 := by
  unfold onq at h
  split at h
  · rename_i c' hm
    cases h
    exact cde_lt (mvS_lt hP (by show 1024 * (x / 2) + st < 17408; omega) hm)
  · cases h
theorem q_end {P : hbGP} {s k st : Nat} : ∀ (n : Nat) (c : Nat × Bool), c.1 % 1024 = st → (nt P s k n c).2 = false → fw (onq P s k st) n (cde c) = none → quiet P s k c := by
  intro n
  induction n with
  | zero => intro c _ _ h; simp only [fw] at h; cases h
  | succ n ih =>
    intro c hst h1 h2
    cases hm : mvS P s k c with
    | none => exact quiet_n hm
    | some cb =>
      obtain ⟨c', b⟩ := cb
      cases b with
      | true => rw [nt_t hm] at h1; cases h1
      | false =>
        rw [nt_f hm] at h1
        simp only [fw, onq_of hst hm] at h2
        rw [quiet_s hm]
        exact ih c' (by rw [mvS_st hm]; exact hst) h1 h2
theorem q_hang {P : hbGP} {s k st : Nat} : ∀ (f : Nat) (c : Nat × Bool), c.1 % 1024 = st → hang (onq P s k st) (cde c) → (nt P s k f c).2 = false := by
  intro f
  induction f with
  | zero => intro c _ _; rfl
  | succ f ih =>
    intro c hst hh
    cases hm : mvS P s k c with
    | none => rw [nt_n hm]
    | some cb =>
      obtain ⟨c', b⟩ := cb
      cases b with
      | true =>
        exact absurd hh (hang_none (by unfold onq; rw [dcd_cde hst, hm]))
      | false =>
        rw [nt_f hm]
        exact ih c' (by rw [mvS_st hm]; exact hst) ((hang_some (onq_of hst hm)).mp hh)
/-- without a tick in 35 moves none ever comes -/
theorem qt_35 {P : hbGP} (hP : gOk P) {s k : Nat} {c : Nat × Bool} (hc : c.1 < 17408) (h : (nt P s k 35 c).2 = false) : quiet P s k c := by
  by_cases hf : fw (onq P s k (c.1 % 1024)) 35 (cde c) = none
  · exact q_end 35 c rfl h hf
  · have := hang_pigeon (N := 34) (onq_lt hP (s := s) (k := k) (show c.1 % 1024 < 1024 by omega)) 35 (fun _ => false) (cde c) (cde_lt hc) (fun v z => by cases z) (by omega) hf
    exact fun f => q_hang f c rfl this
theorem nt_mono {P : hbGP} {s k : Nat} : ∀ (f g : Nat) (c : Nat × Bool), (nt P s k f c).2 = true → f ≤ g → nt P s k g c = nt P s k f c := by
  intro f
  induction f with
  | zero => intro g c h; cases h
  | succ f ih =>
    intro g c h hg
    obtain ⟨g, rfl⟩ : ∃ g', g = g' + 1 := ⟨g - 1, by omega⟩
    cases hm : mvS P s k c with
    | none => rw [nt_n hm] at h; cases h
    | some cb =>
      obtain ⟨c', b⟩ := cb
      cases b with
      | true => rw [nt_t hm, nt_t hm]
      | false => rw [nt_f hm] at h ⊢; rw [nt_f hm]; exact ih g c' h (by omega)
theorem nt_st {P : hbGP} {s k : Nat} : ∀ (f : Nat) (c : Nat × Bool), (nt P s k f c).2 = false → (nt P s k f c).1.1 % 1024 = c.1 % 1024 ∧ (quiet P s k c → quiet P s k (nt P s k f c).1) := by
  intro f
  induction f with
  | zero => intro c _; exact ⟨rfl, fun h => h⟩
  | succ f ih =>
    intro c h
    cases hm : mvS P s k c with
    | none => rw [nt_n hm]; exact ⟨rfl, fun h => h⟩
    | some cb =>
      obtain ⟨c', b⟩ := cb
      cases b with
      | true => rw [nt_t hm] at h; cases h
      | false =>
        rw [nt_f hm] at h ⊢
        obtain ⟨a1, a2⟩ := ih c' h
        exact ⟨by rw [a1, mvS_st hm], fun q => a2 ((quiet_s hm).mp q)⟩
theorem nt_lt {P : hbGP} (hP : gOk P) {s k : Nat} : ∀ (f : Nat) (c : Nat × Bool), c.1 < 17408 → (nt P s k f c).1.1 < 17408 := by
  intro f
  induction f with
  | zero => intro c h; exact h
  | succ f ih =>
    intro c h
    cases hm : mvS P s k c with
    | none => rw [nt_n hm]; exact h
    | some cb =>
      obtain ⟨c', b⟩ := cb
      have := mvS_lt hP h hm
      cases b with
      | true => rw [nt_t hm]; exact this
      | false => rw [nt_f hm]; exact ih c' this
/-! the class: behind t ticks; the reference: heights -/
def cz (P : hbGP) (s k : Nat) : Nat → Nat × Bool → Nat × Bool
  | 0, c => c
  | j + 1, c => cz P s k j (nt P s k 35 c).1
def hz (P : hbGP) (s k : Nat) : Nat → Nat → Nat × Bool → Nat
  | 0, _, c => c.1 % 1024 / 16
  | j + 1, f, c => if (nt P s k f c).2 = true then hz P s k j 40 (nt P s k f c).1 else c.1 % 1024 / 16
theorem cz_q {P : hbGP} {s k : Nat} : ∀ (j : Nat) (c : Nat × Bool), quiet P s k c → (cz P s k j c).1 % 1024 = c.1 % 1024 := by
  intro j
  induction j with
  | zero => intro c _; rfl
  | succ j ih =>
    intro c h
    obtain ⟨a1, a2⟩ := nt_st 35 c (h 35)
    show (cz P s k j (nt P s k 35 c).1).1 % 1024 = _
    rw [ih _ (a2 h), a1]
theorem hz_cz {P : hbGP} (hP : gOk P) {s k : Nat} : ∀ (j : Nat) (c : Nat × Bool), c.1 < 17408 → hz P s k j 40 c = (cz P s k j c).1 % 1024 / 16 := by
  intro j
  induction j with
  | zero => intro c _; rfl
  | succ j ih =>
    intro c hc
    simp only [hz, cz]
    cases h35 : (nt P s k 35 c).2 with
    | true =>
      rw [nt_mono 35 40 c h35 (by omega), h35, if_pos rfl]
      exact ih _ (nt_lt hP 35 c hc)
    | false =>
      have hq := qt_35 hP hc h35
      rw [hq 40, if_neg (by decide)]
      have := cz_q (j + 1) c hq
      rw [show cz P s k (j + 1) c = cz P s k j (nt P s k 35 c).1 from rfl] at this
      rw [this]
theorem mvS_fa (P : hbGP) (s k s' k' p : Nat) : mvS P s k (p, false) = mvS P s' k' (p, false) := by
  unfold mvS
  simp only [Bool.false_and, Bool.false_eq_true, if_false]
theorem mvS_ff {P : hbGP} {s k p : Nat} {c' : Nat × Bool} {b : Bool} (h : mvS P s k (p, false) = some (c', b)) : c'.2 = false := by
  unfold mvS at h
  simp only [Bool.false_and, Bool.false_eq_true, if_false] at h
  split at h
  · cases h
  · simp only [Option.some.injEq, Prod.mk.injEq] at h
    rw [← h.1]
theorem nt_fa (P : hbGP) (s k s' k' : Nat) : ∀ (f p : Nat), nt P s k f (p, false) = nt P s' k' f (p, false) ∧ (nt P s k f (p, false)).1.2 = false := by
  intro f
  induction f with
  | zero => intro p; exact ⟨rfl, rfl⟩
  | succ f ih =>
    intro p
    cases hm : mvS P s k (p, false) with
    | none => rw [nt_n hm, nt_n (by rw [mvS_fa P s' k' s k]; exact hm)]; exact ⟨rfl, rfl⟩
    | some cb =>
      obtain ⟨c', b⟩ := cb
      have hm' : mvS P s' k' (p, false) = some (c', b) := by rw [mvS_fa P s' k' s k]; exact hm
      have h2 := mvS_ff hm
      cases b with
      | true => rw [nt_t hm, nt_t hm']; exact ⟨rfl, h2⟩
      | false =>
        rw [nt_f hm, nt_f hm']
        obtain ⟨q, a⟩ := c'
        have h2 : a = false := h2
        subst h2
        exact ih q
theorem cz_fa (P : hbGP) (s k s' k' : Nat) : ∀ (j p : Nat), cz P s k j (p, false) = cz P s' k' j (p, false) := by
  intro j
  induction j with
  | zero => intro p; rfl
  | succ j ih =>
    intro p
    simp only [cz]
    obtain ⟨h1, h2⟩ := nt_fa P s k s' k' 35 p
    rw [← h1]
    generalize nt P s k 35 (p, false) = C at h2
    obtain ⟨⟨q, a⟩, b⟩ := C
    have h2 : a = false := h2
    subst h2
    exact ih q
theorem cz_s (P : hbGP) (s k : Nat) : ∀ (j : Nat) (c : Nat × Bool), cz P s k (j + 1) c = (nt P s k 35 (cz P s k j c)).1 := by
  intro j
  induction j with
  | zero => intro c; rfl
  | succ j ih => intro c; exact ih (nt P s k 35 c).1
theorem cz_lt {P : hbGP} (hP : gOk P) {s k : Nat} : ∀ (j : Nat) (c : Nat × Bool), c.1 < 17408 → (cz P s k j c).1 < 17408 := by
  intro j
  induction j with
  | zero => intro c h; exact h
  | succ j ih => intro c h; exact ih _ (nt_lt hP 35 c h)
/-- the first tick at which heights differ -/
def fdf (A B : Nat → Nat) : Nat → Nat → Option Nat
  | 0, _ => none
  | f + 1, t => if A t = B t then fdf A B f (t + 1) else some t
