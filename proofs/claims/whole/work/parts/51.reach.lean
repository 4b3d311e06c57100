/-! COUNTS AND WHAT IS REACHED -/
def cnt (f : Nat → Bool) : Nat → Nat
  | 0 => 0
  | n + 1 => cnt f n + (if f n = true then 1 else 0)
theorem cnt_le (f : Nat → Bool) : ∀ n, cnt f n ≤ n := by
  intro n
  induction n with
  | zero => exact Nat.le_refl _
  | succ n ih => simp only [cnt]; split <;> omega
theorem cnt_eq {f g : Nat → Bool} : ∀ n, (∀ i, i < n → f i = g i) → cnt f n = cnt g n := by
  intro n
  induction n with
  | zero => intro _; rfl
  | succ n ih => intro h; simp only [cnt]; rw [ih (fun i hi => h i (by omega)), h n (by omega)]
theorem cnt_mono {f g : Nat → Bool} : ∀ n, (∀ i, i < n → f i = true → g i = true) → cnt f n ≤ cnt g n := by
  intro n
  induction n with
  | zero => intro _; exact Nat.le_refl _
  | succ n ih =>
    intro h
    have h1 := ih (fun i hi => h i (by omega))
    have h2 := h n (by omega)
    simp only [cnt]
    by_cases hf : f n = true
    · rw [if_pos hf, if_pos (h2 hf)]; omega
    · rw [if_neg hf]; omega
theorem cnt_set {f : Nat → Bool} {p : Nat} (hp : f p = false) : ∀ n, p < n → cnt (fun x => f x || decide (x = p)) n = cnt f n + 1 := by
  intro n
  induction n with
  | zero => intro h; omega
  | succ n ih =>
    intro h
    simp only [cnt]
    by_cases q : n = p
    · subst q
      have e : cnt (fun x => f x || decide (x = n)) n = cnt f n := cnt_eq n (fun i hi => by
        show (f i || decide (i = n)) = f i
        rw [decide_eq_false (by omega), Bool.or_false])
      rw [e]
      simp [hp]
    · rw [ih (by omega)]
      by_cases hf : f n = true
      · simp [hf]
      · simp [hf, q]
/-- what is reached from S by E -/
def Rch (E : Nat → Nat → Prop) (S : Nat → Prop) (x : Nat) : Prop := ∀ C : Nat → Prop, (∀ a, S a → C a) → (∀ a b, C a → E a b → C b) → C x
theorem Rch.base {E : Nat → Nat → Prop} {S : Nat → Prop} {x : Nat} (h : S x) : Rch E S x := fun _ h1 _ => h1 x h
theorem Rch.step {E : Nat → Nat → Prop} {S : Nat → Prop} {x y : Nat} (h : Rch E S x) (e : E x y) : Rch E S y := fun C h1 h2 => h2 x y (h C h1 h2) e
/-- a closed set that holds the start and nothing beyond is what is reached -/
theorem Rch.of {E : Nat → Nat → Prop} {S : Nat → Prop} {V : Nat → Bool} (h1 : ∀ a, S a → V a = true) (h2 : ∀ a b, V a = true → E a b → V b = true) (h3 : ∀ a, V a = true → Rch E S a) (x : Nat) : V x = true ↔ Rch E S x :=
  ⟨h3 x, fun h => h (fun a => V a = true) h1 h2⟩
theorem Rch.mono {E : Nat → Nat → Prop} {S T : Nat → Prop} (h : ∀ a, S a → Rch E T a) {x : Nat} (hx : Rch E S x) : Rch E T x := hx (Rch E T) h (fun _ _ ha e => ha.step e)
