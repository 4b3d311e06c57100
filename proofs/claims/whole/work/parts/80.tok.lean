/-! tokens -/
def isL (b : Nat) : Bool := decide (97 ≤ b ∧ b ≤ 122)
def isF (b : Nat) : Bool := decide (48 ≤ b ∧ b ≤ 57)
def isB (b : Nat) : Bool := decide (b = 32 ∨ b = 10)
def wh (q : Nat → Bool) : Nat → Nat → Nat
  | 0, i => i
  | f + 1, i => if q i = true then wh q f (i + 1) else i
theorem wh_un {q : Nat → Bool} {e : Nat} (he : q e = false) : ∀ (f i : Nat), i ≤ e → e ≤ i + f → (∀ x, i ≤ x → x < e → q x = true) → wh q f i = e := by
  intro f
  induction f with
  | zero => intro i h1 h2 _; show i = e; omega
  | succ f ih =>
    intro i h1 h2 h3
    simp only [wh]
    by_cases z : i = e
    · rw [z, he, if_neg (by decide)]
    · rw [h3 i (Nat.le_refl _) (by omega), if_pos rfl]
      exact ih (i + 1) (by omega) (by omega) (fun x hx => h3 x (by omega))
theorem wh_sp {q : Nat → Bool} {n : Nat} (hq : ∀ x, q x = true → x < n) : ∀ (f i : Nat), n ≤ i + f → i ≤ n → q (wh q f i) = false ∧ i ≤ wh q f i ∧ wh q f i ≤ n ∧ ∀ x, i ≤ x → x < wh q f i → q x = true := by
  intro f
  induction f with
  | zero =>
    intro i h1 h2
    refine ⟨?_, Nat.le_refl _, h2, fun x a b => ?_⟩
    · show q i = false
      cases z : q i with
      | false => rfl
      | true => have := hq i z; omega
    · have b : x < i := b
      omega
  | succ f ih =>
    intro i h1 h2
    simp only [wh]
    cases z : q i with
    | false => rw [if_neg (by decide)]; exact ⟨z, Nat.le_refl _, h2, fun x a b => by omega⟩
    | true =>
      have := hq i z
      rw [if_pos rfl]
      obtain ⟨a, b, c, d⟩ := ih (i + 1) (by omega) (by omega)
      refine ⟨a, by omega, c, fun x hx hx2 => ?_⟩
      by_cases y : x = i
      · rw [y]; exact z
      · exact d x (by omega) hx2
/-- words -/
def WS : List (List Nat) := [[102, 108, 111, 119], [98, 97, 100], [103, 111, 111, 100], [115, 116, 101, 112], [97, 110, 100], [117, 112], [100, 111, 119, 110], [111, 112, 101, 110], [115, 104, 117, 116], [97, 98, 111, 118, 101], [98, 101, 108, 111, 119], [119, 97, 105, 116], [105, 102], [103, 111], [101, 110, 100]]
def fl : List (List Nat) → List Nat
  | [] => []
  | w :: ws => w ++ 32 :: fl ws
section
variable (bt : Nat → Nat) (n : Nat)
def skp (i : Nat) : Nat := wh (fun x => decide (x < n) && isB (bt x)) 401 i
def enT (j : Nat) : Nat := if isL (bt j) = true then wh (fun x => decide (x < n) && isL (bt x)) 401 (j + 1) else if isF (bt j) = true then wh (fun x => decide (x < n) && isF (bt x)) 401 (j + 1) else j + 1
def mt (e : Nat) : Nat → List Nat → Bool
  | i, [] => decide (i = e)
  | i, c :: t => (decide (i < e) && decide (bt i = c)) && mt e (i + 1) t
def wl (j e : Nat) : List Nat → Nat → Nat → Bool → Nat
  | [], _, _, _ => 22
  | c :: t, w, i, s => if c = 32 then (if (s && decide (i = e)) = true then w else wl j e t (w + 1) j true) else wl j e t w (i + 1) (s && (decide (i < e) && decide (bt i = c)))
def ffW (j e : Nat) : List (List Nat) → Nat → Nat
  | [], _ => 22
  | w :: ws, k => if mt bt e j w = true then k else ffW j e ws (k + 1)
def vaT (j e : Nat) : Nat := if e = j + 1 then bt j - 48 else 10 * (bt j - 48) + (bt (j + 1) - 48)
def cOT (j e : Nat) : Nat := if isL (bt j) = true then ffW bt j e WS 0 else if isF (bt j) = true then (if 2 < e - j then 22 else 100 + vaT bt j e) else if bt j = 59 then 20 else 22
def tkS : Nat → Nat
  | 0 => skp bt n 0
  | k + 1 => if tkS k < n then skp bt n (enT bt n (tkS k)) else n
def tkD (k : Nat) : Nat := if tkS bt n k < n then cOT bt (tkS bt n k) (enT bt n (tkS bt n k)) else 21
def pkN (i : Nat) : Nat → Nat
  | 0 => 0
  | l + 1 => 256 * pkN i l + bt (i + l)
end
def pkW (w : List Nat) : Nat := w.foldl (fun a c => 256 * a + c) 0
section
variable {bt : Nat → Nat} {n : Nat}
theorem skp_sp (hn : n ≤ 400) {i : Nat} (hi : i ≤ n) : i ≤ skp bt n i ∧ skp bt n i ≤ n ∧ (skp bt n i < n → isB (bt (skp bt n i)) = false) := by
  obtain ⟨a, b, c, d⟩ := wh_sp (q := fun x => decide (x < n) && isB (bt x)) (n := n) (fun x h => by simp only [Bool.and_eq_true, decide_eq_true_eq] at h; exact h.1) 401 i (by omega) hi
  refine ⟨b, c, fun h => ?_⟩
  have a' : (decide (skp bt n i < n) && isB (bt (skp bt n i))) = false := a
  rw [decide_eq_true h, Bool.true_and] at a'
  exact a'
theorem skp_b (hn : n ≤ 400) {i : Nat} (hi : i < n) (hb : isB (bt i) = true) : skp bt n i = skp bt n (i + 1) := by
  obtain ⟨a, b, c, d⟩ := wh_sp (q := fun x => decide (x < n) && isB (bt x)) (n := n) (fun x h => by simp only [Bool.and_eq_true, decide_eq_true_eq] at h; exact h.1) 401 (i + 1) (by omega) (by omega)
  unfold skp
  refine wh_un a 401 i (by omega) (by omega) (fun x h1 h2 => ?_)
  by_cases z : x = i
  · rw [z]; show (decide (i < n) && isB (bt i)) = true; rw [hb, decide_eq_true hi]; rfl
  · exact d x (by omega) h2
theorem skp_n {i : Nat} (h : ¬ (i < n ∧ isB (bt i) = true)) : skp bt n i = i := by
  refine wh_un ?_ 401 i (Nat.le_refl _) (by omega) (fun x h1 h2 => by omega)
  show (decide (i < n) && isB (bt i)) = false
  cases z : isB (bt i) with
  | false => rw [Bool.and_false]
  | true => rw [decide_eq_false (fun y => h ⟨y, z⟩)]; rfl
theorem enT_sp (hn : n ≤ 400) {j : Nat} (hj : j < n) : j < enT bt n j ∧ enT bt n j ≤ n := by
  unfold enT
  split
  · obtain ⟨a, b, c, d⟩ := wh_sp (q := fun x => decide (x < n) && isL (bt x)) (n := n) (fun x h => by simp only [Bool.and_eq_true, decide_eq_true_eq] at h; exact h.1) 401 (j + 1) (by omega) (by omega)
    omega
  · split
    · obtain ⟨a, b, c, d⟩ := wh_sp (q := fun x => decide (x < n) && isF (bt x)) (n := n) (fun x h => by simp only [Bool.and_eq_true, decide_eq_true_eq] at h; exact h.1) 401 (j + 1) (by omega) (by omega)
      omega
    · omega
theorem enT_L (hn : n ≤ 400) {j : Nat} (hj : j < n) (h : isL (bt j) = true) : ∀ x, j ≤ x → x < enT bt n j → isL (bt x) = true := by
  intro x h1 h2
  unfold enT at h2
  rw [if_pos h] at h2
  obtain ⟨a, b, c, d⟩ := wh_sp (q := fun x => decide (x < n) && isL (bt x)) (n := n) (fun x h => by simp only [Bool.and_eq_true, decide_eq_true_eq] at h; exact h.1) 401 (j + 1) (by omega) (by omega)
  by_cases z : x = j
  · rw [z]; exact h
  · have := d x (by omega) h2
    simp only [Bool.and_eq_true] at this
    exact this.2
theorem tkS_le (hn : n ≤ 400) : ∀ k, tkS bt n k ≤ n := by
  intro k
  cases k with
  | zero => exact (skp_sp hn (Nat.zero_le _)).2.1
  | succ k =>
    show (if tkS bt n k < n then skp bt n (enT bt n (tkS bt n k)) else n) ≤ n
    split
    · rename_i h; exact (skp_sp hn (enT_sp hn h).2).2.1
    · exact Nat.le_refl _
theorem mt_iff {e : Nat} : ∀ (w : List Nat) (i : Nat), mt bt e i w = true ↔ e = i + w.length ∧ ∀ x, x < w.length → bt (i + x) = w.getD x 0 := by
  intro w
  induction w with
  | nil =>
    intro i
    simp only [mt, decide_eq_true_eq, List.length_nil]
    constructor
    · intro h; exact ⟨by omega, fun x hx => by omega⟩
    · intro h; omega
  | cons c t ih =>
    intro i
    simp only [mt, Bool.and_eq_true, decide_eq_true_eq, List.length_cons]
    rw [ih (i + 1)]
    constructor
    · rintro ⟨⟨h1, h2⟩, h3, h4⟩
      refine ⟨by omega, fun x hx => ?_⟩
      cases x with
      | zero => exact h2
      | succ x => rw [show i + (x + 1) = i + 1 + x by omega]; exact h4 x (by omega)
    · rintro ⟨h1, h2⟩
      refine ⟨⟨by omega, h2 0 (by omega)⟩, by omega, fun x hx => ?_⟩
      rw [show i + 1 + x = i + (x + 1) by omega]
      exact h2 (x + 1) (by omega)
theorem wl_w {j e k : Nat} {t : List Nat} : ∀ (w : List Nat) (i : Nat) (s : Bool), (∀ c, c ∈ w → c ≠ 32) → wl bt j e (w ++ 32 :: t) k i s = if (s && mt bt e i w) = true then k else wl bt j e t (k + 1) j true := by
  intro w
  induction w with
  | nil => intro i s _; show (if (32 : Nat) = 32 then _ else _) = _; rw [if_pos rfl]; rfl
  | cons c w ih =>
    intro i s h
    show (if c = 32 then _ else wl bt j e (w ++ 32 :: t) k (i + 1) (s && (decide (i < e) && decide (bt i = c)))) = _
    rw [if_neg (h c (List.mem_cons_self)), ih (i + 1) _ (fun c' hc => h c' (List.mem_cons_of_mem _ hc))]
    simp only [mt, Bool.and_assoc]
theorem wl_f {j e : Nat} : ∀ (ws : List (List Nat)) (k : Nat), (∀ w, w ∈ ws → ∀ c, c ∈ w → c ≠ 32) → wl bt j e (fl ws) k j true = ffW bt j e ws k := by
  intro ws
  induction ws with
  | nil => intro k _; rfl
  | cons w ws ih =>
    intro k h
    show wl bt j e (w ++ 32 :: fl ws) k j true = (if mt bt e j w = true then k else ffW bt j e ws (k + 1))
    rw [wl_w w j true (h w List.mem_cons_self), Bool.true_and, ih (k + 1) (fun w' hw => h w' (List.mem_cons_of_mem _ hw))]
theorem ffW_rg {j e : Nat} : ∀ (ws : List (List Nat)) (k : Nat), ffW bt j e ws k = 22 ∨ (k ≤ ffW bt j e ws k ∧ ffW bt j e ws k < k + ws.length) := by
  intro ws
  induction ws with
  | nil => intro k; exact Or.inl rfl
  | cons w ws ih =>
    intro k
    simp only [ffW, List.length_cons]
    split
    · exact Or.inr (by omega)
    · rcases ih (k + 1) with h | h
      · exact Or.inl h
      · exact Or.inr (by omega)
theorem gD_l : ∀ (w t : List Nat) (x : Nat), x < w.length → (w ++ t).getD x 0 = w.getD x 0 := by
  intro w
  induction w with
  | nil => intro t x h; exact absurd h (by simp)
  | cons c w ih =>
    intro t x h
    cases x with
    | zero => rfl
    | succ x => exact ih t x (by simpa using h)
theorem gD_m (c : Nat) : ∀ (w : List Nat), (w ++ [c]).getD w.length 0 = c := by
  intro w
  induction w with
  | nil => rfl
  | cons d w ih => exact ih
theorem gD_e : ∀ (a b : List Nat), a.length = b.length → (∀ x, x < a.length → a.getD x 0 = b.getD x 0) → a = b := by
  intro a
  induction a with
  | nil => intro b h _; cases b with
    | nil => rfl
    | cons d b => simp at h
  | cons c a ih =>
    intro b h hx
    cases b with
    | nil => simp at h
    | cons d b =>
      have h0 : c = d := hx 0 (by simp)
      have h1 := ih b (by simpa using h) (fun x hx2 => hx (x + 1) (by simpa using hx2))
      rw [h0, h1]
/-- the first that fits is the only one -/
theorem ffW_iff {j e : Nat} : ∀ (ws : List (List Nat)) (k x : Nat), k + ws.length ≤ 22 → (∀ a b, a < ws.length → b < ws.length → ws.getD a [] = ws.getD b [] → a = b) → x < ws.length → (ffW bt j e ws k = k + x ↔ mt bt e j (ws.getD x []) = true) := by
  intro ws
  induction ws with
  | nil => intro k x _ _ hx; exact absurd hx (by simp)
  | cons w ws ih =>
    intro k x hk hd hx
    simp only [ffW]
    simp only [List.length_cons] at hk hx hd
    cases x with
    | zero =>
      show _ ↔ mt bt e j w = true
      constructor
      · intro h
        split at h
        · rename_i hm; exact hm
        · rcases ffW_rg (bt := bt) (j := j) (e := e) ws (k + 1) with z | z <;> omega
      · intro h; rw [if_pos h]; rfl
    | succ x =>
      show _ ↔ mt bt e j (ws.getD x []) = true
      have hd' : ∀ a b, a < ws.length → b < ws.length → ws.getD a [] = ws.getD b [] → a = b := fun a b ha hb he => by
        have := hd (a + 1) (b + 1) (by omega) (by omega) he
        omega
      have ih1 := ih (k + 1) x (by omega) hd' (by omega)
      rw [← ih1]
      by_cases hm : mt bt e j w = true
      · rw [if_pos hm]
        constructor
        · intro h; omega
        · intro h
          have h2 := ih1.mp h
          obtain ⟨a1, a2⟩ := (mt_iff w j).mp hm
          obtain ⟨b1, b2⟩ := (mt_iff (ws.getD x []) j).mp h2
          have : w = ws.getD x [] := gD_e _ _ (by omega) (fun i hi => by rw [← a2 i hi, ← b2 i (by omega)])
          have := hd 0 (x + 1) (by omega) (by omega) this
          omega
      · rw [if_neg hm]
        constructor <;> intro h <;> omega
theorem pk_inj {j : Nat} : ∀ (l : Nat) (w : List Nat), (∀ x, x < l → 1 ≤ bt (j + x) ∧ bt (j + x) < 256) → (∀ c, c ∈ w → 1 ≤ c ∧ c < 256) → pkN bt j l = pkW w → l = w.length ∧ ∀ x, x < l → bt (j + x) = w.getD x 0 := by
  intro l
  induction l with
  | zero =>
    intro w _ hw h
    rcases List.eq_nil_or_concat w with rfl | ⟨w', c, rfl⟩
    · exact ⟨rfl, fun x hx => by omega⟩
    · rw [List.concat_eq_append] at h hw
      have h : 0 = pkW (w' ++ [c]) := h
      have hc := hw c (by simp)
      unfold pkW at h
      rw [List.foldl_append] at h
      simp only [List.foldl_cons, List.foldl_nil] at h
      omega
  | succ l ih =>
    intro w hb hw h
    have hbl := hb l (by omega)
    rcases List.eq_nil_or_concat w with rfl | ⟨w', c, rfl⟩
    · have h : 256 * pkN bt j l + bt (j + l) = 0 := h
      omega
    · rw [List.concat_eq_append] at h hw ⊢
      have hc := hw c (by simp)
      unfold pkW at h
      rw [List.foldl_append] at h
      simp only [List.foldl_cons, List.foldl_nil] at h
      have h : 256 * pkN bt j l + bt (j + l) = 256 * pkW w' + c := h
      obtain ⟨a1, a2⟩ := ih w' (fun x hx => hb x (by omega)) (fun c' hc' => hw c' (by simp [hc'])) (by omega)
      refine ⟨by simp; omega, fun x hx => ?_⟩
      by_cases z : x = l
      · rw [z]
        have e3 : (w' ++ [c]).getD l 0 = c := by rw [a1]; exact gD_m c w'
        rw [e3]; omega
      · rw [a2 x (by omega), gD_l w' [c] x (by omega)]
theorem pk_of {j : Nat} : ∀ (l : Nat) (w : List Nat), l = w.length → (∀ x, x < l → bt (j + x) = w.getD x 0) → pkN bt j l = pkW w := by
  intro l
  induction l with
  | zero =>
    intro w h _
    have : w = [] := List.length_eq_zero_iff.mp h.symm
    rw [this]; rfl
  | succ l ih =>
    intro w h hb
    rcases List.eq_nil_or_concat w with rfl | ⟨w', c, rfl⟩
    · simp at h
    · rw [List.concat_eq_append] at h hb ⊢
      simp at h
      have e1 := ih w' h (fun x hx => by
        have := hb x (by omega)
        rw [gD_l w' [c] x (by omega)] at this
        exact this)
      have e2 : bt (j + l) = c := by rw [hb l (by omega)]; rw [h]; exact gD_m c w'
      unfold pkW
      rw [List.foldl_append]
      simp only [List.foldl_cons, List.foldl_nil]
      show 256 * pkN bt j l + bt (j + l) = 256 * pkW w' + c
      rw [e1, e2]
end
theorem WS_d0 : ∀ a, a < WS.length → ∀ b, b < WS.length → WS.getD a [] = WS.getD b [] → a = b := by decide +kernel
theorem WS_d : ∀ a b, a < WS.length → b < WS.length → WS.getD a [] = WS.getD b [] → a = b := fun a b ha hb => WS_d0 a ha b hb
theorem WS_c : ∀ w, w ∈ WS → ∀ c, c ∈ w → 97 ≤ c ∧ c ≤ 122 := by decide +kernel
theorem WS_l : ∀ x, x < 15 → 1 ≤ (WS.getD x []).length ∧ (WS.getD x []).length < 8 ∧ WS.getD x [] ∈ WS := by decide +kernel
/-- a name's code, by its packed bytes -/
theorem code_pk {bt : Nat → Nat} {n : Nat} (hn : n ≤ 400) (hbt : ∀ x, bt x < 256) {j : Nat} (hj : j < n) (hL : isL (bt j) = true) {x : Nat} (hx : x < 15) : ffW bt j (enT bt n j) WS 0 = x ↔ (enT bt n j - j < 8 ∧ pkN bt j (enT bt n j - j) = pkW (WS.getD x [])) := by
  obtain ⟨e1, e2⟩ := enT_sp (bt := bt) hn hj
  obtain ⟨l1, l2, l3⟩ := WS_l x hx
  have h0 := ffW_iff (bt := bt) (j := j) (e := enT bt n j) WS 0 x (by decide) WS_d hx
  rw [Nat.zero_add] at h0
  rw [h0, mt_iff]
  constructor
  · rintro ⟨h1, h2⟩
    exact ⟨by omega, pk_of _ _ (by omega) (fun y hy => h2 y (by omega))⟩
  · rintro ⟨h1, h2⟩
    obtain ⟨a1, a2⟩ := pk_inj (bt := bt) (j := j) (enT bt n j - j) (WS.getD x []) (fun y hy => by
      have h3 := enT_L hn hj hL (j + y) (by omega) (by omega)
      have h4 := of_decide_eq_true h3
      exact ⟨by omega, hbt _⟩) (fun c hc => by have := WS_c _ l3 c hc; omega) h2
    exact ⟨by omega, fun y hy => a2 y (by omega)⟩
