/-! ask -/
def gGo (A T : Nat → Nat) (x : Nat) : Nat → Nat
  | 0 => 0
  | n + 1 => gGo A T x n + (if (A n = 3 ∨ A n = 4) ∧ T n = x then 1 else 0)
theorem s37_loop {σ : hbM} {n : Nat} {A T : Nat → Nat} (h : kC σ n A T) {x : Nat} (hx : x < 16) : ∀ (j i : Nat), i + j = n →
    hb_run hbSH 37 (4, [.ref 31, .int (nI x), .int (nI (gGo A T x i)), .int (nI i)], [], σ) = some (some (.int (nI (gGo A T x n))), σ) := by
  obtain ⟨h1, h2, h3⟩ := h
  intro j
  induction j with
  | zero =>
    intro i hi
    obtain rfl : i = n := by omega
    rw [e37_4, h1, if_pos (by rw [q_le (by omega) (by omega)]; omega)]
  | succ j ih =>
    intro i hi
    have ih1 := ih (i + 1) (by omega)
    obtain ⟨a1, a2, a3, a4⟩ := h3 i (by omega)
    have hin : hb_in (nI i) 16 = true := q_inT (by omega) (by omega)
    rw [e37_4, h1, if_neg (by rw [q_le (by omega) (by omega)]; omega), hin]
    simp only [hb_g_t, hb_g_nil]
    rw [q_cl (by omega), a2, a4, q_1, q_add, q_add]
    have c1 : (nI (A i) = (3 : Int32)) = (A i = 3) := by rw [q_3, q_eq (by omega) (by omega)]
    have c2 : (nI (A i) = (4 : Int32)) = (A i = 4) := by rw [q_4, q_eq (by omega) (by omega)]
    have c3 : (nI (T i) = nI x) = (T i = x) := q_eq (by omega) (by omega)
    simp only [c1, c2, c3]
    simp only [gGo] at ih1
    by_cases g1 : A i = 3
    · rw [if_pos g1]
      by_cases g3 : T i = x
      · rw [if_neg (fun q => q g3)]; rw [if_pos ⟨Or.inl g1, g3⟩] at ih1; exact ih1
      · rw [if_pos g3]; rw [if_neg (fun q => g3 q.2)] at ih1; exact ih1
    · rw [if_neg g1]
      by_cases g2 : A i = 4
      · rw [if_neg (fun q => q g2)]
        by_cases g3 : T i = x
        · rw [if_neg (fun q => q g3)]; rw [if_pos ⟨Or.inr g2, g3⟩] at ih1; exact ih1
        · rw [if_pos g3]; rw [if_neg (fun q => g3 q.2)] at ih1; exact ih1
      · rw [if_pos g2]; rw [if_neg (fun q => q.1.elim g1 g2)] at ih1; exact ih1
theorem s37 {σ : hbM} {n : Nat} {A T : Nat → Nat} (h : kC σ n A T) {x : Nat} (hx : x < 16) : hb_ev hbSH 37 [.ref 31, .int (nI x)] σ = some (some (.int (nI (gGo A T x n))), σ) := by
  rw [v37, e37_0]; exact s37_loop h hx n 0 (by omega)
/-- a code is laid down -/
def cq (σ : hbM) (k : Nat) (v : Int32) : hbM := hb_up (hb_up σ 35 k v) 31 6 (nI (k + 1))
def mq (σ : hbM) (k : Nat) (v : Int32) : hbM := hb_up (hb_up σ 79 k v) 54 48 (nI (k + 1))
def cql (σ : hbM) (k : Nat) : List Int32 → hbM
  | [] => σ
  | v :: l => cql (cq σ k v) (k + 1) l
def mql (σ : hbM) (k : Nat) : List Int32 → hbM
  | [] => σ
  | v :: l => mql (mq σ k v) (k + 1) l
theorem cq_6 (σ : hbM) (k : Nat) (v : Int32) : cq σ k v 31 6 = nI (k + 1) := um_s _ _ _ _
theorem mq_48 (σ : hbM) (k : Nat) (v : Int32) : mq σ k v 54 48 = nI (k + 1) := um_s _ _ _ _
theorem cq_kC {σ : hbM} {n : Nat} {A T : Nat → Nat} (h : kC σ n A T) (k : Nat) (v : Int32) : kC (cq σ k v) n A T := by
  obtain ⟨h1, h2, h3⟩ := h
  unfold cq
  refine ⟨by rw [um_i _ _ _ (by omega), um_c _ _ _ (by omega)]; exact h1, h2, fun i hi => ?_⟩
  rw [um_c _ _ _ (by omega), um_c _ _ _ (by omega), um_c _ _ _ (by omega), um_c _ _ _ (by omega)]
  exact h3 i hi
theorem mq_kM {σ : hbM} {n : Nat} {A T : Nat → Nat} (h : kM σ n A T) (k : Nat) (v : Int32) : kM (mq σ k v) n A T := by
  obtain ⟨h1, h2, h3⟩ := h
  unfold mq
  refine ⟨by rw [um_i _ _ _ (by omega), um_c _ _ _ (by omega)]; exact h1, h2, fun i hi => ?_⟩
  rw [um_c _ _ _ (by omega), um_c _ _ _ (by omega), um_c _ _ _ (by omega), um_c _ _ _ (by omega)]
  exact h3 i hi
theorem s42 {σ : hbM} {k : Nat} (hk : k < 16) (h : σ 31 6 = nI k) (v : Int32) : hb_ev hbSH 42 [.ref 31, .int v] σ = some (none, cq σ k v) := by
  rw [v42, e42_0, h, if_neg (by rw [q_16, q_le (by omega) (by omega)]; omega), q_inT (by omega) hk, hb_g_t, hb_g_nil, q_cl (by omega), nI_1]; rfl
theorem s179 {σ : hbM} {k : Nat} (hk : k < 16) (h : σ 54 48 = nI k) (v : Int32) : hb_ev hbSH 179 [.ref 54, .int v] σ = some (none, mq σ k v) := by
  rw [v179, e179_0, h, if_neg (by rw [q_16, q_le (by omega) (by omega)]; omega), q_inT (by omega) hk, hb_g_t, hb_g_nil, q_cl (by omega), nI_1]; rfl
noncomputable def bT (m' : Nat) (σ : hbM) (x1 x2 x3 : Int32) : Option hbO := if (x3 < (8 : Int32)) then (hb_cv (hb_ev hbSH 42 [.ref 31, .int x1] σ) (fun σ10 => if (x1 = 10) then (hb_ci (hb_ev hbSH 37 [.ref 31, .int x2] σ10) (fun y90 σ90 => some (some (.int y90), σ90))) else (if (x1 = 11) then (hb_ci (hb_ev hbSH m' [.ref 31, .int 10, .int x2, .int (x3 + (1 : Int32))] σ10) (fun y100 σ100 => hb_ci (hb_ev hbSH 40 [.ref 31, .int x2] σ100) (fun y106 σ106 => hb_ci (hb_ev hbSH m' [.ref 31, .int y106, .int x2, .int (x3 + (1 : Int32))] σ106) (fun y112 σ112 => some (some (.int (y100 + y112)), σ112))))) else (if (x1 = 12) then (hb_ci (hb_ev hbSH m' [.ref 31, .int 11, .int x2, .int (x3 + (1 : Int32))] σ10) (fun y124 σ124 => some (some (.int ((2 : Int32) * y124)), σ124))) else (if (x1 = 13) then (hb_ci (hb_ev hbSH m' [.ref 31, .int 10, .int x2, .int (x3 + (1 : Int32))] σ10) (fun y135 σ135 => some (some (.int (y135 + (50 : Int32))), σ135))) else (if (x1 = 14) then (hb_ci (hb_ev hbSH m' [.ref 31, .int 10, .int x2, .int (x3 + (1 : Int32))] σ10) (fun y148 σ148 => hb_ci (hb_ev hbSH 40 [.ref 31, .int x2] σ148) (fun y154 σ154 => hb_ci (hb_ev hbSH m' [.ref 31, .int y154, .int x2, .int (x3 + (1 : Int32))] σ154) (fun y160 σ160 => some (some (.int (y148 - y160)), σ160))))) else (if (x1 = 15) then (hb_ci (hb_ev hbSH m' [.ref 31, .int 14, .int x2, .int (x3 + (1 : Int32))] σ10) (fun y172 σ172 => some (some (.int ((2 : Int32) * y172)), σ172))) else (if (x1 = 16) then (some (some (.int x2), σ10)) else (if (x1 = 17) then (some (some (.int x2), σ10)) else (if (x1 = 18) then (some (some (.int x2), σ10)) else (if (x1 = 19) then (some (some (.int x2), σ10)) else (if (x1 = 20) then (some (some (.int x2), σ10)) else (if (x1 = 21) then (hb_ci (hb_ev hbSH m' [.ref 31, .int 20, .int x2, .int (x3 + (1 : Int32))] σ10) (fun y183 σ183 => hb_g [hb_in x2 16] (some (some (.int (y183 + ((100 : Int32) * (σ183 33 (Int32.toNatClampNeg x2))))), σ183)))) else (if (x1 = 22) then (hb_ci (hb_ev hbSH m' [.ref 31, .int 20, .int x2, .int (x3 + (1 : Int32))] σ10) (fun y203 σ203 => hb_ci (hb_ev hbSH 39 [.ref 31, .int x2] σ203) (fun y209 σ209 => hb_ci (hb_ev hbSH m' [.ref 31, .int y209, .int x2, .int (x3 + (1 : Int32))] σ209) (fun y215 σ215 => some (some (.int (y203 + y215)), σ215))))) else (if (x1 = 23) then (hb_ci (hb_ev hbSH m' [.ref 31, .int 20, .int x2, .int (x3 + (1 : Int32))] σ10) (fun y226 σ226 => some (some (.int (y226 + (σ226 31 4))), σ226))) else (some (some (.int x2), σ10))))))))))))))))) else (some (some (.int 0), σ))
def Bg (m m' : Nat) : Prop := ∀ (σ : hbM) (x1 x2 x3 : Int32), hb_ev hbSH m [.ref 31, .int x1, .int x2, .int x3] σ = bT m' σ x1 x2 x3
theorem bg41 : Bg 41 200 := fun σ x1 x2 x3 => by rw [v41, e41_0]; unfold bT; rfl
theorem bg200 : Bg 200 201 := fun σ x1 x2 x3 => by rw [v200, e200_0]; unfold bT; rfl
theorem bg201 : Bg 201 202 := fun σ x1 x2 x3 => by rw [v201, e201_0]; unfold bT; rfl
theorem bg202 : Bg 202 203 := fun σ x1 x2 x3 => by rw [v202, e202_0]; unfold bT; rfl
theorem bg203 : Bg 203 204 := fun σ x1 x2 x3 => by rw [v203, e203_0]; unfold bT; rfl
theorem d8 {d : Nat} (hd : d < 8) : nI d < (8 : Int32) := by rw [q_8, q_lt (by omega) (by omega)]; exact hd
theorem b20 {m m' : Nat} (h : Bg m m') {σ : hbM} {k d : Nat} (hk : k < 16) (ht : σ 31 6 = nI k) (hd : d < 8) (x : Int32) : hb_ev hbSH m [.ref 31, .int 20, .int x, .int (nI d)] σ = some (some (.int x), cql σ k [20]) := by
  rw [h]; unfold bT
  rw [if_pos (d8 hd), s42 hk ht, hb_cv_s]; rfl
theorem b10 {m m' : Nat} (h : Bg m m') {σ : hbM} {n : Nat} {A T : Nat → Nat} (hC : kC σ n A T) {k d x : Nat} (hk : k < 16) (ht : σ 31 6 = nI k) (hd : d < 8) (hx : x < 16) : hb_ev hbSH m [.ref 31, .int 10, .int (nI x), .int (nI d)] σ = some (some (.int (nI (gGo A T x n))), cql σ k [10]) := by
  rw [h]; unfold bT
  rw [if_pos (d8 hd), s42 hk ht, hb_cv_s, if_pos rfl, s37 (cq_kC hC k 10) hx, hb_ci_s]; rfl
theorem b21 {m m' m'' : Nat} (h : Bg m m') (h' : Bg m' m'') {σ : hbM} {n : Nat} {A T : Nat → Nat} (hC : kC σ n A T) {k d x : Nat} (hk : k + 1 < 16) (ht : σ 31 6 = nI k) (hd : d + 1 < 8) (hx : x < n) : hb_ev hbSH m [.ref 31, .int 21, .int (nI x), .int (nI d)] σ = some (some (.int (nI x + (100 : Int32) * nI (T x))), cql σ k [21, 20]) := by
  have hn := hC.2.1
  have e := b20 h' (σ := cq σ k 21) (k := k + 1) (d := d + 1) hk (cq_6 _ _ _) hd (nI x)
  rw [h]; unfold bT
  rw [if_pos (d8 (by omega)), s42 (by omega) ht, hb_cv_s]
  show hb_ci (hb_ev hbSH m' [.ref 31, .int 20, .int (nI x), .int (nI d + (1 : Int32))] (cq σ k 21)) (fun y183 σ183 => hb_g [hb_in (nI x) 16] (some (some (.int (y183 + ((100 : Int32) * (σ183 33 (Int32.toNatClampNeg (nI x)))))), σ183))) = _
  rw [nI_1, e, hb_ci_s, q_inT (by omega) (by omega), hb_g_t, hb_g_nil, q_cl (by omega)]
  have e2 : cql (cq σ k 21) (k + 1) [20] 33 x = nI (T x) := ((cq_kC (cq_kC hC k 21) (k + 1) 20).2.2 x hx).2.2.2
  rw [e2]; rfl
theorem b23 {m m' m'' : Nat} (h : Bg m m') (h' : Bg m' m'') {σ : hbM} {n : Nat} {A T : Nat → Nat} (hC : kC σ n A T) {k d x : Nat} (hk : k + 1 < 16) (ht : σ 31 6 = nI k) (hd : d + 1 < 8) : hb_ev hbSH m [.ref 31, .int 23, .int (nI x), .int (nI d)] σ = some (some (.int (nI x + nI n)), cql σ k [23, 20]) := by
  have e := b20 h' (σ := cq σ k 23) (k := k + 1) (d := d + 1) hk (cq_6 _ _ _) hd (nI x)
  rw [h]; unfold bT
  rw [if_pos (d8 (by omega)), s42 (by omega) ht, hb_cv_s]
  show hb_ci (hb_ev hbSH m' [.ref 31, .int 20, .int (nI x), .int (nI d + (1 : Int32))] (cq σ k 23)) (fun y226 σ226 => some (some (.int (y226 + (σ226 31 4))), σ226)) = _
  rw [nI_1, e, hb_ci_s]
  have e2 : cql (cq σ k 23) (k + 1) [20] 31 4 = nI n := (cq_kC (cq_kC hC k 23) (k + 1) 20).1
  rw [e2]; rfl
theorem b13 {m m' m'' : Nat} (h : Bg m m') (h' : Bg m' m'') {σ : hbM} {n : Nat} {A T : Nat → Nat} (hC : kC σ n A T) {k d x : Nat} (hk : k + 1 < 16) (ht : σ 31 6 = nI k) (hd : d + 1 < 8) (hx : x < 16) : hb_ev hbSH m [.ref 31, .int 13, .int (nI x), .int (nI d)] σ = some (some (.int (nI (gGo A T x n) + (50 : Int32))), cql σ k [13, 10]) := by
  have e := b10 h' (cq_kC hC k 13) (k := k + 1) (d := d + 1) (x := x) hk (cq_6 _ _ _) hd hx
  rw [h]; unfold bT
  rw [if_pos (d8 (by omega)), s42 (by omega) ht, hb_cv_s]
  show hb_ci (hb_ev hbSH m' [.ref 31, .int 10, .int (nI x), .int (nI d + (1 : Int32))] (cq σ k 13)) (fun y135 σ135 => some (some (.int (y135 + (50 : Int32))), σ135)) = _
  rw [nI_1, e, hb_ci_s]; rfl
theorem s39 (σ : hbM) {k a : Nat} (hk : k < 16) (ha : a < 6) (h : σ 32 k = nI a) : hb_ev hbSH 39 [.ref 31, .int (nI k)] σ = some (some (.int (if a = 0 then 12 else if a = 1 then 11 else if a = 2 then 13 else if a = 5 then 15 else 14)), σ) := by
  rw [v39, e39_0, s35 σ hk ha h, hb_ci_s]
  rcases (show a = 0 ∨ a = 1 ∨ a = 2 ∨ a = 3 ∨ a = 4 ∨ a = 5 by omega) with rfl | rfl | rfl | rfl | rfl | rfl <;> rfl
theorem s40 (σ : hbM) {k a : Nat} (hk : k < 16) (ha : a < 6) (h : σ 32 k = nI a) : hb_ev hbSH 40 [.ref 31, .int (nI k)] σ = some (some (.int (if a = 0 then 21 else if a = 1 then 21 else if a = 2 then 22 else if a = 5 then 23 else 20)), σ) := by
  rw [v40, e40_0, s35 σ hk ha h, hb_ci_s]
  rcases (show a = 0 ∨ a = 1 ∨ a = 2 ∨ a = 3 ∨ a = 4 ∨ a = 5 by omega) with rfl | rfl | rfl | rfl | rfl | rfl <;> rfl
theorem b22 {m m' m'' m3 : Nat} (h : Bg m m') (h' : Bg m' m'') (h3 : Bg m'' m3) {σ : hbM} {n : Nat} {A T : Nat → Nat} (hC : kC σ n A T) {k d x : Nat} (hk : k + 3 < 16) (ht : σ 31 6 = nI k) (hd : d + 2 < 8) (hx : x < n) (ha : A x = 2) : hb_ev hbSH m [.ref 31, .int 22, .int (nI x), .int (nI d)] σ = some (some (.int (nI x + (nI (gGo A T x n) + (50 : Int32)))), cql σ k [22, 20, 13, 10]) := by
  have hn := hC.2.1
  have c1 := cq_kC hC k 22
  have c2 : kC (cql (cq σ k 22) (k + 1) [20]) n A T := cq_kC c1 (k + 1) 20
  have e := b20 h' (σ := cq σ k 22) (k := k + 1) (d := d + 1) (by omega) (cq_6 _ _ _) (by omega) (nI x)
  have e39 := s39 _ (k := x) (by omega) (c2.2.2 x hx).1 (c2.2.2 x hx).2.1
  rw [ha] at e39
  have e13 := b13 h' h3 c2 (k := k + 2) (d := d + 1) (x := x) (by omega) (cq_6 (cq σ k 22) (k + 1) 20) (by omega) (by omega)
  rw [h]; unfold bT
  rw [if_pos (d8 (by omega)), s42 (by omega) ht, hb_cv_s]
  show hb_ci (hb_ev hbSH m' [.ref 31, .int 20, .int (nI x), .int (nI d + (1 : Int32))] (cq σ k 22)) (fun y203 σ203 => hb_ci (hb_ev hbSH 39 [.ref 31, .int (nI x)] σ203) (fun y209 σ209 => hb_ci (hb_ev hbSH m' [.ref 31, .int y209, .int (nI x), .int (nI d + (1 : Int32))] σ209) (fun y215 σ215 => some (some (.int (y203 + y215)), σ215)))) = _
  rw [nI_1, e, hb_ci_s, e39, hb_ci_s]
  show hb_ci (hb_ev hbSH m' [.ref 31, .int 13, .int (nI x), .int (nI (d + 1))] _) _ = _
  rw [e13, hb_ci_s]; rfl
theorem b11 {m m' m'' m3 : Nat} (h : Bg m m') (h' : Bg m' m'') (h3 : Bg m'' m3) {σ : hbM} {n : Nat} {A T : Nat → Nat} (hC : kC σ n A T) {k d x : Nat} (hk : k + 3 < 16) (ht : σ 31 6 = nI k) (hd : d + 2 < 8) (hx : x < n) (ha : A x < 2) : hb_ev hbSH m [.ref 31, .int 11, .int (nI x), .int (nI d)] σ = some (some (.int (nI (gGo A T x n) + (nI x + (100 : Int32) * nI (T x)))), cql σ k [11, 10, 21, 20]) := by
  have hn := hC.2.1
  have c1 := cq_kC hC k 11
  have c2 : kC (cql (cq σ k 11) (k + 1) [10]) n A T := cq_kC c1 (k + 1) 10
  have e := b10 h' c1 (k := k + 1) (d := d + 1) (x := x) (by omega) (cq_6 _ _ _) (by omega) (by omega)
  have e40 := s40 _ (k := x) (by omega) (c2.2.2 x hx).1 (c2.2.2 x hx).2.1
  have e41 : (if A x = 0 then (21 : Int32) else if A x = 1 then 21 else if A x = 2 then 22 else if A x = 5 then 23 else 20) = 21 := by
    rcases (show A x = 0 ∨ A x = 1 by omega) with q | q <;> rw [q] <;> rfl
  rw [e41] at e40
  have e21 := b21 h' h3 c2 (k := k + 2) (d := d + 1) (x := x) (by omega) (cq_6 (cq σ k 11) (k + 1) 10) (by omega) hx
  rw [h]; unfold bT
  rw [if_pos (d8 (by omega)), s42 (by omega) ht, hb_cv_s]
  show hb_ci (hb_ev hbSH m' [.ref 31, .int 10, .int (nI x), .int (nI d + (1 : Int32))] (cq σ k 11)) (fun y100 σ100 => hb_ci (hb_ev hbSH 40 [.ref 31, .int (nI x)] σ100) (fun y106 σ106 => hb_ci (hb_ev hbSH m' [.ref 31, .int y106, .int (nI x), .int (nI d + (1 : Int32))] σ106) (fun y112 σ112 => some (some (.int (y100 + y112)), σ112)))) = _
  rw [nI_1, e, hb_ci_s, e40, hb_ci_s, e21, hb_ci_s]; rfl
theorem b12 {m m' m'' m3 m4 : Nat} (h0 : Bg m m') (h : Bg m' m'') (h' : Bg m'' m3) (h3 : Bg m3 m4) {σ : hbM} {n : Nat} {A T : Nat → Nat} (hC : kC σ n A T) {k d x : Nat} (hk : k + 4 < 16) (ht : σ 31 6 = nI k) (hd : d + 3 < 8) (hx : x < n) (ha : A x < 2) : hb_ev hbSH m [.ref 31, .int 12, .int (nI x), .int (nI d)] σ = some (some (.int ((2 : Int32) * (nI (gGo A T x n) + (nI x + (100 : Int32) * nI (T x))))), cql σ k [12, 11, 10, 21, 20]) := by
  have e := b11 h h' h3 (cq_kC hC k 12) (k := k + 1) (d := d + 1) (x := x) (by omega) (cq_6 _ _ _) (by omega) hx ha
  rw [h0]; unfold bT
  rw [if_pos (d8 (by omega)), s42 (by omega) ht, hb_cv_s]
  show hb_ci (hb_ev hbSH m' [.ref 31, .int 11, .int (nI x), .int (nI d + (1 : Int32))] (cq σ k 12)) (fun y124 σ124 => some (some (.int ((2 : Int32) * y124)), σ124)) = _
  rw [nI_1, e, hb_ci_s]; rfl
theorem b14 {m m' m'' m3 : Nat} (h : Bg m m') (h' : Bg m' m'') (h3 : Bg m'' m3) {σ : hbM} {n : Nat} {A T : Nat → Nat} (hC : kC σ n A T) {k d x : Nat} (hk : k + 3 < 16) (ht : σ 31 6 = nI k) (hd : d + 2 < 8) (hx : x < n) (ha : 3 ≤ A x) : hb_ev hbSH m [.ref 31, .int 14, .int (nI x), .int (nI d)] σ =
    (if A x = 5 then some (some (.int (nI (gGo A T x n) - (nI x + nI n))), cql σ k [14, 10, 23, 20]) else some (some (.int (nI (gGo A T x n) - nI x)), cql σ k [14, 10, 20])) := by
  have hn := hC.2.1
  have c1 := cq_kC hC k 14
  have c2 : kC (cql (cq σ k 14) (k + 1) [10]) n A T := cq_kC c1 (k + 1) 10
  have e := b10 h' c1 (k := k + 1) (d := d + 1) (x := x) (by omega) (cq_6 _ _ _) (by omega) (by omega)
  have e40 := s40 _ (k := x) (by omega) (c2.2.2 x hx).1 (c2.2.2 x hx).2.1
  have h6 := (hC.2.2 x hx).1
  have e23 := b23 h' h3 c2 (k := k + 2) (d := d + 1) (x := x) (by omega) (cq_6 (cq σ k 14) (k + 1) 10) (by omega)
  have e20 := b20 h' (σ := cql (cq σ k 14) (k + 1) [10]) (k := k + 2) (d := d + 1) (by omega) (cq_6 (cq σ k 14) (k + 1) 10) (by omega) (nI x)
  rw [h]; unfold bT
  rw [if_pos (d8 (by omega)), s42 (by omega) ht, hb_cv_s]
  show hb_ci (hb_ev hbSH m' [.ref 31, .int 10, .int (nI x), .int (nI d + (1 : Int32))] (cq σ k 14)) (fun y148 σ148 => hb_ci (hb_ev hbSH 40 [.ref 31, .int (nI x)] σ148) (fun y154 σ154 => hb_ci (hb_ev hbSH m' [.ref 31, .int y154, .int (nI x), .int (nI d + (1 : Int32))] σ154) (fun y160 σ160 => some (some (.int (y148 - y160)), σ160)))) = _
  rw [nI_1, e, hb_ci_s, e40, hb_ci_s, if_neg (show ¬ A x = 0 by omega), if_neg (show ¬ A x = 1 by omega), if_neg (show ¬ A x = 2 by omega)]
  by_cases h5 : A x = 5
  · rw [if_pos h5, if_pos h5, e23, hb_ci_s]; rfl
  · rw [if_neg h5, if_neg h5, e20, hb_ci_s]; rfl
theorem b15 {m m' m'' m3 m4 : Nat} (h0 : Bg m m') (h : Bg m' m'') (h' : Bg m'' m3) (h3 : Bg m3 m4) {σ : hbM} {n : Nat} {A T : Nat → Nat} (hC : kC σ n A T) {k d x : Nat} (hk : k + 4 < 16) (ht : σ 31 6 = nI k) (hd : d + 3 < 8) (hx : x < n) (ha : A x = 5) : hb_ev hbSH m [.ref 31, .int 15, .int (nI x), .int (nI d)] σ = some (some (.int ((2 : Int32) * (nI (gGo A T x n) - (nI x + nI n)))), cql σ k [15, 14, 10, 23, 20]) := by
  have e := b14 h h' h3 (cq_kC hC k 15) (k := k + 1) (d := d + 1) (x := x) (by omega) (cq_6 _ _ _) (by omega) hx (by omega)
  rw [if_pos ha] at e
  rw [h0]; unfold bT
  rw [if_pos (d8 (by omega)), s42 (by omega) ht, hb_cv_s]
  show hb_ci (hb_ev hbSH m' [.ref 31, .int 14, .int (nI x), .int (nI d + (1 : Int32))] (cq σ k 15)) (fun y172 σ172 => some (some (.int ((2 : Int32) * y172)), σ172)) = _
  rw [nI_1, e, hb_ci_s]; rfl
/-- what ask answers, and the codes it lays down -/
def aSize (n : Nat) (A T : Nat → Nat) (x : Nat) : Int32 × List Int32 :=
  if A x = 0 then ((2 : Int32) * (nI (gGo A T x n) + (nI x + (100 : Int32) * nI (T x))), [12, 11, 10, 21, 20])
  else if A x = 1 then (nI (gGo A T x n) + (nI x + (100 : Int32) * nI (T x)), [11, 10, 21, 20])
  else if A x = 2 then (nI (gGo A T x n) + (50 : Int32), [13, 10])
  else if A x = 5 then ((2 : Int32) * (nI (gGo A T x n) - (nI x + nI n)), [15, 14, 10, 23, 20])
  else (nI (gGo A T x n) - nI x, [14, 10, 20])
def aMark (n : Nat) (A T : Nat → Nat) (x : Nat) : Int32 × List Int32 :=
  if A x = 0 then (nI x + (100 : Int32) * nI (T x), [21, 20])
  else if A x = 1 then (nI x + (100 : Int32) * nI (T x), [21, 20])
  else if A x = 2 then (nI x + (nI (gGo A T x n) + (50 : Int32)), [22, 20, 13, 10])
  else if A x = 5 then (nI x + nI n, [23, 20])
  else (nI x, [20])
theorem s38s {σ : hbM} {n : Nat} {A T : Nat → Nat} (hC : kC σ n A T) {x : Nat} (hx : x < n) : hb_ev hbSH 38 [.ref 31, .int (nI x), .int 0] σ = some (some (.int (aSize n A T x).1), cql (hb_up σ 31 6 0) 0 (aSize n A T x).2) := by
  have hn := hC.2.1
  have c1 : kC (hb_up σ 31 6 0) n A T := by
    obtain ⟨h1, h2, h3⟩ := hC
    refine ⟨by rw [um_i _ _ _ (by omega)]; exact h1, h2, fun i hi => ?_⟩
    rw [um_c _ _ _ (by omega), um_c _ _ _ (by omega)]
    exact h3 i hi
  have h6 := (hC.2.2 x hx).1
  have t0 : hb_up σ 31 6 0 31 6 = nI 0 := um_s _ _ _ _
  rw [v38, e38_0, if_neg (by decide), s39 _ (by omega) (c1.2.2 x hx).1 (c1.2.2 x hx).2.1, hb_ci_s, e38_23]
  unfold aSize
  rcases (show A x = 0 ∨ A x = 1 ∨ A x = 2 ∨ A x = 5 ∨ (A x = 3 ∨ A x = 4) by omega) with q | q | q | q | q
  · simp only [q, if_true]
    have e := b12 bg41 bg200 bg201 bg202 c1 (k := 0) (d := 0) (x := x) (by omega) t0 (by omega) hx (by omega)
    rw [show nI 0 = (0 : Int32) from rfl] at e
    rw [e, hb_ci_s]
  · rw [if_neg (by omega), if_pos q, if_neg (by omega), if_pos q]
    have e := b11 bg41 bg200 bg201 c1 (k := 0) (d := 0) (x := x) (by omega) t0 (by omega) hx (by omega)
    rw [show nI 0 = (0 : Int32) from rfl] at e
    rw [e, hb_ci_s]
  · rw [if_neg (by omega), if_neg (by omega), if_pos q, if_neg (by omega), if_neg (by omega), if_pos q]
    have e := b13 bg41 bg200 c1 (k := 0) (d := 0) (x := x) (by omega) t0 (by omega) (by omega)
    rw [show nI 0 = (0 : Int32) from rfl] at e
    rw [e, hb_ci_s]
  · rw [if_neg (by omega), if_neg (by omega), if_neg (by omega), if_pos q, if_neg (by omega), if_neg (by omega), if_neg (by omega), if_pos q]
    have e := b15 bg41 bg200 bg201 bg202 c1 (k := 0) (d := 0) (x := x) (by omega) t0 (by omega) hx (by omega)
    rw [show nI 0 = (0 : Int32) from rfl] at e
    rw [e, hb_ci_s]
  · rw [if_neg (by omega), if_neg (by omega), if_neg (by omega), if_neg (by omega), if_neg (by omega), if_neg (by omega), if_neg (by omega), if_neg (by omega)]
    have e := b14 bg41 bg200 bg201 c1 (k := 0) (d := 0) (x := x) (by omega) t0 (by omega) hx (by omega)
    rw [show nI 0 = (0 : Int32) from rfl, if_neg (by omega)] at e
    rw [e, hb_ci_s]
theorem s38m {σ : hbM} {n : Nat} {A T : Nat → Nat} (hC : kC σ n A T) {x : Nat} (hx : x < n) : hb_ev hbSH 38 [.ref 31, .int (nI x), .int 1] σ = some (some (.int (aMark n A T x).1), cql (hb_up σ 31 6 0) 0 (aMark n A T x).2) := by
  have hn := hC.2.1
  have c1 : kC (hb_up σ 31 6 0) n A T := by
    obtain ⟨h1, h2, h3⟩ := hC
    refine ⟨by rw [um_i _ _ _ (by omega)]; exact h1, h2, fun i hi => ?_⟩
    rw [um_c _ _ _ (by omega), um_c _ _ _ (by omega)]
    exact h3 i hi
  have h6 := (hC.2.2 x hx).1
  have t0 : hb_up σ 31 6 0 31 6 = nI 0 := um_s _ _ _ _
  rw [v38, e38_0, if_pos (by decide), s40 _ (by omega) (c1.2.2 x hx).1 (c1.2.2 x hx).2.1, hb_ci_s, e38_23]
  unfold aMark
  have e21 := b21 bg41 bg200 c1 (k := 0) (d := 0) (x := x) (by omega) t0 (by omega) hx
  rw [show nI 0 = (0 : Int32) from rfl] at e21
  rcases (show A x = 0 ∨ A x = 1 ∨ A x = 2 ∨ A x = 5 ∨ (A x = 3 ∨ A x = 4) by omega) with q | q | q | q | q
  · rw [if_pos q, if_pos q, e21, hb_ci_s]
  · rw [if_neg (by omega), if_pos q, if_neg (by omega), if_pos q, e21, hb_ci_s]
  · rw [if_neg (by omega), if_neg (by omega), if_pos q, if_neg (by omega), if_neg (by omega), if_pos q]
    have e := b22 bg41 bg200 bg201 c1 (k := 0) (d := 0) (x := x) (by omega) t0 (by omega) hx q
    rw [show nI 0 = (0 : Int32) from rfl] at e
    rw [e, hb_ci_s]
  · rw [if_neg (by omega), if_neg (by omega), if_neg (by omega), if_pos q, if_neg (by omega), if_neg (by omega), if_neg (by omega), if_pos q]
    have e := b23 bg41 bg200 c1 (k := 0) (d := 0) (x := x) (by omega) t0 (by omega)
    rw [show nI 0 = (0 : Int32) from rfl] at e
    rw [e, hb_ci_s]
  · rw [if_neg (by omega), if_neg (by omega), if_neg (by omega), if_neg (by omega), if_neg (by omega), if_neg (by omega), if_neg (by omega), if_neg (by omega)]
    have e := b20 bg41 (σ := hb_up σ 31 6 0) (k := 0) (d := 0) (by omega) t0 (by omega) (nI x)
    rw [show nI 0 = (0 : Int32) from rfl] at e
    rw [e, hb_ci_s]
/-! the reference's -/
theorem s180_loop {σ : hbM} {n : Nat} {A T : Nat → Nat} (h : kM σ n A T) {x : Nat} (hx : x < 16) : ∀ (j i : Nat), i + j = n →
    hb_run hbSH 180 (10, [.ref 54, .int (nI x), .int (nI (gGo A T x i)), .int (nI i)], [], σ) = some (some (.int (nI (gGo A T x n))), σ) := by
  obtain ⟨h1, h2, h3⟩ := h
  intro j
  induction j with
  | zero =>
    intro i hi
    obtain rfl : i = n := by omega
    rw [e180_10, h1, if_pos (by rw [q_le (by omega) (by omega)]; omega)]
  | succ j ih =>
    intro i hi
    have ih1 := ih (i + 1) (by omega)
    obtain ⟨a1, a2, a3, a4⟩ := h3 i (by omega)
    have hin : hb_in (nI i) 16 = true := q_inT (by omega) (by omega)
    rw [e180_10, h1, if_neg (by rw [q_le (by omega) (by omega)]; omega), hin]
    simp only [hb_g_t, hb_g_nil]
    rw [q_cl (by omega), a2, q_1, q_0, q_add, q_add, q_add]
    have c1 : (nI (cact (A i)) = (5 : Int32)) = (A i = 3) := by
      rcases (show A i = 0 ∨ A i = 1 ∨ A i = 2 ∨ A i = 3 ∨ A i = 4 ∨ A i = 5 by omega) with q | q | q | q | q | q <;> rw [q] <;> decide
    have c2 : (nI (cact (A i)) = (6 : Int32)) = (A i = 4) := by
      rcases (show A i = 0 ∨ A i = 1 ∨ A i = 2 ∨ A i = 3 ∨ A i = 4 ∨ A i = 5 by omega) with q | q | q | q | q | q <;> rw [q] <;> decide
    simp only [c1, c2]
    simp only [gGo] at ih1
    by_cases g1 : A i = 3
    · have c3 : (σ 66 i = nI x) = (T i = x) := by rw [a4 (by omega) (by omega), q_eq (by omega) (by omega)]
      rw [if_pos g1]
      simp only [c3]
      by_cases g3 : T i = x
      · rw [if_neg (fun q => q g3)]; rw [if_pos ⟨Or.inl g1, g3⟩] at ih1; exact ih1
      · rw [if_pos g3]; rw [if_neg (fun q => g3 q.2)] at ih1; exact ih1
    · rw [if_neg g1]
      by_cases g2 : A i = 4
      · have c3 : (σ 66 i = nI x) = (T i = x) := by rw [a4 (by omega) (by omega), q_eq (by omega) (by omega)]
        rw [if_neg (fun q => q g2)]
        simp only [c3]
        by_cases g3 : T i = x
        · rw [if_neg (fun q => q g3)]; rw [if_pos ⟨Or.inr g2, g3⟩] at ih1; exact ih1
        · rw [if_pos g3]; rw [if_neg (fun q => g3 q.2)] at ih1; exact ih1
      · rw [if_pos g2]; rw [if_neg (fun q => q.1.elim g1 g2)] at ih1; exact ih1
theorem s180 {σ : hbM} {n : Nat} {A T : Nat → Nat} (h : kM σ n A T) {k x : Nat} (hk : k < 16) (ht : σ 54 48 = nI k) (hx : x < 16) : hb_ev hbSH 180 [.ref 54, .int (nI x)] σ = some (some (.int (nI (gGo A T x n))), mql σ k [10]) := by
  rw [v180, e180_0, s179 hk ht, hb_cv_s]
  exact s180_loop (mq_kM h k 10) hx n 0 (by omega)
theorem s181 {σ : hbM} {n : Nat} {A T : Nat → Nat} (h : kM σ n A T) {k x : Nat} (hk : k + 1 < 16) (ht : σ 54 48 = nI k) (hx : x < 16) : hb_ev hbSH 181 [.ref 54, .int (nI x)] σ = some (some (.int (nI (gGo A T x n) + (50 : Int32))), mql σ k [13, 10]) := by
  rw [v181, e181_0, s179 (by omega) ht, hb_cv_s, s180 (mq_kM h k 13) (k := k + 1) hk (mq_48 _ _ _) hx, hb_ci_s]; rfl
theorem i_0 (x : Int32) : x + (0 : Int32) = x := Int32.add_zero x
theorem s182 {σ : hbM} {n : Nat} {A T : Nat → Nat} (h : kM σ n A T) {k x : Nat} (hk : k + 3 < 16) (ht : σ 54 48 = nI k) (hx : x < n) : hb_ev hbSH 182 [.ref 54, .int (nI x), .int (nI (kO (A x)))] σ = some (some (.int (aMark n A T x).1), mql σ k (aMark n A T x).2) := by
  have hn := h.2.1
  obtain ⟨h6, _, hT, h66⟩ := h.2.2 x hx
  have k1 := s176 (a := A x) (j := 1)
  unfold aMark
  rw [v182, e182_0]
  rcases (show A x = 0 ∨ A x = 1 ∨ A x = 2 ∨ A x = 5 ∨ (A x = 3 ∨ A x = 4) by omega) with q | q | q | q | q
  · have h66 := h66 (by omega) (by omega)
    rw [q] at k1 ⊢
    have k2 : ∀ s : hbM, hb_ev hbSH 176 [.int (nI (kO 0)), .int 1] s = some (some (.int 1), s) := fun s => k1 s (by omega) (by omega)
    rw [if_neg (by decide), if_neg (by decide), k2, hb_ci_s, if_neg (by decide), if_pos (by decide), if_pos (by decide), e182_41, s179 (by omega) ht, hb_cv_s, e182_44, s179 (k := k + 1) (by omega) (mq_48 _ _ _), hb_cv_s, k2, hb_ci_s, if_neg (by decide), q_inT (by omega) (by omega), hb_g_t, hb_g_nil, q_cl (by omega)]
    have e : mq (mq σ k 21) (k + 1) 20 66 x = nI (T x) := h66
    rw [e]; rfl
  · have h66 := h66 (by omega) (by omega)
    rw [q] at k1 ⊢
    have k2 : ∀ s : hbM, hb_ev hbSH 176 [.int (nI (kO 1)), .int 1] s = some (some (.int 1), s) := fun s => k1 s (by omega) (by omega)
    rw [if_neg (by decide), if_neg (by decide), k2, hb_ci_s, if_neg (by decide), if_pos (by decide), if_pos (by decide), e182_41, s179 (by omega) ht, hb_cv_s, e182_44, s179 (k := k + 1) (by omega) (mq_48 _ _ _), hb_cv_s, k2, hb_ci_s, if_neg (by decide), q_inT (by omega) (by omega), hb_g_t, hb_g_nil, q_cl (by omega)]
    have e : mq (mq σ k 21) (k + 1) 20 66 x = nI (T x) := h66
    rw [e]; rfl
  · rw [q] at k1 ⊢
    have k2 : ∀ s : hbM, hb_ev hbSH 176 [.int (nI (kO 2)), .int 1] s = some (some (.int 0), s) := fun s => k1 s (by omega) (by omega)
    have e81 := s181 (mq_kM (mq_kM h k 22) (k + 1) 20) (k := k + 2) (x := x) (by omega) (mq_48 _ _ _) (by omega)
    rw [if_pos (by decide), if_neg (by decide), e182_41, s179 (by omega) ht, hb_cv_s, e182_44, s179 (k := k + 1) (by omega) (mq_48 _ _ _), hb_cv_s, k2, hb_ci_s, if_pos (by decide), if_pos (by decide), if_neg (by decide), e81, hb_ci_s]; rfl
  · rw [q] at k1 ⊢
    have k2 : ∀ s : hbM, hb_ev hbSH 176 [.int (nI (kO 5)), .int 1] s = some (some (.int 0), s) := fun s => k1 s (by omega) (by omega)
    rw [if_neg (by decide), if_pos (by decide), if_pos (by decide), if_neg (by decide), e182_41, s179 (by omega) ht, hb_cv_s, e182_44, s179 (k := k + 1) (by omega) (mq_48 _ _ _), hb_cv_s, k2, hb_ci_s, if_pos (by decide), if_neg (by decide)]
    have e : mq (mq σ k 23) (k + 1) 20 54 11 = nI n := (mq_kM (mq_kM h k 23) (k + 1) 20).1
    rw [e]; rfl
  · have k2 : ∀ s : hbM, hb_ev hbSH 176 [.int (nI (kO (A x))), .int 1] s = some (some (.int 0), s) := fun s => by
      have := k1 s (by omega) (by omega)
      rcases q with q | q <;> rw [q] at this ⊢ <;> exact this
    have k4 : kO (A x) = 4 := by rcases q with q | q <;> rw [q] <;> rfl
    rw [k4] at k2 ⊢
    rw [if_neg (by decide), if_neg (by decide), k2, hb_ci_s, if_pos (by decide), e182_44, s179 (by omega) ht, hb_cv_s, k2, hb_ci_s, if_pos (by decide), if_pos (by decide), if_pos (by decide), if_neg (by omega), if_neg (by omega), if_neg (by omega), if_neg (by omega), i_0]; rfl
theorem i_sn (a b : Int32) : a + -b = a - b := (Int32.sub_eq_add_neg a b).symm
theorem s183 {σ : hbM} {n : Nat} {A T : Nat → Nat} (h : kM σ n A T) {x : Nat} (ht : σ 54 48 = nI 0) (hx : x < n) : hb_ev hbSH 183 [.ref 54, .int (nI x), .int (nI (kO (A x)))] σ = some (some (.int (aSize n A T x).1), mql σ 0 (aSize n A T x).2) := by
  have hn := h.2.1
  have h6 := (h.2.2 x hx).1
  have k1 := s176 (a := A x) (j := 1)
  have m2 : ∀ {s : hbM} {k : Nat}, kM s n A T → k + 3 < 16 → s 54 48 = nI k → hb_ev hbSH 182 [.ref 54, .int (nI x), .int (nI (kO (A x)))] s = some (some (.int (aMark n A T x).1), mql s k (aMark n A T x).2) := fun a b c => s182 a b c hx
  unfold aSize
  rw [v183, e183_0]
  rcases (show A x = 0 ∨ A x = 1 ∨ A x = 2 ∨ A x = 5 ∨ (A x = 3 ∨ A x = 4) by omega) with q | q | q | q | q
  · have eM : aMark n A T x = (nI x + (100 : Int32) * nI (T x), [21, 20]) := by unfold aMark; rw [if_pos q]
    rw [eM] at m2
    rw [q] at k1 m2 ⊢
    have k2 : ∀ s : hbM, hb_ev hbSH 176 [.int (nI (kO 0)), .int 1] s = some (some (.int 1), s) := fun s => k1 s (by omega) (by omega)
    have e80 := s180 (mq_kM (mq_kM h 0 12) 1 11) (k := 2) (x := x) (by omega) (mq_48 _ _ _) (by omega)
    have e82 := m2 (mq_kM (mq_kM (mq_kM h 0 12) 1 11) 2 10) (k := 3) (by omega) (mq_48 _ _ _)
    rw [if_pos (by decide), if_pos (by decide), if_neg (by decide), e183_34, s179 (by omega) ht, hb_cv_s, e183_37, k2, hb_ci_s, if_neg (by decide), e183_55, s179 (k := 1) (by omega) (mq_48 _ _ _), hb_cv_s, e80, hb_ci_s, if_neg (by decide)]
    rw [show mql (mq (mq σ 0 12) 1 11) 2 [10] = mq (mq (mq σ 0 12) 1 11) 2 10 from rfl, e82, hb_ci_s, if_pos (by decide), if_pos rfl]; rfl
  · have eM : aMark n A T x = (nI x + (100 : Int32) * nI (T x), [21, 20]) := by unfold aMark; rw [if_neg (by omega), if_pos q]
    rw [eM] at m2
    rw [q] at k1 m2 ⊢
    have k2 : ∀ s : hbM, hb_ev hbSH 176 [.int (nI (kO 1)), .int 1] s = some (some (.int 1), s) := fun s => k1 s (by omega) (by omega)
    have e80 := s180 (mq_kM h 0 11) (k := 1) (x := x) (by omega) (mq_48 _ _ _) (by omega)
    have e82 := m2 (mq_kM (mq_kM h 0 11) 1 10) (k := 2) (by omega) (mq_48 _ _ _)
    rw [if_pos (by decide), if_neg (by decide), if_pos (by decide), e183_37, k2, hb_ci_s, if_neg (by decide), e183_55, s179 (by omega) ht, hb_cv_s, e80, hb_ci_s, if_neg (by decide)]
    rw [show mql (mq σ 0 11) 1 [10] = mq (mq σ 0 11) 1 10 from rfl, e82, hb_ci_s, if_neg (by decide), if_pos (by decide), if_neg (by decide), if_pos rfl]; rfl
  · rw [q]
    rw [if_neg (by decide), s181 h (by omega) ht (by omega), hb_ci_s]; rfl
  · have eM : aMark n A T x = (nI x + nI n, [23, 20]) := by unfold aMark; rw [if_neg (by omega), if_neg (by omega), if_neg (by omega), if_pos q]
    rw [eM] at m2
    rw [q] at k1 m2 ⊢
    have k2 : ∀ s : hbM, hb_ev hbSH 176 [.int (nI (kO 5)), .int 1] s = some (some (.int 0), s) := fun s => k1 s (by omega) (by omega)
    have e80 := s180 (mq_kM (mq_kM h 0 15) 1 14) (k := 2) (x := x) (by omega) (mq_48 _ _ _) (by omega)
    have e82 := m2 (mq_kM (mq_kM (mq_kM h 0 15) 1 14) 2 10) (k := 3) (by omega) (mq_48 _ _ _)
    rw [if_pos (by decide), if_neg (by decide), if_neg (by decide), if_pos (by decide), e183_34, s179 (by omega) ht, hb_cv_s, e183_37, k2, hb_ci_s, if_pos (by decide), e183_55, s179 (k := 1) (by omega) (mq_48 _ _ _), hb_cv_s, e80, hb_ci_s, if_pos (by decide)]
    rw [show mql (mq (mq σ 0 15) 1 14) 2 [10] = mq (mq (mq σ 0 15) 1 14) 2 10 from rfl, e82, hb_ci_s, if_neg (by decide), if_neg (by decide), if_neg (by decide), if_neg (by decide), if_neg (by decide), if_pos rfl, i_sn]; rfl
  · have eM : aMark n A T x = (nI x, [20]) := by unfold aMark; rw [if_neg (by omega), if_neg (by omega), if_neg (by omega), if_neg (by omega)]
    rw [eM] at m2
    have k2 : ∀ s : hbM, hb_ev hbSH 176 [.int (nI (kO (A x))), .int 1] s = some (some (.int 0), s) := fun s => by
      have := k1 s (by omega) (by omega)
      rcases q with q | q <;> rw [q] at this ⊢ <;> exact this
    have k4 : kO (A x) = 4 := by rcases q with q | q <;> rw [q] <;> rfl
    rw [k4] at k2 m2 ⊢
    have e80 := s180 (mq_kM h 0 14) (k := 1) (x := x) (by omega) (mq_48 _ _ _) (by omega)
    have e82 := m2 (mq_kM (mq_kM h 0 14) 1 10) (k := 2) (by omega) (mq_48 _ _ _)
    rw [if_pos (by decide), if_neg (by decide), if_pos (by decide), e183_37, k2, hb_ci_s, if_pos (by decide), e183_55, s179 (by omega) ht, hb_cv_s, e80, hb_ci_s, if_pos (by decide)]
    rw [show mql (mq σ 0 14) 1 [10] = mq (mq σ 0 14) 1 10 from rfl, e82, hb_ci_s, if_neg (by decide), if_pos (by decide), if_neg (by omega), if_neg (by omega), if_neg (by omega), if_neg (by omega), i_sn]; rfl
