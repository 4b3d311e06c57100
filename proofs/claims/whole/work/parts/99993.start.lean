/-! THE LAW, from its entry -/
set_option maxRecDepth 100000 in
set_option maxHeartbeats 40000000 in
theorem hb_e_congr {α α' : Nat → Nat} {cI cZ cS : ClassId} {f : Nat → Int32} {s : hbS} (h : ∀ k, some k ∈ s.2.2 → α k = α' k) : hb_e α cI cZ cS f s = hb_e α' cI cZ cS f s := by
  obtain ⟨k, n, fs⟩ := s
  have hf : hb_fs α f fs = hb_fs α' f fs := by
    apply List.ext_getElem?
    intro i
    rw [hb_fs_get, hb_fs_get]
    cases hi : fs[i]? with
    | none => rfl
    | some o =>
      cases o with
      | none => rfl
      | some k => show some (Value.ref (α k)) = some (Value.ref (α' k)); rw [h k (List.mem_of_getElem? hi)]
  have hg : (fun i : Nat => ((fs[i]?).getD none).map α) = fun i : Nat => ((fs[i]?).getD none).map α' := by
    funext i
    cases hi : fs[i]? with
    | none => rfl
    | some o =>
      cases o with
      | none => rfl
      | some k => show some (α k) = some (α' k); rw [h k (List.mem_of_getElem? hi)]
  match k with
  | 0 => show Sum.inr (n, hb_fs α f fs) = Sum.inr (n, hb_fs α' f fs); rw [hf]
  | 1 => rfl
  | 2 => rfl
  | k + 3 => show Sum.inl (cS, n, Sum.inr (Sum.inr (Sum.inr (Sum.inr (fun i => ((fs[i]?).getD none).map α))))) = Sum.inl (cS, n, Sum.inr (Sum.inr (Sum.inr (Sum.inr (fun i => ((fs[i]?).getD none).map α'))))); rw [hg]
theorem hb_wr_congr {α α' : Nat → Nat} {cI cZ cS : ClassId} {σ σ' : hbM} : ∀ (sh : List hbS) (c : Nat), (∀ j, j < sh.length → α (c + j) = α' (c + j) ∧ σ (c + j) = σ' (c + j)) → (∀ s ∈ sh, ∀ k, some k ∈ s.2.2 → α k = α' k) → hb_wr α cI cZ cS σ c sh = hb_wr α' cI cZ cS σ' c sh
  | [], c, _, _ => rfl
  | s :: t, c, h1, h2 => by
    have h0 := h1 0 (by simp)
    rw [Nat.add_zero] at h0
    have ih := hb_wr_congr (α := α) (α' := α') (cI := cI) (cZ := cZ) (cS := cS) (σ := σ) (σ' := σ') t (c + 1) (fun j hj => by
      have := h1 (j + 1) (by simpa using hj)
      rwa [show c + (j + 1) = c + 1 + j by omega] at this) (fun s' hs' => h2 s' (List.mem_cons_of_mem _ hs'))
    show (α c, hb_e α cI cZ cS (σ c) s) :: hb_wr α cI cZ cS σ (c + 1) t = (α' c, hb_e α' cI cZ cS (σ' c) s) :: hb_wr α' cI cZ cS σ' (c + 1) t
    rw [ih, h0.1, h0.2, hb_e_congr (h2 s List.mem_cons_self)]
theorem hb_wr_app {α : Nat → Nat} {cI cZ cS : ClassId} {σ : hbM} : ∀ (sh t : List hbS) (c : Nat), hb_wr α cI cZ cS σ c (sh ++ t) = hb_wr α cI cZ cS σ c sh ++ hb_wr α cI cZ cS σ (c + sh.length) t
  | [], t, c => rfl
  | s :: sh, t, c => by
    have ih := hb_wr_app (α := α) (cI := cI) (cZ := cZ) (cS := cS) (σ := σ) sh t (c + 1)
    show _ :: hb_wr α cI cZ cS σ (c + 1) (sh ++ t) = _ :: (hb_wr α cI cZ cS σ (c + 1) sh ++ hb_wr α cI cZ cS σ (c + (sh.length + 1)) t)
    rw [ih, show c + 1 + sh.length = c + (sh.length + 1) by omega]
def hl_γ (β α : Nat → Nat) (l : List Nat) : Nat → Nat := fun c => cond (Nat.ble 54 c) (l.getD (c - 54) (α c)) (β c)
theorem hl_γ_lt {β α : Nat → Nat} {l : List Nat} {c : Nat} (h : c < 54) : β c = hl_γ β α l c := by
  have h1 : Nat.ble 54 c = false := by
    cases hc : Nat.ble 54 c with
    | false => rfl
    | true => exact absurd (Nat.le_of_ble_eq_true hc) (by omega)
  unfold hl_γ
  rw [h1]
  rfl
def hb_fr (α : Nat → Nat) (f : Nat → Int32) : Nat → List (Option Nat) → List Value
  | _, [] => []
  | j, o :: t => hb_fv α f j o :: hb_fr α f (j + 1) t
theorem hb_fr_get {α : Nat → Nat} {f : Nat → Int32} : ∀ (l : List (Option Nat)) (j k : Nat), (hb_fr α f j l)[k]? = (l[k]?).map (hb_fv α f (j + k))
  | [], j, k => by simp [hb_fr]
  | o :: t, j, 0 => rfl
  | o :: t, j, k + 1 => by
    have := hb_fr_get (α := α) (f := f) t (j + 1) k
    rw [show j + 1 + k = j + (k + 1) by omega] at this
    exact this
theorem hb_fs_eq {α : Nat → Nat} {f : Nat → Int32} {l : List (Option Nat)} : hb_fs α f l = hb_fr α f 0 l := by
  apply List.ext_getElem?
  intro k
  rw [hb_fs_get, hb_fr_get, Nat.zero_add]
theorem hb_wr_cons {α : Nat → Nat} {cI cZ cS : ClassId} {σ : hbM} {c : Nat} {s : hbS} {t : List hbS} : hb_wr α cI cZ cS σ c (s :: t) = (α c, hb_e α cI cZ cS (σ c) s) :: hb_wr α cI cZ cS σ (c + 1) t := rfl
theorem hb_e_0 {α : Nat → Nat} {cI cZ cS : ClassId} {f : Nat → Int32} {n : Nat} {fs : List (Option Nat)} : hb_e α cI cZ cS f (0, n, fs) = .inr (n, hb_fs α f fs) := rfl

def hbSHm : List hbS := [(0, 12, [none, none, some 55, some 56, some 57, none, some 58, some 59, some 60, none, none, none, none, none, none, none, some 61, some 62, some 63, some 64, some 65, some 66, some 67, none, none, none, none, none, none, none, none, none, some 68, some 69, none, some 70, some 71, none, some 72, some 73, some 74, some 75, none, none, some 76, some 77, some 78, some 79, none]), (1, 8, []), (1, 8, []), (1, 320, []), (1, 8, []), (1, 8, []), (1, 8, []), (1, 8, []), (1, 40, []), (1, 40, []), (1, 40, []), (1, 16, []), (1, 16, []), (1, 400, []), (1, 4, []), (1, 4, []), (2, 52224, []), (1, 52224, []), (1, 17408, []), (2, 1024, []), (1, 17408, []), (2, 17408, []), (1, 1024, []), (1, 51, []), (1, 51, []), (1, 16, [])]
theorem hl_refs : hbSHx.all (fun s => s.2.2.all (fun o => match o with
  | none => true
  | some k => decide (k < 54))) = true := by decide +kernel
set_option maxRecDepth 100000 in
set_option maxHeartbeats 40000000 in
theorem hl_fm {β α : Nat → Nat} {cI cZ cS : ClassId} {σT : hbM} {qm q1 q2 q3 q4 q5 q6 q7 q8 q9 q10 q11 q12 q13 q14 q15 q16 q17 q18 q19 q20 q21 q22 q23 q24 q25 : Nat} : hb_wr (hl_γ β α [qm, q1, q2, q3, q4, q5, q6, q7, q8, q9, q10, q11, q12, q13, q14, q15, q16, q17, q18, q19, q20, q21, q22, q23, q24, q25]) cI cZ cS (hn_σ2 σT) 54 hbSHm = [(qm, .inr (12, [.int 0, .int 0, .ref q1, .ref q2, .ref q3, .int 0, .ref q4, .ref q5, .ref q6, .int 0, .int 0, .int 0, .int 0, .int 0, .int 0, .int 0, .ref q7, .ref q8, .ref q9, .ref q10, .ref q11, .ref q12, .ref q13, .int 0, .int 0, .int 0, .int 0, .int 0, .int 0, .int 0, .int 0, .int 0, .ref q14, .ref q15, .int 0, .ref q16, .ref q17, .int 0, .ref q18, .ref q19, .ref q20, .ref q21, .int 0, .int 0, .ref q22, .ref q23, .ref q24, .ref q25, .int 0])), (q1, .inl (cI, 8, .inl (upd (upd (upd (upd (upd (upd (upd (upd (fun _ => 0) (0 : Int32).toNatClampNeg (-1)) (1 : Int32).toNatClampNeg (-1)) (2 : Int32).toNatClampNeg (-1)) (3 : Int32).toNatClampNeg (-1)) (4 : Int32).toNatClampNeg (-1)) (5 : Int32).toNatClampNeg (-1)) (6 : Int32).toNatClampNeg (-1)) (7 : Int32).toNatClampNeg (-1)))), (q2, .inl (cI, 8, .inl (fun _ => 0))), (q3, .inl (cI, 320, .inl (fun _ => 0))), (q4, .inl (cI, 8, .inl (fun _ => 0))), (q5, .inl (cI, 8, .inl (fun _ => 0))), (q6, .inl (cI, 8, .inl (fun _ => 0))), (q7, .inl (cI, 8, .inl (fun _ => 0))), (q8, .inl (cI, 40, .inl (fun _ => 0))), (q9, .inl (cI, 40, .inl (fun _ => 0))), (q10, .inl (cI, 40, .inl (fun _ => 0))), (q11, .inl (cI, 16, .inl (fun _ => 0))), (q12, .inl (cI, 16, .inl (fun _ => 0))), (q13, .inl (cI, 400, .inl (fun _ => 0))), (q14, .inl (cI, 4, .inl (upd (upd (upd (upd (fun _ => 0) (0 : Int32).toNatClampNeg (-1)) (1 : Int32).toNatClampNeg (-1)) (2 : Int32).toNatClampNeg (-1)) (3 : Int32).toNatClampNeg (-1)))), (q15, .inl (cI, 4, .inl (upd (upd (upd (upd (fun _ => 0) (0 : Int32).toNatClampNeg 1) (1 : Int32).toNatClampNeg 2) (2 : Int32).toNatClampNeg 3) (3 : Int32).toNatClampNeg 4))), (q16, .inl (cZ, 52224, .inl (fun _ => 0))), (q17, .inl (cI, 52224, .inl (fun _ => 0))), (q18, .inl (cI, 17408, .inl (fun _ => 0))), (q19, .inl (cZ, 1024, .inl (fun _ => 0))), (q20, .inl (cI, 17408, .inl (fun _ => 0))), (q21, .inl (cZ, 17408, .inl (fun _ => 0))), (q22, .inl (cI, 1024, .inl (fun _ => 0))), (q23, .inl (cI, 51, .inl (fun _ => 0))), (q24, .inl (cI, 51, .inl (fun _ => 0))), (q25, .inl (cI, 16, .inl (fun _ => 0)))] := by
  unfold hbSHm
  rw [hb_wr_cons, hb_e_0, hb_fs_eq]
  rfl
theorem hl_s2 (σT : hbM) : ∀ c, c < 54 → hn_σ σT c = hn_σ2 σT c := by
  intro c hc
  rcases (show c = 0 ∨ c = 1 ∨ c = 2 ∨ c = 3 ∨ c = 4 ∨ c = 5 ∨ c = 6 ∨ c = 7 ∨ c = 8 ∨ c = 9 ∨ c = 10 ∨ c = 11 ∨ c = 12 ∨ c = 13 ∨ c = 14 ∨ c = 15 ∨ c = 16 ∨ c = 17 ∨ c = 18 ∨ c = 19 ∨ c = 20 ∨ c = 21 ∨ c = 22 ∨ c = 23 ∨ c = 24 ∨ c = 25 ∨ c = 26 ∨ c = 27 ∨ c = 28 ∨ c = 29 ∨ c = 30 ∨ c = 31 ∨ c = 32 ∨ c = 33 ∨ c = 34 ∨ c = 35 ∨ c = 36 ∨ c = 37 ∨ c = 38 ∨ c = 39 ∨ c = 40 ∨ c = 41 ∨ c = 42 ∨ c = 43 ∨ c = 44 ∨ c = 45 ∨ c = 46 ∨ c = 47 ∨ c = 48 ∨ c = 49 ∨ c = 50 ∨ c = 51 ∨ c = 52 ∨ c = 53 by omega) with rfl | rfl | rfl | rfl | rfl | rfl | rfl | rfl | rfl | rfl | rfl | rfl | rfl | rfl | rfl | rfl | rfl | rfl | rfl | rfl | rfl | rfl | rfl | rfl | rfl | rfl | rfl | rfl | rfl | rfl | rfl | rfl | rfl | rfl | rfl | rfl | rfl | rfl | rfl | rfl | rfl | rfl | rfl | rfl | rfl | rfl | rfl | rfl | rfl | rfl | rfl | rfl | rfl | rfl <;> rfl
theorem hl_fin {β α : Nat → Nat} {cI cZ cS : ClassId} {σT : hbM} {qm q1 q2 q3 q4 q5 q6 q7 q8 q9 q10 q11 q12 q13 q14 q15 q16 q17 q18 q19 q20 q21 q22 q23 q24 q25 : Nat} : hb_w β cI cZ cS (hn_σ σT) hbSHx ++ [(qm, .inr (12, [.int 0, .int 0, .ref q1, .ref q2, .ref q3, .int 0, .ref q4, .ref q5, .ref q6, .int 0, .int 0, .int 0, .int 0, .int 0, .int 0, .int 0, .ref q7, .ref q8, .ref q9, .ref q10, .ref q11, .ref q12, .ref q13, .int 0, .int 0, .int 0, .int 0, .int 0, .int 0, .int 0, .int 0, .int 0, .ref q14, .ref q15, .int 0, .ref q16, .ref q17, .int 0, .ref q18, .ref q19, .ref q20, .ref q21, .int 0, .int 0, .ref q22, .ref q23, .ref q24, .ref q25, .int 0])), (q1, .inl (cI, 8, .inl (upd (upd (upd (upd (upd (upd (upd (upd (fun _ => 0) (0 : Int32).toNatClampNeg (-1)) (1 : Int32).toNatClampNeg (-1)) (2 : Int32).toNatClampNeg (-1)) (3 : Int32).toNatClampNeg (-1)) (4 : Int32).toNatClampNeg (-1)) (5 : Int32).toNatClampNeg (-1)) (6 : Int32).toNatClampNeg (-1)) (7 : Int32).toNatClampNeg (-1)))), (q2, .inl (cI, 8, .inl (fun _ => 0))), (q3, .inl (cI, 320, .inl (fun _ => 0))), (q4, .inl (cI, 8, .inl (fun _ => 0))), (q5, .inl (cI, 8, .inl (fun _ => 0))), (q6, .inl (cI, 8, .inl (fun _ => 0))), (q7, .inl (cI, 8, .inl (fun _ => 0))), (q8, .inl (cI, 40, .inl (fun _ => 0))), (q9, .inl (cI, 40, .inl (fun _ => 0))), (q10, .inl (cI, 40, .inl (fun _ => 0))), (q11, .inl (cI, 16, .inl (fun _ => 0))), (q12, .inl (cI, 16, .inl (fun _ => 0))), (q13, .inl (cI, 400, .inl (fun _ => 0))), (q14, .inl (cI, 4, .inl (upd (upd (upd (upd (fun _ => 0) (0 : Int32).toNatClampNeg (-1)) (1 : Int32).toNatClampNeg (-1)) (2 : Int32).toNatClampNeg (-1)) (3 : Int32).toNatClampNeg (-1)))), (q15, .inl (cI, 4, .inl (upd (upd (upd (upd (fun _ => 0) (0 : Int32).toNatClampNeg 1) (1 : Int32).toNatClampNeg 2) (2 : Int32).toNatClampNeg 3) (3 : Int32).toNatClampNeg 4))), (q16, .inl (cZ, 52224, .inl (fun _ => 0))), (q17, .inl (cI, 52224, .inl (fun _ => 0))), (q18, .inl (cI, 17408, .inl (fun _ => 0))), (q19, .inl (cZ, 1024, .inl (fun _ => 0))), (q20, .inl (cI, 17408, .inl (fun _ => 0))), (q21, .inl (cZ, 17408, .inl (fun _ => 0))), (q22, .inl (cI, 1024, .inl (fun _ => 0))), (q23, .inl (cI, 51, .inl (fun _ => 0))), (q24, .inl (cI, 51, .inl (fun _ => 0))), (q25, .inl (cI, 16, .inl (fun _ => 0)))] = hb_w (hl_γ β α [qm, q1, q2, q3, q4, q5, q6, q7, q8, q9, q10, q11, q12, q13, q14, q15, q16, q17, q18, q19, q20, q21, q22, q23, q24, q25]) cI cZ cS (hn_σ2 σT) hbSH := by
  rw [hb_w_eq, hb_w_eq, show hbSH = hbSHx ++ hbSHm from rfl, hb_wr_app, ← hl_fm (β := β) (α := α)]
  congr 1
  refine hb_wr_congr hbSHx 0 (fun j hj => ?_) (fun s hs k hk => ?_)
  · have hj' : j < 54 := hj
    rw [Nat.zero_add]
    exact ⟨hl_γ_lt hj', hl_s2 σT j hj'⟩
  · have h1 := List.all_eq_true.mp (List.all_eq_true.mp hl_refs s hs) (some k) hk
    have h2 : k < 54 := by simpa using h1
    exact hl_γ_lt h2
set_option maxRecDepth 100000 in
set_option maxHeartbeats 40000000 in
theorem whole_start {p : Program} {e : Env} {s : State} {m : MethodId} {below : List Frame} {meth : Method} {c : Code} (l : Launch) {b L : Nat} {xs : Nat → Int32} (hL : L ≤ 3072) (C0 : lw_At p s m meth c b L xs) : W p l e room_1 s m #[Value.ref b] below meth c s.heap [] 0 0 (lw_Z below #[Value.ref b] s) (entryFrame m ([Value.ref b] : List Value).toArray 4) := by
  obtain ⟨hx, hb, hr, hml, hown, hts, hX, hbl, hlocks, hgv⟩ := id C0
  obtain ⟨D, cI, cZ, cS, α, ov, hG, ho⟩ := hl_G hts hgv
  obtain ⟨σT, t1, t2, t3⟩ := tell0
  have htB : ∀ w ∈ hbTB, w.before #[Value.ref b] s = true := fun w h => hts w (List.mem_filter.mp h).1
  have C : hn_C p s m #[Value.ref b] c code 4 R_law D cI cZ cS α ov (fun q => s.heap.size ≤ q) := ⟨hx, hb, hml, hown, htB, hG⟩
  have hl := lv_entry ([.ref b]) (n := 4) (Nat.le_of_ble_eq_true rfl)
  rw [lg_entry_eq]
  generalize (lg_sl ([.ref b]) ++ List.replicate (4 - (lg_sl ([.ref b])).length) Slot.unset).toArray = ls at hl ⊢
  have hl : lv_has ls 4 [(0, .ref b)] := hl
  suffices hh : hn_W p l e room_1 s m #[Value.ref b] below meth c D (fun q => s.heap.size ≤ q) (lw_Z below #[Value.ref b] s) 0 0 [] 0 ls [] from hh s.heap [] (fun k q h => by simp at h) ⟨fun i j p q h => by simp at h, fun k q h => by simp at h⟩ va_S.rf
  refine hn_new C (ci := 11) (r := (RX11, TX11, 11)) (fs := [.null, .null, .null, .null, .null, .null, .null, .null, .null, .int 0, .int 0]) (c' := 1) (s' := 11) rfl (hb_wd_in (i := 106) (by decide +kernel)) (hb_wd_in (i := 107) (by decide +kernel)) (hb_wd_in (i := 85) (by decide +kernel)) tyX11 tyX11_ok (by decide +kernel) dl_0 rfl rfl ⟨Nat.le_of_ble_eq_true rfl, Nat.le_of_ble_eq_true rfl⟩ (fun q0 => ?_)
  refine hn_dup C dl_3 ?_
  refine hn_call C (i := 9) (n := 0) (rest := [.ref q0]) (c' := 54) (s' := 92909) (c_X11 l D cI cZ cS α ov (fun q => s.heap.size ≤ q) q0 ho σT t1) (hb_wd_in (i := 110) (by decide +kernel)) (hb_wd_in (i := 85) (by decide +kernel)) (hb_wd_in (i := 109) (by decide +kernel)) (hb_wd_in (i := 108) (by decide +kernel)) rfl (by decide +kernel) rfl rfl (Nat.le_of_ble_eq_true rfl) hl.1 ⟨rfl, rfl⟩ ⟨Nat.le_of_ble_eq_true rfl, Nat.le_of_ble_eq_true rfl⟩ dl_4 rfl rfl ⟨Nat.le_of_ble_eq_true rfl, Nat.le_of_ble_eq_true rfl⟩ (fun w1 hw1 => ?_)
  obtain ⟨β, hβ, hw2⟩ := hw1
  subst hβ
  refine hn_eqw hw2 ?_
  refine hn_lift2 (fun _ _ k => lv_astore_n (lv' := [(1, .ref (β 13)), (0, .ref b)]) C.1 C.2.1 dl_7 rfl hl (by decide) rfl k) (fun ls hl => ?_)
  refine hn_new C (ci := 12) (r := (RX12, TX12, 49)) (fs := [.int 0, .int 0, .null, .null, .null, .int 0, .null, .null, .null, .int 0, .int 0, .int 0, .int 0, .int 0, .int 0, .int 0, .null, .null, .null, .null, .null, .null, .null, .int 0, .int 0, .int 0, .int 0, .int 0, .int 0, .int 0, .int 0, .int 0, .null, .null, .int 0, .null, .null, .int 0, .null, .null, .null, .null, .int 0, .int 0, .null, .null, .null, .null, .int 0]) (c' := 55) (s' := 92958) rfl (hb_wd_in (i := 1045) (by decide +kernel)) (hb_wd_in (i := 1046) (by decide +kernel)) (hb_wd_in (i := 98) (by decide +kernel)) tyX12 tyX12_ok (by decide +kernel) dl_8 rfl rfl ⟨Nat.le_of_ble_eq_true rfl, Nat.le_of_ble_eq_true rfl⟩ (fun qm => ?_)
  refine hn_dup C dl_11 ?_
  refine hn_call C (i := 12) (n := 0) (rest := [.ref qm]) (c' := 80) (s' := 252724) (c_X12 l D cI cZ cS α ov (fun q => s.heap.size ≤ q) qm (hb_w β cI cZ cS (hn_σ σT) hbSHx)) (hb_wd_in (i := 1049) (by decide +kernel)) (hb_wd_in (i := 98) (by decide +kernel)) (hb_wd_in (i := 1048) (by decide +kernel)) (hb_wd_in (i := 1047) (by decide +kernel)) rfl (by decide +kernel) rfl rfl (Nat.le_of_ble_eq_true rfl) hl.1 ⟨rfl, rfl⟩ ⟨Nat.le_of_ble_eq_true rfl, Nat.le_of_ble_eq_true rfl⟩ dl_12 rfl rfl ⟨Nat.le_of_ble_eq_true rfl, Nat.le_of_ble_eq_true rfl⟩ (fun w1 hw1 => ?_)
  obtain ⟨q1, q2, q3, q4, q5, q6, q7, q8, q9, q10, q11, q12, q13, q14, q15, q16, q17, q18, q19, q20, q21, q22, q23, q24, q25, rfl⟩ := hw1
  refine hn_lift2 (fun _ _ k => lv_astore_n (lv' := [(2, .ref qm), (1, .ref (β 13)), (0, .ref b)]) C.1 C.2.1 dl_15 rfl hl (by decide) rfl k) (fun ls hl => ?_)
  refine hn_ico C (v := 0) dl_16 (by decide +kernel) ?_
  refine hn_lift2 (fun _ _ k => lv_istore_n (lv' := [(3, .int 0), (2, .ref qm), (1, .ref (β 13)), (0, .ref b)]) C.1 C.2.1 dl_17 rfl hl (by decide) rfl k) (fun ls hl => ?_)
  refine hn_swap (F := [(q25, .inl (cI, 16, .inl (fun _ => 0))), (q24, .inl (cI, 51, .inl (fun _ => 0))), (q23, .inl (cI, 51, .inl (fun _ => 0))), (q22, .inl (cI, 1024, .inl (fun _ => 0))), (q21, .inl (cZ, 17408, .inl (fun _ => 0))), (q20, .inl (cI, 17408, .inl (fun _ => 0))), (q19, .inl (cZ, 1024, .inl (fun _ => 0))), (q18, .inl (cI, 17408, .inl (fun _ => 0))), (q17, .inl (cI, 52224, .inl (fun _ => 0))), (q16, .inl (cZ, 52224, .inl (fun _ => 0))), (q15, .inl (cI, 4, .inl (upd (upd (upd (upd (fun _ => 0) (0 : Int32).toNatClampNeg 1) (1 : Int32).toNatClampNeg 2) (2 : Int32).toNatClampNeg 3) (3 : Int32).toNatClampNeg 4))), (q14, .inl (cI, 4, .inl (upd (upd (upd (upd (fun _ => 0) (0 : Int32).toNatClampNeg (-1)) (1 : Int32).toNatClampNeg (-1)) (2 : Int32).toNatClampNeg (-1)) (3 : Int32).toNatClampNeg (-1)))), (q13, .inl (cI, 400, .inl (fun _ => 0))), (q12, .inl (cI, 16, .inl (fun _ => 0))), (q11, .inl (cI, 16, .inl (fun _ => 0))), (q10, .inl (cI, 40, .inl (fun _ => 0))), (q9, .inl (cI, 40, .inl (fun _ => 0))), (q8, .inl (cI, 40, .inl (fun _ => 0))), (q7, .inl (cI, 8, .inl (fun _ => 0))), (q6, .inl (cI, 8, .inl (fun _ => 0))), (q5, .inl (cI, 8, .inl (fun _ => 0))), (q4, .inl (cI, 8, .inl (fun _ => 0))), (q3, .inl (cI, 320, .inl (fun _ => 0))), (q2, .inl (cI, 8, .inl (fun _ => 0))), (q1, .inl (cI, 8, .inl (upd (upd (upd (upd (upd (upd (upd (upd (fun _ => 0) (0 : Int32).toNatClampNeg (-1)) (1 : Int32).toNatClampNeg (-1)) (2 : Int32).toNatClampNeg (-1)) (3 : Int32).toNatClampNeg (-1)) (4 : Int32).toNatClampNeg (-1)) (5 : Int32).toNatClampNeg (-1)) (6 : Int32).toNatClampNeg (-1)) (7 : Int32).toNatClampNeg (-1)))), (qm, .inr (12, [.int 0, .int 0, .ref q1, .ref q2, .ref q3, .int 0, .ref q4, .ref q5, .ref q6, .int 0, .int 0, .int 0, .int 0, .int 0, .int 0, .int 0, .ref q7, .ref q8, .ref q9, .ref q10, .ref q11, .ref q12, .ref q13, .int 0, .int 0, .int 0, .int 0, .int 0, .int 0, .int 0, .int 0, .int 0, .ref q14, .ref q15, .int 0, .ref q16, .ref q17, .int 0, .ref q18, .ref q19, .ref q20, .ref q21, .int 0, .int 0, .ref q22, .ref q23, .ref q24, .ref q25, .int 0]))]) (F' := [(qm, .inr (12, [.int 0, .int 0, .ref q1, .ref q2, .ref q3, .int 0, .ref q4, .ref q5, .ref q6, .int 0, .int 0, .int 0, .int 0, .int 0, .int 0, .int 0, .ref q7, .ref q8, .ref q9, .ref q10, .ref q11, .ref q12, .ref q13, .int 0, .int 0, .int 0, .int 0, .int 0, .int 0, .int 0, .int 0, .int 0, .ref q14, .ref q15, .int 0, .ref q16, .ref q17, .int 0, .ref q18, .ref q19, .ref q20, .ref q21, .int 0, .int 0, .ref q22, .ref q23, .ref q24, .ref q25, .int 0])), (q1, .inl (cI, 8, .inl (upd (upd (upd (upd (upd (upd (upd (upd (fun _ => 0) (0 : Int32).toNatClampNeg (-1)) (1 : Int32).toNatClampNeg (-1)) (2 : Int32).toNatClampNeg (-1)) (3 : Int32).toNatClampNeg (-1)) (4 : Int32).toNatClampNeg (-1)) (5 : Int32).toNatClampNeg (-1)) (6 : Int32).toNatClampNeg (-1)) (7 : Int32).toNatClampNeg (-1)))), (q2, .inl (cI, 8, .inl (fun _ => 0))), (q3, .inl (cI, 320, .inl (fun _ => 0))), (q4, .inl (cI, 8, .inl (fun _ => 0))), (q5, .inl (cI, 8, .inl (fun _ => 0))), (q6, .inl (cI, 8, .inl (fun _ => 0))), (q7, .inl (cI, 8, .inl (fun _ => 0))), (q8, .inl (cI, 40, .inl (fun _ => 0))), (q9, .inl (cI, 40, .inl (fun _ => 0))), (q10, .inl (cI, 40, .inl (fun _ => 0))), (q11, .inl (cI, 16, .inl (fun _ => 0))), (q12, .inl (cI, 16, .inl (fun _ => 0))), (q13, .inl (cI, 400, .inl (fun _ => 0))), (q14, .inl (cI, 4, .inl (upd (upd (upd (upd (fun _ => 0) (0 : Int32).toNatClampNeg (-1)) (1 : Int32).toNatClampNeg (-1)) (2 : Int32).toNatClampNeg (-1)) (3 : Int32).toNatClampNeg (-1)))), (q15, .inl (cI, 4, .inl (upd (upd (upd (upd (fun _ => 0) (0 : Int32).toNatClampNeg 1) (1 : Int32).toNatClampNeg 2) (2 : Int32).toNatClampNeg 3) (3 : Int32).toNatClampNeg 4))), (q16, .inl (cZ, 52224, .inl (fun _ => 0))), (q17, .inl (cI, 52224, .inl (fun _ => 0))), (q18, .inl (cI, 17408, .inl (fun _ => 0))), (q19, .inl (cZ, 1024, .inl (fun _ => 0))), (q20, .inl (cI, 17408, .inl (fun _ => 0))), (q21, .inl (cZ, 17408, .inl (fun _ => 0))), (q22, .inl (cI, 1024, .inl (fun _ => 0))), (q23, .inl (cI, 51, .inl (fun _ => 0))), (q24, .inl (cI, 51, .inl (fun _ => 0))), (q25, .inl (cI, 16, .inl (fun _ => 0)))]) (wr := hb_w β cI cZ cS (hn_σ σT) hbSHx) [25, 24, 23, 22, 21, 20, 19, 18, 17, 16, 15, 14, 13, 12, 11, 10, 9, 8, 7, 6, 5, 4, 3, 2, 1, 0] (by decide +kernel) rfl ?_
  refine hn_eqw (hl_fin (α := α)) ?_
  intro H locs hP hD hS
  obtain ⟨hinj, hAc⟩ := hb_w_D2 hD
  have C2 : hl_C p s m c b L xs D cI cZ cS (hl_γ β α [qm, q1, q2, q3, q4, q5, q6, q7, q8, q9, q10, q11, q12, q13, q14, q15, q16, q17, q18, q19, q20, q21, q22, q23, q24, q25]) ov (fun q => s.heap.size ≤ q) := ⟨hx, hb, hml, hown, htB, hX, hbl, Nat.not_le.mpr hbl, ⟨hG.1, hG.2.1, hG.2.2.1, hb_Z_nar hG.2.2.2.1 rfl rfl (fun q h => h), hG.2.2.2.2.1, hG.2.2.2.2.2⟩, hinj, hAc, ho⟩
  exact law_loop C2 (fun q h => h) hr hlocks (Nat.le_of_ble_eq_true rfl) (Nat.le_of_ble_eq_true rfl) hL L 0 _ ls (by omega) (Nat.zero_le _) (J_start t2 t3) hl H locs hP hS
