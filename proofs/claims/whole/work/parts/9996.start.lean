/-! the memory behind both constructors: the joint invariant holds -/
def hn_m55 : Nat → Int32 := upd (upd (upd (upd (upd (upd (upd (upd (fun _ => 0) (0 : Int32).toNatClampNeg (-1)) (1 : Int32).toNatClampNeg (-1)) (2 : Int32).toNatClampNeg (-1)) (3 : Int32).toNatClampNeg (-1)) (4 : Int32).toNatClampNeg (-1)) (5 : Int32).toNatClampNeg (-1)) (6 : Int32).toNatClampNeg (-1)) (7 : Int32).toNatClampNeg (-1)
def hn_m68 : Nat → Int32 := upd (upd (upd (upd (fun _ => 0) (0 : Int32).toNatClampNeg (-1)) (1 : Int32).toNatClampNeg (-1)) (2 : Int32).toNatClampNeg (-1)) (3 : Int32).toNatClampNeg (-1)
def hn_m69 : Nat → Int32 := upd (upd (upd (upd (fun _ => 0) (0 : Int32).toNatClampNeg 1) (1 : Int32).toNatClampNeg 2) (2 : Int32).toNatClampNeg 3) (3 : Int32).toNatClampNeg 4
def hn_σ2 (σT : hbM) : hbM := fun c => [σT 0, σT 1, σT 2, σT 3, σT 4, σT 5, σT 6, σT 7, σT 8, σT 9, σT 10, σT 11, σT 12, fun _ => 0, fun _ => 0, fun _ => 0, fun _ => 0, fun _ => 0, fun _ => 0, fun _ => 0, fun _ => 0, fun _ => 0, fun _ => 0, fun _ => 0, fun _ => 0, fun _ => 0, fun _ => 0, fun _ => 0, fun _ => 0, fun _ => 0, fun _ => 0, fun _ => 0, fun _ => 0, fun _ => 0, fun _ => 0, fun _ => 0, fun _ => 0, hn_lik, hn_pri, fun _ => 0, fun _ => 0, fun _ => 0, fun _ => 0, fun _ => 0, fun _ => 0, fun _ => 0, fun _ => 0, fun _ => 0, fun _ => 0, fun _ => 0, fun _ => 0, fun _ => 0, fun _ => 0, fun _ => 0, fun _ => 0, hn_m55, fun _ => 0, fun _ => 0, fun _ => 0, fun _ => 0, fun _ => 0, fun _ => 0, fun _ => 0, fun _ => 0, fun _ => 0, fun _ => 0, fun _ => 0, fun _ => 0, hn_m68, hn_m69].getD c (fun _ => 0)
def hb_F0 : hbF := (0, fun _ => 0, fun _ => 0, fun _ => 0)
def hb_L0 : hbL := (0, fun _ => 0, fun _ => 0)
def hb_D0 : hbD := (hb_F0, hb_L0, hb_L0, (0, fun _ => 0, fun _ => 0, fun _ => 0))
theorem hb_F0_ok : wFok hb_F0 := ⟨Nat.zero_le _, fun i hi => absurd hi (Nat.not_lt_zero i)⟩
theorem hb_L0_ok : wLok hb_L0 := ⟨Nat.zero_le _, fun i hi => absurd hi (Nat.not_lt_zero i)⟩
theorem tell0 : ∃ σT, hb_ev hbSH0 75 [.ref 0] (fun _ _ => 0) = some (none, σT) ∧ (∀ c, c ≠ 10 → c ≠ 11 → c ≠ 12 → σT c = fun _ => 0) ∧ ∀ x, x < 1024 → σT 10 x = nI (wTick hb_F0 x) ∧ σT 11 x = hbb (wAny hb_L0 x hb_L0.1) ∧ σT 12 x = hbb (wGood hb_L0 hb_L0 x) := by
  obtain ⟨σT, h1, h2, h3⟩ := s75 (rest := []) (F := hb_F0) (B := hb_L0) (G := hb_L0) (σ := fun _ _ => 0) hb_F0_ok hb_L0_ok hb_L0_ok ⟨rfl, fun i hi => absurd hi (Nat.not_lt_zero i)⟩ ⟨rfl, fun i hi => absurd hi (Nat.not_lt_zero i)⟩ ⟨rfl, fun i hi => absurd hi (Nat.not_lt_zero i)⟩
  rw [List.append_nil] at h1
  exact ⟨σT, h1, h2, h3⟩
theorem J_start {σT : hbM} (h2 : ∀ c, c ≠ 10 → c ≠ 11 → c ≠ 12 → σT c = fun _ => 0) (h3 : ∀ x, x < 1024 → σT 10 x = nI (wTick hb_F0 x) ∧ σT 11 x = hbb (wAny hb_L0 x hb_L0.1) ∧ σT 12 x = hbb (wGood hb_L0 hb_L0 x)) : J 0 (hn_σ2 σT) := by
  have z : ∀ c i, c ≠ 10 → c ≠ 11 → c ≠ 12 → σT c i = 0 := fun c i a b d => by rw [h2 c a b d]
  have v0 : ∀ {P : Nat → Prop} (i : Nat), i < 0 → P i := fun i hi => absurd hi (Nat.not_lt_zero i)
  have hz : (0 : Int32) = nI 0 := rfl
  refine ⟨⟨⟨hb_F0, hb_L0, hb_L0, book_out (D := hb_D0) ⟨hb_F0_ok, hb_L0_ok, hb_L0_ok, Nat.zero_le _, fun i hi => absurd hi (Nat.not_lt_zero i)⟩ ⟨z 0 8 (by decide) (by decide) (by decide), z 1 2 (by decide) (by decide) (by decide), z 4 2 (by decide) (by decide) (by decide), rfl, ⟨fun i hi => absurd hi (Nat.not_lt_zero i), fun i hi => absurd hi (Nat.not_lt_zero i), fun i hi => absurd hi (Nat.not_lt_zero i), fun i hi => absurd hi (Nat.not_lt_zero i)⟩⟩ ⟨fun i hi => absurd hi (Nat.not_lt_zero i), fun i hi => absurd hi (Nat.not_lt_zero i), fun i hi => absurd hi (Nat.not_lt_zero i), fun i hi => absurd hi (Nat.not_lt_zero i)⟩ rfl rfl rfl rfl h3 ⟨0, by decide, z 0 10 (by decide) (by decide) (by decide), rfl⟩ ?_⟩, ?_, ?_, ?_, ?_, ?_⟩, ?_⟩
  · intro v hv
    refine Or.inl ?_
    rcases (show v = 0 ∨ v = 1 ∨ v = 2 ∨ v = 3 by omega) with rfl | rfl | rfl | rfl
    · exact ⟨show hn_lik 0 = hbNO by decide +kernel, show hn_m68 0 = -1 by decide +kernel⟩
    · exact ⟨show hn_lik 1 = hbNO by decide +kernel, show hn_m68 1 = -1 by decide +kernel⟩
    · exact ⟨show hn_lik 2 = hbNO by decide +kernel, show hn_m68 2 = -1 by decide +kernel⟩
    · exact ⟨show hn_lik 3 = hbNO by decide +kernel, show hn_m68 3 = -1 by decide +kernel⟩
  · intro k hk
    rcases (show k = 0 ∨ k = 1 ∨ k = 2 ∨ k = 3 by omega) with rfl | rfl | rfl | rfl
    · exact ⟨1, by decide, by decide, show hn_pri 0 = nI 1 by decide +kernel, show hn_m69 0 = nI 1 by decide +kernel⟩
    · exact ⟨2, by decide, by decide, show hn_pri 1 = nI 2 by decide +kernel, show hn_m69 1 = nI 2 by decide +kernel⟩
    · exact ⟨3, by decide, by decide, show hn_pri 2 = nI 3 by decide +kernel, show hn_m69 2 = nI 3 by decide +kernel⟩
    · exact ⟨4, by decide, by decide, show hn_pri 3 = nI 4 by decide +kernel, show hn_m69 3 = nI 4 by decide +kernel⟩
  · exact ⟨0, by decide, rfl, rfl, fun i hi => absurd hi (Nat.not_lt_zero i)⟩
  · exact ⟨0, by decide, rfl, rfl, fun i hi => absurd hi (Nat.not_lt_zero i)⟩
  · intro s hs
    rcases hb_8 hs with rfl | rfl | rfl | rfl | rfl | rfl | rfl | rfl
    · exact ⟨Or.inl ⟨rfl, show hn_m55 0 = -1 by decide +kernel⟩, ⟨0, by decide, rfl, rfl⟩, fun k hk => rfl⟩
    · exact ⟨Or.inl ⟨rfl, show hn_m55 1 = -1 by decide +kernel⟩, ⟨0, by decide, rfl, rfl⟩, fun k hk => rfl⟩
    · exact ⟨Or.inl ⟨rfl, show hn_m55 2 = -1 by decide +kernel⟩, ⟨0, by decide, rfl, rfl⟩, fun k hk => rfl⟩
    · exact ⟨Or.inl ⟨rfl, show hn_m55 3 = -1 by decide +kernel⟩, ⟨0, by decide, rfl, rfl⟩, fun k hk => rfl⟩
    · exact ⟨Or.inl ⟨rfl, show hn_m55 4 = -1 by decide +kernel⟩, ⟨0, by decide, rfl, rfl⟩, fun k hk => rfl⟩
    · exact ⟨Or.inl ⟨rfl, show hn_m55 5 = -1 by decide +kernel⟩, ⟨0, by decide, rfl, rfl⟩, fun k hk => rfl⟩
    · exact ⟨Or.inl ⟨rfl, show hn_m55 6 = -1 by decide +kernel⟩, ⟨0, by decide, rfl, rfl⟩, fun k hk => rfl⟩
    · exact ⟨Or.inl ⟨rfl, show hn_m55 7 = -1 by decide +kernel⟩, ⟨0, by decide, rfl, rfl⟩, fun k hk => rfl⟩
  · exact ⟨rfl, rfl⟩
  · exact ⟨0, Nat.zero_le _, ⟨rfl, by decide, fun p hp => ⟨0, rfl, by decide⟩⟩, fun s hs => ⟨0, Nat.le_refl _, rfl⟩, fun p hp => ⟨0, by decide, rfl⟩⟩
