/-! the reference: a line of conds -/
section
variable (c : Nat → Nat)
def pCx : Nat → Nat → Nat → hbL → (Nat × Nat) ⊕ (Nat × hbL)
  | 0, _, k, _ => .inl (if 7 ≤ c k ∧ c k ≤ 10 then 3 else 1, k)
  | f + 1, i, k, L => match pC c k with
    | .inl e => .inl e
    | .inr (k2, v) => if c k2 = 4 then pCx f (i + 1) (k2 + 1) (putC L i v) else .inr (k2, ((putC L i v).1 + 1, (putC L i v).2.1, (putC L i v).2.2))
theorem pCx_eq : ∀ f i k L, pCd c f i k L = (match pCx c f i k L with
    | .inl e => .inl e
    | .inr (k', L') => pE c k' L')
  | 0, _, _, _ => rfl
  | f + 1, i, k, L => by
    unfold pCd pCx
    cases pC c k with
    | inl e => rfl
    | inr kv =>
      obtain ⟨k2, v⟩ := kv
      dsimp only
      by_cases h : c k2 = 4
      · rw [if_pos h, if_pos h]; exact pCx_eq f (i + 1) (k2 + 1) (putC L i v)
      · rw [if_neg h, if_neg h]
end
def rLq (ln : Nat) (σ σ' : hbM) : Prop := (∀ x, x ≠ 54 → x ≠ 61 → x ≠ 62 → x ≠ 63 → x ≠ 64 → σ' x = σ x) ∧ (∀ i, i < 26 ∨ 31 < i → σ' 54 i = σ 54 i) ∧ (∀ i, i ≠ ln → σ' 61 i = σ 61 i) ∧ ∀ i, i < 3 * ln ∨ 3 * ln + 3 ≤ i → σ' 62 i = σ 62 i ∧ σ' 63 i = σ 63 i ∧ σ' 64 i = σ 64 i
theorem rLq.tr {ln : Nat} {a b d : hbM} (h1 : rLq ln a b) (h2 : rLq ln b d) : rLq ln a d := ⟨fun x x1 x2 x3 x4 x5 => (h2.1 x x1 x2 x3 x4 x5).trans (h1.1 x x1 x2 x3 x4 x5), fun i hi => (h2.2.1 i hi).trans (h1.2.1 i hi), fun i hi => (h2.2.2.1 i hi).trans (h1.2.2.1 i hi), fun i hi => ⟨(h2.2.2.2 i hi).1.trans (h1.2.2.2 i hi).1, (h2.2.2.2 i hi).2.1.trans (h1.2.2.2 i hi).2.1, (h2.2.2.2 i hi).2.2.trans (h1.2.2.2 i hi).2.2⟩⟩
theorem rG.q {ln : Nat} {a b : hbM} (h : rG a b) : rLq ln a b := ⟨fun x x1 _ _ _ _ => h.1 x x1, h.2, fun i _ => by rw [h.1 61 (by omega)], fun i _ => ⟨by rw [h.1 62 (by omega)], by rw [h.1 63 (by omega)], by rw [h.1 64 (by omega)]⟩⟩
theorem rLq_61 (ln : Nat) (σ : hbM) (v : Int32) : rLq ln σ (hb_up σ 61 ln v) := ⟨fun x _ x2 _ _ _ => um_c _ _ _ x2, fun i _ => by rw [um_c _ _ _ (by omega)], fun i hi => um_i _ _ _ hi, fun i _ => ⟨by rw [um_c _ _ _ (by omega)], by rw [um_c _ _ _ (by omega)], by rw [um_c _ _ _ (by omega)]⟩⟩
theorem rLq_cd {ln i : Nat} (hi : i < 3) (σ : hbM) (a b d : Int32) : rLq ln σ (hb_up (hb_up (hb_up σ 62 (3 * ln + i) a) 63 (3 * ln + i) b) 64 (3 * ln + i) d) := ⟨fun x _ _ x3 x4 x5 => by rw [um_c _ _ _ x5, um_c _ _ _ x4, um_c _ _ _ x3], fun j _ => by rw [um_c _ _ _ (by omega), um_c _ _ _ (by omega), um_c _ _ _ (by omega)], fun j _ => by rw [um_c _ _ _ (by omega), um_c _ _ _ (by omega), um_c _ _ _ (by omega)], fun j hj => ⟨by rw [um_c _ _ _ (by omega), um_c _ _ _ (by omega), um_i _ _ _ (by omega)], by rw [um_c _ _ _ (by omega), um_i _ _ _ (by omega), um_c _ _ _ (by omega)], by rw [um_i _ _ _ (by omega), um_c _ _ _ (by omega), um_c _ _ _ (by omega)]⟩⟩
def lnK (σ : hbM) (ln : Nat) (L : hbL) (i : Nat) : Prop := ∀ j, j < i → mC σ (3 * ln + j) ∧ cM σ (3 * ln + j) = L.2.2 (3 * L.1 + j)
theorem lnK.eq {σ σ' : hbM} {ln i : Nat} {L : hbL} (h : lnK σ ln L i) (e2 : σ' 62 = σ 62) (e3 : σ' 63 = σ 63) (e4 : σ' 64 = σ 64) : lnK σ' ln L i := by
  intro j hj
  have := h j hj
  unfold mC cM tn at this ⊢
  rw [e2, e3, e4]
  exact this
theorem um_o62 (σ : hbM) (p q : Nat) (a b d : Int32) (h : q ≠ p) : hb_up (hb_up (hb_up σ 62 p a) 63 p b) 64 p d 62 q = σ 62 q := by rw [um_c _ _ _ (by omega), um_c _ _ _ (by omega), um_i _ _ _ h]
theorem um_o63 (σ : hbM) (p q : Nat) (a b d : Int32) (h : q ≠ p) : hb_up (hb_up (hb_up σ 62 p a) 63 p b) 64 p d 63 q = σ 63 q := by rw [um_c _ _ _ (by omega), um_i _ _ _ h, um_c _ _ _ (by omega)]
theorem um_o64 (σ : hbM) (p q : Nat) (a b d : Int32) (h : q ≠ p) : hb_up (hb_up (hb_up σ 62 p a) 63 p b) 64 p d 64 q = σ 64 q := by rw [um_i _ _ _ h, um_c _ _ _ (by omega), um_c _ _ _ (by omega)]
theorem um_s62 (σ : hbM) (p : Nat) (a b d : Int32) : hb_up (hb_up (hb_up σ 62 p a) 63 p b) 64 p d 62 p = a := by rw [um_c _ _ _ (by omega), um_c _ _ _ (by omega), um_s]
theorem um_s63 (σ : hbM) (p : Nat) (a b d : Int32) : hb_up (hb_up (hb_up σ 62 p a) 63 p b) 64 p d 63 p = b := by rw [um_c _ _ _ (by omega), um_s]
theorem um_s64 (σ : hbM) (p : Nat) (a b d : Int32) : hb_up (hb_up (hb_up σ 62 p a) 63 p b) 64 p d 64 p = d := um_s _ _ _ _
theorem lnK.put {σ : hbM} {ln i a b d v : Nat} {L : hbL} (h : lnK σ ln L i) (ha : a < 4) (hb : b < 8) (hd : d < 8) (hv : v = 64 * a + 8 * b + d) : lnK (hb_up (hb_up (hb_up σ 62 (3 * ln + i) (nI a)) 63 (3 * ln + i) (nI b)) 64 (3 * ln + i) (nI d)) ln (putC L i v) (i + 1) := by
  intro j hj
  unfold mC cM tn putC
  dsimp only
  by_cases z : j = i
  · subst z
    rw [um_s62, um_s63, um_s64, if_pos rfl, q_cl (by omega), q_cl (by omega), q_cl (by omega)]
    exact ⟨⟨q_inT (by omega) (by omega), q_inT (by omega) (by omega), q_inT (by omega) (by omega)⟩, hv.symm⟩
  · have := h j (by omega)
    unfold mC cM tn at this
    rw [um_o62 _ _ _ _ _ _ (show 3 * ln + j ≠ 3 * ln + i by omega), um_o63 _ _ _ _ _ _ (show 3 * ln + j ≠ 3 * ln + i by omega), um_o64 _ _ _ _ _ _ (show 3 * ln + j ≠ 3 * ln + i by omega), if_neg (show ¬ 3 * L.1 + j = 3 * L.1 + i by omega)]
    exact this
