/-! THE CLAIM OUT OF ONE WALK OF THE LAW'S BODY. Your part is whole_start (and what it stands on); all else here is the same for every law, but numbers. -/
def R_law : String := "HandBookLaw"
def lw_P (b : Addr) (xs : List Int32) (args : Array Value) (s : State) : Prop := args = #[.ref b] ∧ s.IntsAt b xs ∧ xs.length ≤ 3072 ∧ (Jvm.Cond.and given_1 narrow_1).before args s = true
def lw_Q (_ : Array Value) (s : State) (o : Outcome) (t : State) : Prop := o = .returned (some (.int 1)) ∧ Framed s o t [] 600000 7302250
def lw_Z (below : List Frame) (a : Array Value) (s : State) : State → Prop := fun t => ∃ o, t.status = .running ∧ Ended t below o ∧ lw_Q a s o t
/-- the law's own end, with 1 on the stack, nothing written that was there before, its room as the claim has it -/
theorem lw_ret {p : Program} {l : Launch} {e : Env} {s : State} {m : MethodId} {below : List Frame} {meth : Method} {c : Code} {b : Nat} (hx : p.tables.exec = Jvm.exec) (hb : c.code = code) (hr : meth.sig.returnType = ret) (hlocks : meth.locks = false) {pc : Nat} {H : Heap} {ls : Array Slot} (hdg : decode code pc = .ok (.ireturn, 1)) : W p l e room_1 s m #[Value.ref b] below meth c H [] 600000 7302250 (lw_Z below #[Value.ref b] s) (F0 m pc ls [.int 1]) := by
  intro T hT X
  obtain ⟨fs, hret, hrun, hended, hW, hframe⟩ := X.leave (v := some (.int 1)) (hlocks := hlocks) (fun h => by rw [hr] at h; cases h)
  have hmeth' : T.vm.method? m = some meth := X.method'
  refine ⟨T.setFrames fs, ?_, .returned (some (.int 1)), hrun, hended, rfl, ⟨_, rfl⟩, hW, hframe⟩
  jvm_step X.here [X.here.top, hx, hb, hdg, hmeth', hr, ret, narrow_b1]
  (try refine ⟨rfl, ?_⟩); (try refine ⟨rfl, ?_⟩)
  first | (intro acts; rw [hret _ acts rfl rfl rfl]) | rw [hret _ _ rfl rfl rfl]
  exact Steps.refl _
/-- what holds at the law's entry: the machine, the code, the tables' words (any of lw_tbl by 'hts w (by decide +kernel)'), the script of L ints xs at the cell b, what the Statement gives of the start (any of its parts by flat_of_before) -/
def lw_At (p : Program) (s : State) (m : MethodId) (meth : Method) (c : Code) (b L : Nat) (xs : Nat → Int32) : Prop :=
  p.tables.exec = Jvm.exec ∧ c.code = code ∧ meth.sig.returnType = ret ∧ c.maxLocals = 4 ∧ s.vm.findClass R_law = some m.cls ∧ (∀ w ∈ lw_tbl, w.before #[Value.ref b] s = true) ∧ va_X b L xs s s.heap ∧ b < s.heap.size ∧ meth.locks = false ∧ (Jvm.Cond.and given_1 narrow_1).before #[Value.ref b] s = true
section
variable {p : Program} {l : Launch} {e : Env} {s : State} {m : MethodId} {below : List Frame} {meth : Method} {c : Code} {cells slots : Nat}
variable {pc b L n : Nat} {xs : Nat → Int32} {ls : Array Slot} {rest : List Value} {D : va_G} {cI cZ cS : ClassId} {α : Nat → Nat} {ov : Value} {A : Nat → Prop} {σ : hbM}
/-- what holds all through the law's loop -/
def hl_C (p : Program) (s : State) (m : MethodId) (c : Code) (b L : Nat) (xs : Nat → Int32) (D : va_G) (cI cZ cS : ClassId) (α : Nat → Nat) (ov : Value) (A : Nat → Prop) : Prop :=
  p.tables.exec = Jvm.exec ∧ c.code = code ∧ c.maxLocals = 4 ∧ s.vm.findClass R_law = some m.cls ∧ (∀ w ∈ hbTB, w.before #[Value.ref b] s = true) ∧ va_X b L xs s s.heap ∧ b < s.heap.size ∧ ¬ A b ∧ hn_G D cI cZ cS α ov A s ∧ hb_inj α hbSH.length ∧ (∀ c, c < hbSH.length → A (α c)) ∧ ov.category = 1
def hl_W (p : Program) (l : Launch) (e : Env) (s : State) (m : MethodId) (below : List Frame) (meth : Method) (c : Code) (b : Nat) (D : va_G) (cI cZ cS : ClassId) (α : Nat → Nat) (A : Nat → Prop) (cells slots : Nat) (σ : hbM) (pc : Nat) (ls : Array Slot) (stk : List Value) : Prop :=
  ∀ (H : Heap) (locs : List Loc), va_P D hbCl (hb_w α cI cZ cS σ hbSH) H → va_S A s.heap H locs → W p l e room_1 s m #[Value.ref b] below meth c H locs cells slots (lw_Z below #[Value.ref b] s) (F0 m pc ls stk)
/-- the law's locals: the script, the class, the reference, the place -/
def hl_L (α : Nat → Nat) (b n : Nat) (ls : Array Slot) : Prop := lv_has ls 4 [(3, .int (nI (6 * n))), (2, .ref (α 54)), (1, .ref (α 13)), (0, .ref b)]
theorem hl_lift {pc' : Nat} {ls' : Array Slot} {st st' : List Value} (h : ∀ (H : Heap) (locs : List Loc), W p l e room_1 s m #[Value.ref b] below meth c H locs cells slots (lw_Z below #[Value.ref b] s) (F0 m pc' ls' st') → W p l e room_1 s m #[Value.ref b] below meth c H locs cells slots (lw_Z below #[Value.ref b] s) (F0 m pc ls st)) (k : hl_W p l e s m below meth c b D cI cZ cS α A cells slots σ pc' ls' st') : hl_W p l e s m below meth c b D cI cZ cS α A cells slots σ pc ls st :=
  fun H locs hP hS => h H locs (k H locs hP hS)
theorem hl_a1 (C : hl_C p s m c b L xs D cI cZ cS α ov A) (hl : hl_L α b n ls) (hdg : decode code pc = .ok (.aload_n 1, 1)) (k : hl_W p l e s m below meth c b D cI cZ cS α A cells slots σ (pc + 1) ls (.ref (α 13) :: rest)) : hl_W p l e s m below meth c b D cI cZ cS α A cells slots σ pc ls rest :=
  hl_lift (fun _ _ k => lv_aload_n C.1 C.2.1 hdg rfl (lv_at hl 2 rfl) k) k
theorem hl_a2 (C : hl_C p s m c b L xs D cI cZ cS α ov A) (hl : hl_L α b n ls) (hdg : decode code pc = .ok (.aload_n 2, 1)) (k : hl_W p l e s m below meth c b D cI cZ cS α A cells slots σ (pc + 1) ls (.ref (α 54) :: rest)) : hl_W p l e s m below meth c b D cI cZ cS α A cells slots σ pc ls rest :=
  hl_lift (fun _ _ k => lv_aload_n C.1 C.2.1 hdg rfl (lv_at hl 1 rfl) k) k
/-- script[i + k] -/
theorem hl_arg (C : hl_C p s m c b L xs D cI cZ cS α ov A) (hl : hl_L α b n ls) (hL : L ≤ 3072) (k : Nat) {z : Int} (hz : Int32.ofInt z = nI k) (hk : 6 * n + k < L) (d0 : decode code pc = .ok (.aload_n 0, 1)) (d1 : decode code (pc + 1) = .ok (.iload_n 3, 1)) (d2 : decode code (pc + 1 + 1) = .ok (.iconst z, 1)) (d3 : decode code (pc + 1 + 1 + 1) = .ok (.iadd, 1)) (d4 : decode code (pc + 1 + 1 + 1 + 1) = .ok (.iaload, 1))
    (kk : hl_W p l e s m below meth c b D cI cZ cS α A cells slots σ (pc + 1 + 1 + 1 + 1 + 1) ls (.int (xs (6 * n + k)) :: rest)) : hl_W p l e s m below meth c b D cI cZ cS α A cells slots σ pc ls rest := by
  obtain ⟨hx, hb, hml, hown, hts, hX, hbl, hbA, -⟩ := C
  intro H locs hP hS
  refine lv_aload_n hx hb d0 rfl (lv_at hl 3 rfl) ?_
  refine lv_iload_n hx hb d1 rfl (lv_at hl 0 rfl) ?_
  refine lv_iconst (v := nI k) hx hb d2 hz ?_
  refine lv_iadd hx hb d3 ?_
  have e1 : nI (6 * n) + nI k = nI (6 * n + k) := q_add _ _
  have e2 : (nI (6 * n) + nI k).toNatClampNeg = 6 * n + k := by rw [e1]; exact nI_clamp (by omega)
  have hin : vp_in (nI (6 * n) + nI k) L := by rw [e1]; exact vp_in_nI hk (by omega)
  refine va_sld hx hb hX hbl hbA hS hin d4 ?_
  rw [e2]
  exact kk H locs hP hS
theorem hl_ieq (C : hl_C p s m c b L xs D cI cZ cS α ov A) {x : Int32} {off : Int} {tgt : Nat} (hdg : decode code pc = .ok (.if_icmp .eq off, 3)) (ht : (pc : Int) + off = (tgt : Int)) (k : hl_W p l e s m below meth c b D cI cZ cS α A cells slots σ tgt ls rest) : hl_W p l e s m below meth c b D cI cZ cS α A cells slots σ pc ls (.int x :: .int x :: rest) :=
  hl_lift (fun _ _ k => lv_icmp_eq C.1 C.2.1 hdg ht (fun _ => k) (fun h => absurd rfl h)) k
/-- what a call of method a wants of the tables -/
def hl_ok (i a : Nat) (ci n : Nat) : Prop := a < 208 ∧ n = (hb_mt a).2.2.2.2.2.1 ∧ (hb_mt a).2.2.2.2.2.2 = false ∧ (hb_mt a).2.2.2.2.1 = ci ∧ 1 ≤ hb_lv a ∧ hb_lv a ≤ 100 ∧ Cond.methodLink R_law i (hb_mt a).1 ∈ hbTB
set_option maxHeartbeats 4000000 in
theorem hl_call (C : hl_C p s m c b L xs D cI cZ cS α ov A) {i a ci n0 c0 : Nat} {fs : List (Option Nat)} {as stk : List Value} {r : Int32} {σ1 : hbM} (hcl : cells ≤ 600000) (hsl : slots ≤ 7302250) (ho : hl_ok i a ci n0) (hq : ∃ q, hbCl[ci]? = some q ∧ q.1 = hbOwn ci) (hs : hbSH[c0]? = some (0, ci, fs)) (hdg : decode code pc = .ok (.invokevirtual i, 3)) (hn : as.length = n0) (hpl : as.map (hb_val α ov) = as) (hst : stk = as.reverse ++ .ref (α c0) :: rest) (hrs : (rest.map fun v => v.category).sum ≤ 8) (hsz : ls.size = 4) (hev : hb_ev hbSH a (.ref c0 :: as) σ = some (some (.int r), σ1))
    (k : hl_W p l e s m below meth c b D cI cZ cS α A cells slots σ1 (pc + 3) ls (.int r :: rest)) : hl_W p l e s m below meth c b D cI cZ cS α A cells slots σ pc ls stk := by
  obtain ⟨hx, hb, hml, hown, hts, hX, hbl, hbA, ⟨hK, hN1, hN2, hZ, hO, hA⟩, hinj, hAc, hov⟩ := C
  obtain ⟨ha, hn0, hstt, hci, hl1, hl2, hlk⟩ := ho
  obtain ⟨q, hq1, hq2⟩ := hq
  subst hst
  intro H locs hP hS
  have hRet : hb_Ret l hbSH α D cI cZ cS ov A a (.ref c0 :: as) σ (some (.int r)) σ1 := hb_sound hinj hAc hov hb_all208 (hb_lv a + 1) a _ _ _ _ (Nat.lt_succ_self _) hl1 hev
  obtain ⟨hw1, hw2, -, hw4⟩ := hb_mt_words ha
  obtain ⟨hw5, hw6⟩ := hw4 hstt
  obtain ⟨hy1, hy2, hy3, hy4, hy5⟩ := hb_mt_y ha
  have hrecv : ∃ cell : Cell, H[α c0]? = some cell ∧ cell.vm.isStatics = false ∧ s.vm.findClass (hb_mt a).1.cls = some cell.cls := by
    have h1 := va_recv hK hP hq1 (hb_w_at hs)
    rw [hq2] at h1
    rw [hy1, hci]
    exact h1
  have hT : GoodIn hbTB (wsV R_law i (hb_mt a).1.cls (hb_mt a).1 (hb_wsm a)) := by
    intro w hw
    rcases List.mem_append.mp hw with h | h
    · simp only [List.mem_cons, List.not_mem_nil, or_false] at h
      rcases h with rfl | rfl | rfl | rfl
      · exact hb_TB_good _ hlk
      · exact hb_TB_good _ hw5
      · exact hb_TB_good _ hw6
      · exact hb_TB_good _ hw2
    · exact hb_good_wsm ha w h
  have hpre : ∀ U : State, U.heap = H → s.WarmedH U.vm → hb_B hbSH α D cI cZ cS ov A σ U := by
    intro U hU hW
    refine ⟨by rw [hU]; exact hP, va_K.moved hW.alike hK, fun w hw => ?_, ?_⟩
    · obtain ⟨o, i, y, hh, rfl⟩ := hb_nest_form hw
      exact va_Nw.warmM hW (hN2 _ hw)
    · rw [hU]
      exact (hZ.kept hS.2.1).moved hW
  have hR : (hb_rm (hb_lv a)).frames + 1 ≤ room_1.frames ∧ 8 + ((hb_mt a).2.2.1 + 11) + (hb_rm (hb_lv a)).locals ≤ room_1.locals := by
    show hb_lv a + 1 ≤ 2048 ∧ 8 + ((hb_mt a).2.2.1 + 11) + 60 * hb_lv a ≤ 84000
    omega
  have hmap : ((Value.ref c0 :: as).map (hb_val α ov)).toArray = (Value.ref (α c0) :: as).toArray := by
    rw [List.map_cons, hpl]; rfl
  have hrun := va_runV (H := H) (locs := locs) (cells := cells) (slots := slots) (e := e) (R := room_1) (below := below) (meth := meth) (b := α c0) (As := as) (rest := rest) (g := F0 m pc ls (as.reverse ++ .ref (α c0) :: rest))
    ⟨hx, hb, hml, hown, hts⟩ hRet (cwV (hb_mt a).2.2.2.2.2.1 hts hT rfl rfl rfl ⟨rfl, hy3.1, hy3.2, hy4⟩ hR) ⟨hb_blind, hrecv, fun U hU hW => ⟨hmap.symm, hpre U hU hW⟩⟩ rfl (hn.trans hn0) hsz rfl (lv_room hrs) hdg ⟨hcl, hsl⟩
  exact hb_after hrun hS (fun H1 locs1 hP1 hS1 => k H1 locs1 hP1 hS1)
end
