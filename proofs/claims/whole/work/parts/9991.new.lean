/-! MAKING THE CELLS: rows for constructors. A world is a list of cells; what is made comes to its head. -/
def hn_nest : List Cond := [.methodLinkNest "HandBook$Works" 11 ⟨"HandBook$Lines", "<init>", "()V"⟩ "HandBook", .methodLinkNest "HandBook" 24 ⟨"HandBook$Steps", "<init>", "()V"⟩ "HandBook", .methodLinkNest "HandBook" 40 ⟨"HandBook$Tape", "<init>", "()V"⟩ "HandBook", .methodLinkNest "HandBook" 54 ⟨"HandBook$Sheet", "<init>", "()V"⟩ "HandBook", .methodLinkNest "HandBook" 57 ⟨"HandBook$Rows", "<init>", "()V"⟩ "HandBook"]
def hn_G (D : va_G) (cI cZ cS : ClassId) (α : Nat → Nat) (ov : Value) (A : Nat → Prop) (U : State) : Prop := va_K D hbCl (hb_tys cI cZ cS) U ∧ (∀ w ∈ hn_nest, va_Nw w U) ∧ (∀ w ∈ hb_nest, va_Nw w U) ∧ hb_Z α ov A U U.heap ∧ va_AO "HandBook$Sheet" U ∧ ∀ q, U.heap.size ≤ q → A q
def hn_C (p : Program) (s : State) (m : MethodId) (args : Array Value) (c : Code) (cc : ByteArray) (nL : Nat) (own : String) (D : va_G) (cI cZ cS : ClassId) (α : Nat → Nat) (ov : Value) (A : Nat → Prop) : Prop :=
  p.tables.exec = Jvm.exec ∧ c.code = cc ∧ c.maxLocals = nL ∧ s.vm.findClass own = some m.cls ∧ (∀ w ∈ hbTB, w.before args s = true) ∧ hn_G D cI cZ cS α ov A s
def hn_W (p : Program) (l : Launch) (e : Env) (R : Room) (s : State) (m : MethodId) (args : Array Value) (below : List Frame) (meth : Method) (c : Code) (D : va_G) (A : Nat → Prop) (Q : State → Prop) (cells slots : Nat) (ws : va_W) (pc : Nat) (ls : Array Slot) (stk : List Value) : Prop :=
  ∀ (H : Heap) (locs : List Loc), va_P D hbCl ws H → va_D A ws → va_S A s.heap H locs → W p l e R s m args below meth c H locs cells slots Q (F0 m pc ls stk)
def hn_B (D : va_G) (cI cZ cS : ClassId) (α : Nat → Nat) (ov : Value) (A : Nat → Prop) (ws : va_W) (U : State) : Prop := va_P D hbCl ws U.heap ∧ va_D A ws ∧ hn_G D cI cZ cS α ov A U
def hn_Q (D : va_G) (A : Nat → Prop) (Pw : va_W → Prop) : Array Value → State → Outcome → State → Prop := fun _ st oc t => oc = .returned none ∧ (∃ ws', Pw ws' ∧ va_P D hbCl ws' t.heap ∧ va_D A ws') ∧ va_F A st t
/-- a constructor: over these cells it returns, and leaves cells of which Pw holds -/
def hn_New (l : Launch) (D : va_G) (cI cZ cS : ClassId) (α : Nat → Nat) (ov : Value) (A : Nat → Prop) (y : MethodName) (cc : ByteArray) (nL : Nat) (rm : Room) (av : List Value) (ws : va_W) (Pw : va_W → Prop) (mc ms : Nat) : Prop :=
  Met l y (Cond.code y cc nL none :: hbTB) rm (va_Pc av (hn_B D cI cZ cS α ov A ws)) (hn_Q D A Pw) mc ms A
theorem hn_Phd {D : va_G} {cl : List vw_C} {ws : va_W} {x : Nat × va_E} {H : Heap} (h : va_P D cl (ws ++ [x]) H) : va_P D cl (x :: ws) H := by
  intro k q hk
  cases k with
  | zero => cases hk; exact h ws.length x (by simp)
  | succ k =>
    have hk' : ws[k]? = some q := hk
    exact h k q (by rw [List.getElem?_append_left (List.getElem?_eq_some_iff.mp hk').1]; exact hk')
theorem hn_Dhd {A : Nat → Prop} {ws : va_W} {x : Nat × va_E} (h : va_D A (ws ++ [x])) : va_D A (x :: ws) := by
  have key : ∀ (k : Nat) (q : Nat × va_E), (x :: ws)[k]? = some q → ∃ j, (ws ++ [x])[j]? = some q ∧ ((k = 0 ∧ j = ws.length) ∨ (k = j + 1 ∧ j < ws.length)) := by
    intro k q hk
    cases k with
    | zero => cases hk; exact ⟨ws.length, by simp, Or.inl ⟨rfl, rfl⟩⟩
    | succ k =>
      have hk' : ws[k]? = some q := hk
      have hl := (List.getElem?_eq_some_iff.mp hk').1
      exact ⟨k, by rw [List.getElem?_append_left hl]; exact hk', Or.inr ⟨rfl, hl⟩⟩
  refine ⟨fun i j y z hi hj hyz => ?_, fun k q hk => ?_⟩
  · obtain ⟨a, h1, h2⟩ := key i y hi
    obtain ⟨b, h3, h4⟩ := key j z hj
    have := h.1 a b y z h1 h3 hyz
    omega
  · obtain ⟨a, h1, -⟩ := key k q hk
    exact h.2 a q h1
theorem hn_fm {β γ : Type} {f : β → Option γ} {is : List β} {l : List γ} (h : is.map f = l.map some) : is.filterMap f = l := by
  have h1 := congrArg (List.filterMap id) h
  rw [List.filterMap_map, List.filterMap_map] at h1
  simpa using h1
theorem hn_arrI : Cond.arrayClass .int ∈ hbTB := by decide +kernel
theorem hn_arrZ : Cond.arrayClass .boolean ∈ hbTB := by decide +kernel
section
variable {p : Program} {l : Launch} {e : Env} {R : Room} {s : State} {m : MethodId} {args : Array Value} {below : List Frame} {meth : Method} {c : Code} {cells slots : Nat} {Q : State → Prop}
variable {cc : ByteArray} {nL pc : Nat} {ls : Array Slot} {rest : List Value} {D : va_G} {cI cZ cS : ClassId} {α : Nat → Nat} {ov : Value} {A : Nat → Prop} {ws : va_W} {own : String}
theorem hn_lift {pc' : Nat} {ls' : Array Slot} {st st' : List Value} (h : ∀ (H : Heap) (locs : List Loc), W p l e R s m args below meth c H locs cells slots Q (F0 m pc' ls' st') → W p l e R s m args below meth c H locs cells slots Q (F0 m pc ls st)) (k : hn_W p l e R s m args below meth c D A Q cells slots ws pc' ls' st') : hn_W p l e R s m args below meth c D A Q cells slots ws pc ls st :=
  fun H locs hP hD hS => h H locs (k H locs hP hD hS)
theorem hn_lift2 {P : Array Slot → Prop} {pc' : Nat} {st st' : List Value} (h : ∀ (H : Heap) (locs : List Loc), (∀ ls', P ls' → W p l e R s m args below meth c H locs cells slots Q (F0 m pc' ls' st')) → W p l e R s m args below meth c H locs cells slots Q (F0 m pc ls st)) (k : ∀ ls', P ls' → hn_W p l e R s m args below meth c D A Q cells slots ws pc' ls' st') : hn_W p l e R s m args below meth c D A Q cells slots ws pc ls st :=
  fun H locs hP hD hS => h H locs (fun ls' hp => k ls' hp H locs hP hD hS)
theorem hn_ald (C : hn_C p s m args c cc nL own D cI cZ cS α ov A) {n : Fin 4} {i x : Nat} (hdg : decode cc pc = .ok (.aload_n n, 1)) (hi : (n : Nat) = i) (hl : ls[i]? = some (.val (.ref x))) (k : hn_W p l e R s m args below meth c D A Q cells slots ws (pc + 1) ls (.ref x :: rest)) : hn_W p l e R s m args below meth c D A Q cells slots ws pc ls rest :=
  hn_lift (fun _ _ k => lv_aload_n C.1 C.2.1 hdg hi hl k) k
theorem hn_ico (C : hn_C p s m args c cc nL own D cI cZ cS α ov A) {n : Int} {v : Int32} (hdg : decode cc pc = .ok (.iconst n, 1)) (hv : Int32.ofInt n = v) (k : hn_W p l e R s m args below meth c D A Q cells slots ws (pc + 1) ls (.int v :: rest)) : hn_W p l e R s m args below meth c D A Q cells slots ws pc ls rest :=
  hn_lift (fun _ _ k => lv_iconst C.1 C.2.1 hdg hv k) k
theorem hn_bip (C : hn_C p s m args c cc nL own D cI cZ cS α ov A) {n : Int} {v : Int32} (hdg : decode cc pc = .ok (.bipush n, 2)) (hv : (Int8.ofInt n).toInt32 = v) (k : hn_W p l e R s m args below meth c D A Q cells slots ws (pc + 2) ls (.int v :: rest)) : hn_W p l e R s m args below meth c D A Q cells slots ws pc ls rest :=
  hn_lift (fun _ _ k => lv_bipush C.1 C.2.1 hdg hv k) k
theorem hn_sip (C : hn_C p s m args c cc nL own D cI cZ cS α ov A) {n : Int} {v : Int32} (hdg : decode cc pc = .ok (.sipush n, 3)) (hv : (Int16.ofInt n).toInt32 = v) (k : hn_W p l e R s m args below meth c D A Q cells slots ws (pc + 3) ls (.int v :: rest)) : hn_W p l e R s m args below meth c D A Q cells slots ws pc ls rest :=
  hn_lift (fun _ _ k => lv_sipush C.1 C.2.1 hdg hv k) k
theorem hn_ldc (C : hn_C p s m args c cc nL own D cI cZ cS α ov A) {i : Nat} {v : Int32} (hw : Cond.constant own i v ∈ hbTB) (hdg : decode cc pc = .ok (.ldc i, 2)) (k : hn_W p l e R s m args below meth c D A Q cells slots ws (pc + 2) ls (.int v :: rest)) : hn_W p l e R s m args below meth c D A Q cells slots ws pc ls rest :=
  hn_lift (fun _ _ k => lv_ldc C.1 C.2.1 C.2.2.2.1 (C.2.2.2.2.1 _ hw) hdg k) k
theorem hn_dup (C : hn_C p s m args c cc nL own D cI cZ cS α ov A) {a : Nat} (hdg : decode cc pc = .ok (.dup, 1)) (k : hn_W p l e R s m args below meth c D A Q cells slots ws (pc + 1) ls (.ref a :: .ref a :: rest)) : hn_W p l e R s m args below meth c D A Q cells slots ws pc ls (.ref a :: rest) :=
  hn_lift (fun _ _ k => lv_dup C.1 C.2.1 hdg rfl k) k
theorem hn_obj (C : hn_C p s m args c cc nL own D cI cZ cS α ov A) {a i : Nat} (hw : Cond.methodLink own i Lib.objectInit ∈ hbTB) (hw2 : Cond.instanceMethod Lib.objectInit ∈ hbTB) (hw3 : Cond.code Lib.objectInit ⟨#[0xb1]⟩ 1 none ∈ hbTB) (hsz : ls.size = nL) (hdg : decode cc pc = .ok (.invokespecial i, 3)) (hf : 1 ≤ R.frames) (hlo : 20 ≤ R.locals) (k : hn_W p l e R s m args below meth c D A Q cells slots ws (pc + 3) ls []) : hn_W p l e R s m args below meth c D A Q cells slots ws pc ls [.ref a] :=
  hn_lift (fun _ _ k => W.objInit C.1 C.2.1 C.2.2.2.1 (C.2.2.2.2.1 _ hw) (C.2.2.2.2.1 _ hw2) (C.2.2.2.2.1 _ hw3) (g := F0 m pc ls [.ref a]) rfl (by rw [C.2.2.1]; exact hsz) rfl hdg hf (by show 2 * 0 + 0 + 12 ≤ R.locals; omega) k) k
theorem hn_newi (C : hn_C p s m args c cc nL own D cI cZ cS α ov A) {n : Int32} {N c' s' : Nat} (hdg : decode cc pc = .ok (.newarray .int, 2)) (hN : n.toNatClampNeg = N) (hn : ¬ n < 0) (h4 : N * 4 ≤ 536870912) (hc : cells + 1 = c') (hs : slots + N = s') (hR : c' ≤ R.cells ∧ s' ≤ R.slots) (k : ∀ q : Nat, hn_W p l e R s m args below meth c D A Q c' s' ((q, .inl (cI, N, .inl (fun _ => 0))) :: ws) (pc + 2) ls (.ref q :: rest)) : hn_W p l e R s m args below meth c D A Q cells slots ws pc ls (.int n :: rest) := by
  obtain ⟨hx, hb, hml, hown, hts, hK, hN1, hN2, hZ, hO, hA⟩ := C
  subst hc; subst hs
  intro H locs hP hD hS
  refine va_newa (atype := .int) (a0 := (N, .inl (fun _ => 0))) hx hb (hts _ hn_arrI) rfl hK hP hD hS hA (fun cA => rfl) hn hN h4 hR.1 hR.2 hdg (fun q cA H1 hK1 hP1 hD1 hS1 => ?_)
  have e1 : cA = cI := Option.some.inj ((va_nm_int (hK1.2 3 _ rfl).2).symm.trans (va_nm_int (hK.2 0 _ rfl).2))
  subst e1
  exact k q H1 locs (hn_Phd hP1) (hn_Dhd hD1) hS1
theorem hn_newz (C : hn_C p s m args c cc nL own D cI cZ cS α ov A) {n : Int32} {N c' s' : Nat} (hdg : decode cc pc = .ok (.newarray .boolean, 2)) (hN : n.toNatClampNeg = N) (hn : ¬ n < 0) (h4 : N * 1 ≤ 536870912) (hc : cells + 1 = c') (hs : slots + N = s') (hR : c' ≤ R.cells ∧ s' ≤ R.slots) (k : ∀ q : Nat, hn_W p l e R s m args below meth c D A Q c' s' ((q, .inl (cZ, N, .inl (fun _ => 0))) :: ws) (pc + 2) ls (.ref q :: rest)) : hn_W p l e R s m args below meth c D A Q cells slots ws pc ls (.int n :: rest) := by
  obtain ⟨hx, hb, hml, hown, hts, hK, hN1, hN2, hZ, hO, hA⟩ := C
  subst hc; subst hs
  intro H locs hP hD hS
  refine va_newa (atype := .boolean) (a0 := (N, .inl (fun _ => 0))) hx hb (hts _ hn_arrZ) rfl hK hP hD hS hA (fun cA => rfl) hn hN h4 hR.1 hR.2 hdg (fun q cA H1 hK1 hP1 hD1 hS1 => ?_)
  have e1 : cA = cZ := Option.some.inj ((va_nm_boolean (hK1.2 3 _ rfl).2).symm.trans (va_nm_boolean (hK.2 1 _ rfl).2))
  subst e1
  exact k q H1 locs (hn_Phd hP1) (hn_Dhd hD1) hS1
theorem hn_newq (C : hn_C p s m args c cc nL own D cI cZ cS α ov A) {n : Int32} {N c' s' i : Nat} (hw : Cond.classLink own i "HandBook$Sheet" ∈ hbTB) (hdg : decode cc pc = .ok (.anewarray i, 3)) (hN : n.toNatClampNeg = N) (hn : ¬ n < 0) (h4 : N * 4 ≤ 536870912) (hc : cells + 1 = c') (hs : slots + N = s') (hR : c' ≤ R.cells ∧ s' ≤ R.slots) (k : ∀ q : Nat, hn_W p l e R s m args below meth c D A Q c' s' ((q, .inl (cS, N, .inr (.inr (.inr (.inr (fun _ => none)))))) :: ws) (pc + 3) ls (.ref q :: rest)) : hn_W p l e R s m args below meth c D A Q cells slots ws pc ls (.int n :: rest) := by
  obtain ⟨hx, hb, hml, hown, hts, hK, hN1, hN2, hZ, hO, hA⟩ := C
  subst hc; subst hs
  intro H locs hP hD hS
  refine va_newq hx hb hown (hts _ hw) hO hK hP hD hS hA hn hN h4 hR.1 hR.2 hdg (fun q cA H1 hK1 hP1 hD1 hS1 => ?_)
  obtain ⟨-, -, -, -, -, f1⟩ := (hK1.2 3 _ rfl).2
  obtain ⟨-, -, -, -, -, f2⟩ := (hK.2 2 _ rfl).2
  have e1 : cA = cS := Option.some.inj (f1.symm.trans f2)
  subst e1
  exact k q H1 locs (hn_Phd hP1) (hn_Dhd hD1) hS1
theorem hn_new (C : hn_C p s m args c cc nL own D cI cZ cS α ov A) {ci i c' s' : Nat} {r : vw_C} (hc : hbCl[ci]? = some r) (hw1 : Cond.classLink own i r.1 ∈ hbTB) (hw2 : Cond.instantiable r.1 r.2.2 ∈ hbTB) (hw3 : Cond.initialized r.1 ∈ hbTB) {fs : List Value} (ty : Nat → FieldType) (hty : ∀ k, k < r.2.2 → parseFieldDescriptor (r.2.1 k).2.2.1 = some (ty k)) (hfs : ∀ j, j < r.2.2 → defaultValue (ty j) = vp_V fs j) (hdg : decode cc pc = .ok (.new i, 3)) (hcc : cells + 1 = c') (hs : slots + r.2.2 = s') (hR : c' ≤ R.cells ∧ s' ≤ R.slots) (k : ∀ q : Nat, hn_W p l e R s m args below meth c D A Q c' s' ((q, .inr (ci, fs)) :: ws) (pc + 3) ls (.ref q :: rest)) : hn_W p l e R s m args below meth c D A Q cells slots ws pc ls rest := by
  obtain ⟨hx, hb, hml, hown, hts, hK, hN1, hN2, hZ, hO, hA⟩ := C
  subst hcc; subst hs
  obtain ⟨Cn, T, N⟩ := r
  intro H locs hP hD hS
  exact va_new (ci := ci) (fs := fs) (C := Cn) (T := T) (N := N) hx hb hts (hb_cl_in hc) ty hty hown (hts _ hw1) (hts _ hw2) (hts _ hw3) hK hP hD hS hA hc hfs hR.1 hR.2 hdg (fun q H1 hP1 hD1 hS1 => k q H1 locs (hn_Phd hP1) (hn_Dhd hD1) hS1)
theorem hn_putF {o : Nat} (C : hn_C p s m args c cc nL (hbOwn o) D cI cZ cS α ov A) (hin : meth.name = "<init>") (q0 ci kf : Nat) {i a : Nat} {r : vw_C} {fs : List Value} {v : Value} {ty : FieldType} {ws' : va_W} (hfl : hb_fla o i ci kf = true) (hr : hbCl[ci]? = some r) (hfin : (r.2.1 kf).2.2.2 = true) (hdecl : (r.2.1 kf).1 = hbOwn o) (hd : parseFieldDescriptor (r.2.1 kf).2.2.1 = some ty) (hn : narrow ty v = v) (hfit : fits ty v = true) (he : ws[q0]? = some (a, .inr (ci, fs))) (hlen : kf < fs.length) (hws : ws.set q0 (a, .inr (ci, fs.set kf v)) = ws') (hdg : decode cc pc = .ok (.putfield i, 3)) (k : hn_W p l e R s m args below meth c D A Q cells slots ws' (pc + 3) ls rest) : hn_W p l e R s m args below meth c D A Q cells slots ws pc ls (v :: .ref a :: rest) := by
  obtain ⟨hx, hb, hml, hown, hts, hK, hN1, hN2, hZ, hO, hA⟩ := C
  subst hws
  obtain ⟨r', hr', hk, hlk⟩ := hb_fla_w hfl
  cases hr.symm.trans hr'
  obtain ⟨⟨ty0, hty0⟩, hnm⟩ := hb_cl_ty hr
  obtain ⟨Cn, T, N⟩ := r
  intro H locs hP hD hS
  exact va_putF (D := D) (ci := ci) (v := v) (ty := ty) (C := Cn) (T := T) (N := N) (ref := (T kf).1) hx hb hts (hb_cl_in hr) ty0 hty0 hnm hown hK hP hD hS q0 he hr kf hk (hts _ hlk) (fun _ h => h) hfin hin hdecl hd hn hfit hlen hdg (fun H1 locs1 hP1 hD1 hS1 => k H1 locs1 hP1 hD1 hS1)
theorem hn_get {o : Nat} (C : hn_C p s m args c cc nL (hbOwn o) D cI cZ cS α ov A) (q0 ci kf : Nat) {i a : Nat} {fs : List Value} {v : Value} (hfl : hb_fla o i ci kf = true) (he : ws[q0]? = some (a, .inr (ci, fs))) (hv : fs[kf]? = some v) (hdg : decode cc pc = .ok (.getfield i, 3)) (k : hn_W p l e R s m args below meth c D A Q cells slots ws (pc + 3) ls (v :: rest)) : hn_W p l e R s m args below meth c D A Q cells slots ws pc ls (.ref a :: rest) := by
  obtain ⟨hx, hb, hml, hown, hts, hK, hN1, hN2, hZ, hO, hA⟩ := C
  obtain ⟨r, hr, hk, hlk⟩ := hb_fla_w hfl
  obtain ⟨Cn, T, N⟩ := r
  intro H locs hP hD hS
  exact va_get (D := D) (ci := ci) (v := v) (C := Cn) (T := T) (N := N) (ref := (T kf).1) hx hb hts (hb_cl_in hr) hown hK hP q0 he hr kf hk (hts _ hlk) (fun _ h => h) hv hdg (k H locs hP hD hS)
theorem hn_ias (C : hn_C p s m args c cc nL own D cI cZ cS α ov A) (q0 : Nat) {a n : Nat} {f : Nat → Int32} {i x : Int32} {ws' : va_W} (he : ws[q0]? = some (a, .inl (cI, n, .inl f))) (hin : vp_in i n) (hws : ws.set q0 (a, .inl (cI, n, .inl (upd f i.toNatClampNeg x))) = ws') (hdg : decode cc pc = .ok (.iastore, 1)) (k : hn_W p l e R s m args below meth c D A Q cells slots ws' (pc + 1) ls rest) : hn_W p l e R s m args below meth c D A Q cells slots ws pc ls (.int x :: .int i :: .ref a :: rest) := by
  obtain ⟨hx, hb, hml, hown, hts, hK, hN1, hN2, hZ, hO, hA⟩ := C
  subst hws
  intro H locs hP hD hS
  exact va_iast hx hb hK hP hD hS q0 0 he rfl hin hdg (fun H1 locs1 hP1 hD1 hS1 => k H1 locs1 hP1 hD1 hS1)
theorem hn_aas (C : hn_C p s m args c cc nL own D cI cZ cS α ov A) (q0 qk : Nat) {a n v : Nat} {vs : List Value} {f : Nat → Option Nat} {i : Int32} {ws' : va_W} (he : ws[q0]? = some (a, .inl (cS, n, .inr (.inr (.inr (.inr f)))))) (hv : ws[qk]? = some (v, .inr (5, vs))) (hin : vp_in i n) (hws : ws.set q0 (a, .inl (cS, n, .inr (.inr (.inr (.inr (va_up f i.toNatClampNeg (some v))))))) = ws') (hdg : decode cc pc = .ok (.aastore, 1)) (k : hn_W p l e R s m args below meth c D A Q cells slots ws' (pc + 1) ls rest) : hn_W p l e R s m args below meth c D A Q cells slots ws pc ls (.ref v :: .int i :: .ref a :: rest) := by
  obtain ⟨hx, hb, hml, hown, hts, hK, hN1, hN2, hZ, hO, hA⟩ := C
  subst hws
  intro H locs hP hD hS
  exact va_astq (r := (RX5, TX5, 4)) hx hb hK hP hD hS q0 2 qk 5 he rfl hv rfl hin hdg (fun H1 locs1 hP1 hD1 hS1 => k H1 locs1 hP1 hD1 hS1)
theorem hn_ret {Pw : va_W → Prop} (C : hn_C p s m args c cc nL own D cI cZ cS α ov A) (hr : meth.sig.returnType = none) (hlocks : meth.locks = false) (hdg : decode cc pc = .ok (.return_, 1)) (hw : Pw ws) : hn_W p l e R s m args below meth c D A (MQ below (hn_Q D A Pw) args s cells slots A) cells slots ws pc ls [] := by
  intro H locs hP hD hS
  exact W.vret C.1 C.2.1 hr (fun t ht hW => ⟨rfl, ⟨ws, hw, by rw [ht]; exact hP, hD⟩, hS.F ht⟩) hS.2.2 hdg hlocks
theorem hn_GB (C : hn_C p s m args c cc nL own D cI cZ cS α ov A) {H : Heap} {locs : List Loc} (hP : va_P D hbCl ws H) (hD : va_D A ws) (hS : va_S A s.heap H locs) (U : State) (hU : U.heap = H) (hW : s.WarmedH U.vm) : hn_B D cI cZ cS α ov A ws U := by
  obtain ⟨hx, hb, hml, hown, hts, hK, hN1, hN2, hZ, hO, hA⟩ := C
  refine ⟨by rw [hU]; exact hP, hD, va_K.moved hW.alike hK, fun w hw => ?_, fun w hw => ?_, ?_, va_AO.moved hW.alike hO, fun q hq => hA q (Nat.le_trans hS.1 (by rw [hU] at hq; exact hq))⟩
  · have h := hN1 w hw
    simp only [hn_nest, List.mem_cons, List.not_mem_nil, or_false] at hw
    rcases hw with rfl | rfl | rfl | rfl | rfl <;> exact va_Nw.warmM hW h
  · obtain ⟨o, i, y, hh, rfl⟩ := hb_nest_form hw
    exact va_Nw.warmM hW (hN2 _ hw)
  · rw [hU]
    exact (hZ.kept hS.2.1).moved hW
theorem hn_blind {av : List Value} : FrameBlind (va_Pc av (hn_B D cI cZ cS α ov A ws)) := by
  intro a U g mk q
  obtain ⟨q0, qP, qD, qK, qN1, qN2, qZ, qO, qA⟩ := q
  refine ⟨q0, qP, qD, va_K.moved (u := U) (U := U.calling g mk a) (Vm.Alike.refl U.vm) qK, fun w hw => ?_, fun w hw => ?_, ?_, va_AO.moved (u := U) (U := U.calling g mk a) (Vm.Alike.refl U.vm) qO, qA⟩
  · have h := qN1 w hw
    simp only [hn_nest, List.mem_cons, List.not_mem_nil, or_false] at hw
    rcases hw with rfl | rfl | rfl | rfl | rfl <;> exact va_Nw.same rfl (u := U) (U := U.calling g mk a) rfl h
  · obtain ⟨o, i, y, hh, rfl⟩ := hb_nest_form hw
    exact va_Nw.same rfl (u := U) (U := U.calling g mk a) rfl (qN2 _ hw)
  · exact ⟨vk_R.same (u := U) (U := U.calling g mk a) rfl qZ.1, vk_S.moved (u := U) (U := U.calling g mk a) (Vm.Alike.refl U.vm) qZ.2.1, va_Z.moved (u := U) (U := U.calling g mk a) (Vm.Alike.refl U.vm) qZ.2.2.1, va_Z.moved (u := U) (U := U.calling g mk a) (Vm.Alike.refl U.vm) qZ.2.2.2⟩
theorem hn_after {H : Heap} {locs : List Loc} {st0 : List Value} {a : Array Value} {Pw : va_W → Prop} {mc ms c' s' : Nat} (hr : va_Run p l e R s m args below meth c H locs cells slots mc ms (F0 m pc ls st0) rest (hn_Q D A Pw a) A) (hS : va_S A s.heap H locs) (hc : cells + mc = c') (hs : slots + ms = s')
    (k : ∀ ws', Pw ws' → hn_W p l e R s m args below meth c D A Q c' s' ws' (pc + 3) ls rest) : W p l e R s m args below meth c H locs cells slots Q (F0 m pc ls st0) := by
  subst hc; subst hs
  intro T hT X
  obtain ⟨v, st₀, t, T', L, h0, X', hL, e1, e2, ⟨hv, ⟨ws', hp, hP1, hD1⟩, hz, hk⟩, st⟩ := hr T hT X
  cases hv
  rw [h0] at hz hk
  obtain ⟨t2, a1, b1⟩ := k ws' hp T'.heap (locs ++ L) (by rw [e1]; exact hP1) hD1
    ⟨Nat.le_trans hS.1 (by rw [e1]; exact hz), fun q h1 h2 => by rw [e1, hk q (Nat.lt_of_lt_of_le h1 hS.1) h2]; exact hS.2.1 q h1 h2, fun q hq => by
      rcases List.mem_append.mp hq with h | h
      · exact hS.2.2 q h
      · exact hL q h⟩ T' rfl X'
  exact ⟨t2, st t2 a1, b1⟩
theorem hn_call (C : hn_C p s m args c cc nL own D cI cZ cS α ov A) {i n b nL' mc ms c' s' : Nat} {y : MethodName} {cc' : ByteArray} {rm : Room} {As stk : List Value} {Pw : va_W → Prop} (hM : hn_New l D cI cZ cS α ov A y cc' nL' rm (.ref b :: As) ws Pw mc ms) (hcd : Cond.code y cc' nL' none ∈ hbTB) (hin : Cond.initialized y.cls ∈ hbTB) (him : Cond.instanceMethod y ∈ hbTB) (hlk : Cond.methodLink own i y ∈ hbTB) (hy : y.name = "<init>") (hd : y.cls ≠ "java/lang/invoke/MethodHandle" ∧ y.cls ≠ "java/lang/invoke/VarHandle" ∧ (parseMethodDescriptor y.desc).map (fun d => d.parameters.length) = some n) (hAs : As.length = n) (hst : stk = As.reverse ++ .ref b :: rest) (hrs : (rest.map fun v => v.category).sum ≤ 8) (hsz : ls.size = nL) (hrc : rm.cells = mc ∧ rm.slots = ms) (hR : rm.frames + 1 ≤ R.frames ∧ 8 + (nL' + 11) + rm.locals ≤ R.locals) (hdg : decode cc pc = .ok (.invokespecial i, 3)) (hc : cells + mc = c') (hs : slots + ms = s') (hR2 : c' ≤ R.cells ∧ s' ≤ R.slots)
    (k : ∀ ws', Pw ws' → hn_W p l e R s m args below meth c D A Q c' s' ws' (pc + 3) ls rest) : hn_W p l e R s m args below meth c D A Q cells slots ws pc ls stk := by
  intro H locs hP hD hS
  have hpre := fun U => hn_GB C hP hD hS U
  obtain ⟨hx, hb, hml, hown, hts, hG⟩ := C
  subst hst
  have hgd : GoodIn hbTB (Cond.code y cc' nL' none :: hbTB) := fun w hw => by
    rcases List.mem_cons.mp hw with rfl | h
    · exact hb_TB_good _ hcd
    · exact hb_TB_good _ h
  exact hn_after (va_runI (g := F0 m pc ls (As.reverse ++ .ref b :: rest)) ⟨hx, hb, hml, hown, hts⟩ hM (cwI n hts hgd rfl hrc.1 hrc.2 (hts _ hin) (hts _ hlk) (hts _ him) hy hd hR) ⟨hn_blind, fun U hU hW => ⟨rfl, hpre U hU hW⟩⟩ rfl hAs hsz rfl (lv_room hrs) hdg ⟨by rw [hc]; exact hR2.1, by rw [hs]; exact hR2.2⟩) hS hc hs k
theorem hn_callN (C : hn_C p s m args c cc nL own D cI cZ cS α ov A) {i n b nL' mc ms c' s' : Nat} {y : MethodName} {cc' : ByteArray} {rm : Room} {As stk : List Value} {Pw : va_W → Prop} (hM : hn_New l D cI cZ cS α ov A y cc' nL' rm (.ref b :: As) ws Pw mc ms) (hcd : Cond.code y cc' nL' none ∈ hbTB) (hin : Cond.initialized y.cls ∈ hbTB) (him : Cond.instanceMethod y ∈ hbTB) (hlk : Cond.methodLinkNest own i y "HandBook" ∈ hn_nest) (hy : y.name = "<init>") (hd : y.cls ≠ "java/lang/invoke/MethodHandle" ∧ y.cls ≠ "java/lang/invoke/VarHandle" ∧ (parseMethodDescriptor y.desc).map (fun d => d.parameters.length) = some n) (hAs : As.length = n) (hst : stk = As.reverse ++ .ref b :: rest) (hrs : (rest.map fun v => v.category).sum ≤ 8) (hsz : ls.size = nL) (hrc : rm.cells = mc ∧ rm.slots = ms) (hR : rm.frames + 1 ≤ R.frames ∧ 8 + (nL' + 11) + rm.locals ≤ R.locals) (hdg : decode cc pc = .ok (.invokespecial i, 3)) (hc : cells + mc = c') (hs : slots + ms = s') (hR2 : c' ≤ R.cells ∧ s' ≤ R.slots)
    (k : ∀ ws', Pw ws' → hn_W p l e R s m args below meth c D A Q c' s' ws' (pc + 3) ls rest) : hn_W p l e R s m args below meth c D A Q cells slots ws pc ls stk := by
  intro H locs hP hD hS
  have hpre := fun U => hn_GB C hP hD hS U
  obtain ⟨hx, hb, hml, hown, hts, hK, hN1, hG⟩ := C
  subst hst
  have hgd : GoodIn hbTB (Cond.code y cc' nL' none :: hbTB) := fun w hw => by
    rcases List.mem_cons.mp hw with rfl | h
    · exact hb_TB_good _ hcd
    · exact hb_TB_good _ h
  exact hn_after (va_runIN (g := F0 m pc ls (As.reverse ++ .ref b :: rest)) ⟨hx, hb, hml, hown, hts⟩ hM ⟨va_cnB n hts hgd rfl hrc.1 hrc.2 (hN1 _ hlk) (hts _ hin) hd hR, hy, hts _ him⟩ ⟨hn_blind, fun U hU hW => ⟨rfl, hpre U hU hW⟩⟩ rfl hAs hsz rfl (lv_room hrs) hdg ⟨by rw [hc]; exact hR2.1, by rw [hs]; exact hR2.2⟩) hS hc hs k
theorem hn_ige_f (C : hn_C p s m args c cc nL own D cI cZ cS α ov A) {x y : Int32} {off : Int} {tgt : Nat} (hdg : decode cc pc = .ok (.if_icmp .ge off, 3)) (ht : (pc : Int) + off = (tgt : Int)) (h : ¬ y ≤ x) (k : hn_W p l e R s m args below meth c D A Q cells slots ws (pc + 3) ls rest) : hn_W p l e R s m args below meth c D A Q cells slots ws pc ls (.int y :: .int x :: rest) :=
  hn_lift (fun _ _ k => lv_icmp_ge C.1 C.2.1 hdg ht (fun h1 => absurd h1 h) (fun _ => k)) k
theorem hn_ige_t (C : hn_C p s m args c cc nL own D cI cZ cS α ov A) {x y : Int32} {off : Int} {tgt : Nat} (hdg : decode cc pc = .ok (.if_icmp .ge off, 3)) (ht : (pc : Int) + off = (tgt : Int)) (h : y ≤ x) (k : hn_W p l e R s m args below meth c D A Q cells slots ws tgt ls rest) : hn_W p l e R s m args below meth c D A Q cells slots ws pc ls (.int y :: .int x :: rest) :=
  hn_lift (fun _ _ k => lv_icmp_ge C.1 C.2.1 hdg ht (fun _ => k) (fun h1 => absurd h h1)) k
theorem hn_perm {ws' : va_W} (is : List Nat) (hn : va_nd is = true) (hs : is.map (fun i => ws[i]?) = ws'.map some) (k : hn_W p l e R s m args below meth c D A Q cells slots ws' pc ls rest) : hn_W p l e R s m args below meth c D A Q cells slots ws pc ls rest :=
  fun H locs hP hD hS => k H locs (hP.sub is (hn_fm hs)) (hD.sub is hn hs) hS
theorem hn_swap {F F' wr : va_W} (is : List Nat) (hn : va_nd is = true) (hs : is.map (fun i => F[i]?) = F'.map some) (k : hn_W p l e R s m args below meth c D A Q cells slots (wr ++ F') pc ls rest) : hn_W p l e R s m args below meth c D A Q cells slots (F ++ wr) pc ls rest := by
  intro H locs hP hD hS
  have l1 : ∀ (i : Nat) (q : Nat × va_E), F[i]? = some q → (F ++ wr)[i]? = some q := fun i q h => by rw [List.getElem?_append_left (List.getElem?_eq_some_iff.mp h).1]; exact h
  have l2 : ∀ (i : Nat) (q : Nat × va_E), wr[i]? = some q → (F ++ wr)[F.length + i]? = some q := fun i q h => by rw [List.getElem?_append_right (by omega), Nat.add_sub_cancel_left]; exact h
  have hPF : va_P D hbCl F H := fun i q h => hP i q (l1 i q h)
  have hPr : va_P D hbCl wr H := fun i q h => hP _ q (l2 i q h)
  have hDF : va_D A F := ⟨fun i j x y h1 h2 h3 => hD.1 i j x y (l1 i x h1) (l1 j y h2) h3, fun i q h => hD.2 i q (l1 i q h)⟩
  have hDr : va_D A wr := ⟨fun i j x y h1 h2 h3 => by have := hD.1 _ _ x y (l2 i x h1) (l2 j y h2) h3; omega, fun i q h => hD.2 _ q (l2 i q h)⟩
  refine k H locs (va_P.app hPr (hPF.sub is (hn_fm hs))) (va_D.app hDr (hDF.sub is hn hs) (fun i j x y h1 h2 h3 => ?_)) hS
  have h4 : (is.map (fun i => F[i]?))[j]? = some (some y) := by rw [hs, List.getElem?_map, h2]; rfl
  rw [List.getElem?_map] at h4
  cases hi : is[j]? with
  | none => rw [hi] at h4; cases h4
  | some a =>
    rw [hi] at h4
    have h5 : F[a]? = some y := Option.some.inj h4
    have h6 := hD.1 _ _ x y (l2 i x h1) (l1 a y h5) h3
    have h7 := (List.getElem?_eq_some_iff.mp h5).1
    omega
end
theorem hn_start {l : Launch} {D : va_G} {cI cZ cS : ClassId} {α : Nat → Nat} {ov : Value} {A : Nat → Prop} {y : MethodName} {cc : ByteArray} {nL : Nat} {rm : Room} {av : List Value} {ws : va_W} {Pw : va_W → Prop} {mc ms : Nat} (o : Nat) (hy : plainName y.cls = true) (hcls : y.cls = hbOwn o) (hnm : y.name = "<init>") (hL : (lg_sl av).length ≤ nL)
    (body : ∀ (p : Program) (e : Env) (s : State) (m : MethodId) (args : Array Value) (below : List Frame) (meth : Method) (c : Code) (ls : Array Slot), hn_C p s m args c cc nL (hbOwn o) D cI cZ cS α ov A → meth.name = "<init>" → meth.sig.returnType = none → meth.locks = false → lv_has ls nL (lv_args 0 av) → hn_W p l e rm s m args below meth c D A (MQ below (hn_Q D A Pw) args s mc ms A) 0 0 ws 0 ls []) : hn_New l D cI cZ cS α ov A y cc nL rm av ws Pw mc ms := by
  refine Met.ofW (cc := cc) (maxL := nL) (ret := none) hy rfl ?_
  intro p e s m args below meth c s₁ B hml hv
  obtain ⟨rfl, hP, hD, hG⟩ := hv
  have hts : ∀ w ∈ hbTB, w.before av.toArray s = true := fun w hw => atoms_spec (ws := Cond.code y cc nL none :: hbTB) B.pre w (List.mem_cons_of_mem _ hw)
  have hown : s.vm.findClass (hbOwn o) = some m.cls := by rw [← hcls]; exact findClass_of_methodNamed B.named
  have hin : meth.name = "<init>" := by rw [← hnm]; exact (name_of_methodNamed B.named B.method).1
  rw [lg_entry_eq]
  exact body p e s m av.toArray below meth c _ ⟨B.exec, B.bytes, hml, hown, hts, hG⟩ hin B.returns B.notSynchronized (lv_entry av hL) s.heap [] hP hD va_S.rf
