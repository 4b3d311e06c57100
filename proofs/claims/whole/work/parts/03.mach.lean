/-! THE SMALL MACHINE: a method's bytecode read over named cells. A state: place, locals, stack, memory (cell, index ↦ int). References are numbers of cells. -/
abbrev hbM : Type := Nat → Nat → Int32
abbrev hbS : Type := Nat × Nat × List (Option Nat)
abbrev hbT : Type := Nat × List Value × List Value × hbM
abbrev hbO : Type := Option Value × hbM
abbrev hbX : Type := List Bool × List Value × List Value × hbM
def hb_up (σ : hbM) (c i : Nat) (v : Int32) : hbM := fun c' => if c' = c then upd (σ c') i v else σ c'
def hb_cpy (σ : hbM) (c0 c1 sp dp n : Nat) : hbM := fun c' => if c' = c1 then va_cpy (σ c0) (σ c') sp dp n else σ c'
def hb_in (i : Int32) (n : Nat) : Bool := !(decide (i < 0) || decide (n ≤ i.toNatClampNeg))
def hb_01 (x : Int32) : Bool := x == 0 || x == 1
/-- the text of the words, a byte a place -/
def hbW : List Int32 := [102, 108, 111, 119, 32, 98, 97, 100, 32, 103, 111, 111, 100, 32, 115, 116, 101, 112, 32, 97, 110, 100, 32, 117, 112, 32, 100, 111, 119, 110, 32, 111, 112, 101, 110, 32, 115, 104, 117, 116, 32, 97, 98, 111, 118, 101, 32, 98, 101, 108, 111, 119, 32, 119, 97, 105, 116, 32, 105, 102, 32, 103, 111, 32, 101, 110, 100, 32]
def hb_set : List Value → Nat → Value → Option (List Value)
  | [], _, _ => none
  | _ :: l, 0, v => some (v :: l)
  | x :: l, i + 1, v => match hb_set l i v with
    | none => none
    | some l' => some (x :: l')
def hb_sto (loc : List Value) (i : Nat) (v : Value) : Option (List Value) :=
  match i with
  | 0 => hb_set loc 0 v
  | j + 1 => match loc[j]? with
    | some (.long _) => none
    | some (.double _) => none
    | _ => hb_set loc (j + 1) v
def hb_ii (loc stk : List Value) (σ : hbM) (g : Int32 → Int32 → List Bool) (f : Int32 → Int32 → Value) : Option hbX :=
  match stk with
  | .int y :: .int x :: t => some (g x y, loc, f x y :: t, σ)
  | _ => none
def hb_ll (loc stk : List Value) (σ : hbM) (f : Int64 → Int64 → Value) : Option hbX :=
  match stk with
  | .long y :: .long x :: t => some ([], loc, f x y :: t, σ)
  | _ => none
def hb_li (loc stk : List Value) (σ : hbM) (f : Int64 → Int32 → Value) : Option hbX :=
  match stk with
  | .int y :: .long x :: t => some ([], loc, f x y :: t, σ)
  | _ => none
def hb_i (loc stk : List Value) (σ : hbM) (f : Int32 → Value) : Option hbX :=
  match stk with
  | .int x :: t => some ([], loc, f x :: t, σ)
  | _ => none
def hb_l (loc stk : List Value) (σ : hbM) (f : Int64 → Value) : Option hbX :=
  match stk with
  | .long x :: t => some ([], loc, f x :: t, σ)
  | _ => none
def hb_ldi (loc stk : List Value) (σ : hbM) (a : Nat) : Option hbX :=
  match loc[a]? with
  | some (.int x) => some ([], loc, .int x :: stk, σ)
  | _ => none
def hb_ldl (loc stk : List Value) (σ : hbM) (a : Nat) : Option hbX :=
  match loc[a]? with
  | some (.long x) => some ([], loc, .long x :: stk, σ)
  | _ => none
def hb_lda (loc stk : List Value) (σ : hbM) (a : Nat) : Option hbX :=
  match loc[a]? with
  | some (.ref x) => some ([], loc, .ref x :: stk, σ)
  | _ => none
def hb_put (o : Option (List Value)) (stk : List Value) (σ : hbM) : Option hbX :=
  match o with
  | some l => some ([], l, stk, σ)
  | none => none
def hb_sti (loc stk : List Value) (σ : hbM) (a : Nat) : Option hbX :=
  match stk with
  | .int x :: t => hb_put (hb_sto loc a (.int x)) t σ
  | _ => none
def hb_sta (loc stk : List Value) (σ : hbM) (a : Nat) : Option hbX :=
  match stk with
  | .ref x :: t => hb_put (hb_sto loc a (.ref x)) t σ
  | _ => none
def hb_stl (loc stk : List Value) (σ : hbM) (a : Nat) : Option hbX :=
  match stk with
  | .long x :: t => (match hb_sto loc a (.long x) with
    | some l => hb_put (hb_set l (a + 1) .null) t σ
    | none => none)
  | _ => none
def hb_inc (loc stk : List Value) (σ : hbM) (a : Nat) (z : Int32) : Option hbX :=
  match loc[a]? with
  | some (.int x) => hb_put (hb_sto loc a (.int (x + z))) stk σ
  | _ => none
def hb_get (sh : List hbS) (loc stk : List Value) (σ : hbM) (a b : Nat) : Option hbX :=
  match stk with
  | .ref c :: t => (match sh[c]? with
    | some (0, ci, fs) => if ci = a then (match fs[b]? with
      | some none => some ([], loc, .int (σ c b) :: t, σ)
      | some (some k) => some ([], loc, .ref k :: t, σ)
      | none => none) else none
    | _ => none)
  | _ => none
/-- the text and its bytes: cells 1000, 1001 -/
def hb_getS (loc stk : List Value) (σ : hbM) (b : Nat) : Option hbX :=
  match stk with
  | .ref 1000 :: t => (match b with
    | 0 => some ([], loc, .ref 1001 :: t, σ)
    | _ => some ([], loc, .int 0 :: t, σ))
  | _ => none
def hb_putf (sh : List hbS) (loc stk : List Value) (σ : hbM) (a b d : Nat) : Option hbX :=
  match stk with
  | .int x :: .ref c :: t => (match sh[c]? with
    | some (0, ci, fs) => if ci = a then (match fs[b]? with
      | some none => (match d with
        | 0 => some ([], loc, t, hb_up σ c b x)
        | _ => some ([hb_01 x], loc, t, hb_up σ c b x))
      | _ => none) else none
    | _ => none)
  | _ => none
def hb_ald (sh : List hbS) (k : Nat) (loc stk : List Value) (σ : hbM) : Option hbX :=
  match stk with
  | .int i :: .ref c :: t => (match sh[c]? with
    | some (k', n, _) => if k' = k then some ([hb_in i n], loc, .int (σ c i.toNatClampNeg) :: t, σ) else none
    | _ => none)
  | _ => none
def hb_aldS (loc stk : List Value) (σ : hbM) : Option hbX :=
  match stk with
  | .int i :: .ref 1001 :: t => some ([hb_in i 68], loc, .int (hbW.getD i.toNatClampNeg 0) :: t, σ)
  | _ => none
def hb_ast (sh : List hbS) (k : Nat) (loc stk : List Value) (σ : hbM) (g : Int32 → List Bool) : Option hbX :=
  match stk with
  | .int x :: .int i :: .ref c :: t => (match sh[c]? with
    | some (k', n, _) => if k' = k then some (hb_in i n :: g x, loc, t, hb_up σ c i.toNatClampNeg x) else none
    | _ => none)
  | _ => none
def hb_aaq (sh : List hbS) (loc stk : List Value) (σ : hbM) : Option hbX :=
  match stk with
  | .int i :: .ref c :: t => (match sh[c]? with
    | some (3, n, fs) => (match fs[i.toNatClampNeg]? with
      | some (some k) => some ([hb_in i n], loc, .ref k :: t, σ)
      | _ => none)
    | _ => none)
  | _ => none
def hb_len (sh : List hbS) (loc stk : List Value) (σ : hbM) : Option hbX :=
  match stk with
  | .ref c :: t => (match sh[c]? with
    | some (1, n, _) => some ([], loc, .int (nI n) :: t, σ)
    | _ => none)
  | _ => none
def hb_lenS (loc stk : List Value) (σ : hbM) : Option hbX :=
  match stk with
  | .ref 1001 :: t => some ([], loc, .int 68 :: t, σ)
  | _ => none
def hb_dup (loc stk : List Value) (σ : hbM) : Option hbX :=
  match stk with
  | .int x :: t => some ([], loc, .int x :: .int x :: t, σ)
  | .ref x :: t => some ([], loc, .ref x :: .ref x :: t, σ)
  | _ => none
def hb_dup2 (loc stk : List Value) (σ : hbM) : Option hbX :=
  match stk with
  | .int x :: .ref c :: t => some ([], loc, .int x :: .ref c :: .int x :: .ref c :: t, σ)
  | _ => none
def hb_pop (loc stk : List Value) (σ : hbM) : Option hbX :=
  match stk with
  | .int _ :: t => some ([], loc, t, σ)
  | _ => none
def hb_acp (sh : List hbS) (loc stk : List Value) (σ : hbM) : Option hbX :=
  match stk with
  | [.int n, .int dp, .ref c1, .int sp, .ref c0] => (match sh[c0]?, sh[c1]? with
    | some (1, n0, _), some (1, n1, _) => some ([decide (¬ sp < 0), decide (¬ dp < 0), decide (¬ n < 0), decide (sp.toNatClampNeg + n.toNatClampNeg ≤ n0), decide (dp.toNatClampNeg + n.toNatClampNeg ≤ n1)], loc, [], hb_cpy σ c0 c1 sp.toNatClampNeg dp.toNatClampNeg n.toNatClampNeg)
    | _, _ => none)
  | _ => none
/-- one plain instruction -/
def hb_x (sh : List hbS) (r : hbR) (loc stk : List Value) (σ : hbM) : Option hbX :=
  match r with
  | (op, _, a, b, d, z, w) => match op with
    | .iconst _ => some ([], loc, .int z :: stk, σ)
    | .bipush _ => some ([], loc, .int z :: stk, σ)
    | .sipush _ => some ([], loc, .int z :: stk, σ)
    | .ldc _ => (match d with
      | 0 => some ([], loc, .int z :: stk, σ)
      | _ => some ([], loc, .ref 1000 :: stk, σ))
    | .ldc_w _ => some ([], loc, .int z :: stk, σ)
    | .lconst _ => some ([], loc, .long w :: stk, σ)
    | .ldc2_w _ => some ([], loc, .long w :: stk, σ)
    | .iload_n _ => hb_ldi loc stk σ a
    | .iload _ => hb_ldi loc stk σ a
    | .lload_n _ => hb_ldl loc stk σ a
    | .lload _ => hb_ldl loc stk σ a
    | .aload_n _ => hb_lda loc stk σ a
    | .aload _ => hb_lda loc stk σ a
    | .istore_n _ => hb_sti loc stk σ a
    | .istore _ => hb_sti loc stk σ a
    | .lstore_n _ => hb_stl loc stk σ a
    | .lstore _ => hb_stl loc stk σ a
    | .astore_n _ => hb_sta loc stk σ a
    | .astore _ => hb_sta loc stk σ a
    | .iinc _ _ => hb_inc loc stk σ a z
    | .iadd => hb_ii loc stk σ (fun _ _ => []) (fun x y => .int (x + y))
    | .isub => hb_ii loc stk σ (fun _ _ => []) (fun x y => .int (x - y))
    | .imul => hb_ii loc stk σ (fun _ _ => []) (fun x y => .int (x * y))
    | .iand => hb_ii loc stk σ (fun _ _ => []) (fun x y => .int (x &&& y))
    | .ior => hb_ii loc stk σ (fun _ _ => []) (fun x y => .int (x ||| y))
    | .ixor => hb_ii loc stk σ (fun _ _ => []) (fun x y => .int (x ^^^ y))
    | .ishl => hb_ii loc stk σ (fun _ _ => []) (fun x y => .int (x <<< (y &&& 31)))
    | .ishr => hb_ii loc stk σ (fun _ _ => []) (fun x y => .int (x >>> (y &&& 31)))
    | .iushr => hb_ii loc stk σ (fun _ _ => []) (fun x y => .int (x.toUInt32 >>> (y.toUInt32 &&& Int32.toUInt32 31)).toInt32)
    | .idiv => hb_ii loc stk σ (fun _ y => [decide (¬ y = 0)]) (fun x y => .int (x / y))
    | .irem => hb_ii loc stk σ (fun _ y => [decide (¬ y = 0)]) (fun x y => .int (x - x / y * y))
    | .ineg => hb_i loc stk σ (fun x => .int (-x))
    | .i2l => hb_i loc stk σ (fun x => .long x.toInt64)
    | .i2b => hb_i loc stk σ (fun x => .int x.toInt8.toInt32)
    | .i2s => hb_i loc stk σ (fun x => .int x.toInt16.toInt32)
    | .i2c => hb_i loc stk σ (fun x => .int (x.toUInt32 % 65536).toInt32)
    | .l2i => hb_l loc stk σ (fun x => .int x.toInt32)
    | .ladd => hb_ll loc stk σ (fun x y => .long (x + y))
    | .land => hb_ll loc stk σ (fun x y => .long (x &&& y))
    | .lor => hb_ll loc stk σ (fun x y => .long (x ||| y))
    | .lcmp => hb_ll loc stk σ (fun x y => .int (lg_cmp x y))
    | .lshl => hb_li loc stk σ (fun x y => .long (x <<< (y.toInt64 &&& 63)))
    | .lshr => hb_li loc stk σ (fun x y => .long (x >>> (y.toInt64 &&& 63)))
    | .dup => hb_dup loc stk σ
    | .dup2 => hb_dup2 loc stk σ
    | .pop => hb_pop loc stk σ
    | .getfield _ => (match d with
      | 0 => hb_get sh loc stk σ a b
      | _ => hb_getS loc stk σ b)
    | .putfield _ => hb_putf sh loc stk σ a b d
    | .getstatic _ => (match b with
      | 0 => some ([], loc, .int 1 :: stk, σ)
      | _ => some ([], loc, .retAddr 0 :: stk, σ))
    | .iaload => hb_ald sh 1 loc stk σ
    | .baload => (match d with
      | 0 => hb_ald sh 2 loc stk σ
      | _ => hb_aldS loc stk σ)
    | .aaload => hb_aaq sh loc stk σ
    | .iastore => hb_ast sh 1 loc stk σ (fun _ => [])
    | .bastore => hb_ast sh 2 loc stk σ (fun x => [hb_01 x])
    | .arraylength => (match d with
      | 0 => hb_len sh loc stk σ
      | _ => hb_lenS loc stk σ)
    | .invokestatic _ => (match d with
      | 3 => hb_acp sh loc stk σ
      | _ => none)
    | _ => none
def hb_cmp (k : ClassFile.Cond) (x y : Int32) : Bool := match k with
  | .eq => decide (x = y)
  | .ne => decide (¬ x = y)
  | .lt => decide (x < y)
  | .ge => decide (y ≤ x)
  | .gt => decide (y < x)
  | .le => decide (x ≤ y)
def hb_sw (x z : Int32) (d : Nat) : List Nat → Nat
  | [] => d
  | t :: ts => if x = z then t else hb_sw x (z + 1) d ts
def hb_tgt (pc : Nat) (o : Int) : Nat := ((pc : Int) + o).toNat
/-- the arguments of a call, taken from the stack -/
def hb_arg : Nat → List Value → List Value → Option (List Value × List Value)
  | 0, acc, stk => some (acc, stk)
  | n + 1, acc, v :: stk => hb_arg n (v :: acc) stk
  | _ + 1, _, [] => none
def hb_cat : List Value → Nat
  | [] => 0
  | .long _ :: t => 2 + hb_cat t
  | .double _ :: t => 2 + hb_cat t
  | _ :: t => 1 + hb_cat t
def hb_mt (m : Nat) : hbMt := hbMs.getD m hbm0
def hb_lv (m : Nat) : Nat := hbLs.getD m 0
def hb_code (m : Nat) : List (Nat × hbR) := hbKs.getD m []
def hb_fetch (m pc : Nat) : Option hbR := (hb_code m).lookup pc
/-- the number of the receiver's type -/
def hb_rcv (sh : List hbS) (d : Nat) (v : Value) (ci : Nat) : Bool := match v with
  | .ref c => (match d with
    | 2 => c == 1000
    | _ => (match sh[c]? with
      | some (0, cj, _) => cj == ci
      | _ => false))
  | _ => false
def hb_ret (o : Option hbO) (pc : Nat) (loc rest : List Value) : Option (hbT ⊕ hbO) := match o with
  | none => none
  | some (v, σ) => some (.inl (pc + 3, loc, v.toList ++ rest, σ))
/-- one instruction of method m -/
def hb_1 (sh : List hbS) (cal : Nat → List Value → hbM → Option hbO) (m : Nat) (st : hbT) : Option (hbT ⊕ hbO) :=
  match st with
  | (pc, loc, stk, σ) => match hb_fetch m pc with
    | none => none
    | some r => match r with
      | (op, len, a, b, d, z, w) => match op with
        | .goto _ => some (.inl (a, loc, stk, σ))
        | .ifCond k _ => (match stk with
          | .int x :: t => some (.inl (if hb_cmp k x 0 = true then a else pc + 3, loc, t, σ))
          | _ => none)
        | .if_icmp k _ => (match stk with
          | .int y :: .int x :: t => some (.inl (if hb_cmp k x y = true then a else pc + 3, loc, t, σ))
          | _ => none)
        | .tableswitch df lo _ offs => (match stk with
          | .int x :: t => some (.inl (hb_sw x (Int32.ofInt lo) (hb_tgt pc df) (offs.toList.map (hb_tgt pc)), loc, t, σ))
          | _ => none)
        | .ireturn => (match stk with
          | [.int x] => (match d with
            | 0 => some (.inr (some (.int x), σ))
            | 1 => if hb_01 x = true then some (.inr (some (.int x), σ)) else none
            | _ => if narrow ((hb_mt m).2.2.2.1.getD .int) (.int x) = .int x then some (.inr (some (.int x), σ)) else none)
          | _ => none)
        | .lreturn => (match stk with
          | [.long x] => some (.inr (some (.long x), σ))
          | _ => none)
        | .return_ => (match stk with
          | [] => some (.inr (none, σ))
          | _ => none)
        | .invokevirtual _ => (match hb_arg b [] stk with
          | some (as, v :: rest) => if hb_rcv sh d v (hb_mt a).2.2.2.2.1 = true ∧ hb_cat rest ≤ 8 then hb_ret (cal a (v :: as) σ) pc loc rest else none
          | _ => none)
        | .invokestatic i => (match d with
          | 3 => (match hb_x sh (.invokestatic i, len, a, b, 3, z, w) loc stk σ with
            | none => none
            | some (gs, loc', stk', σ') => if gs.all id = true then some (.inl (pc + len, loc', stk', σ')) else none)
          | _ => (match hb_arg b [] stk with
            | some (as, rest) => if hb_cat rest ≤ 8 then hb_ret (cal a as σ) pc loc rest else none
            | _ => none))
        | op' => (match hb_x sh (op', len, a, b, d, z, w) loc stk σ with
          | none => none
          | some (gs, loc', stk', σ') => if gs.all id = true then some (.inl (pc + len, loc', stk', σ')) else none)
def hb_it (f : hbT → Option (hbT ⊕ hbO)) : Nat → hbT → Option hbO
  | 0, _ => none
  | n + 1, s => match f s with
    | none => none
    | some (.inl s') => hb_it f n s'
    | some (.inr r) => some r
noncomputable def hb_lim (f : hbT → Option (hbT ⊕ hbO)) (s : hbT) : Option hbO :=
  @dite _ (∃ r n, hb_it f n s = some r) (Classical.propDecidable _) (fun h => some (Classical.choose h)) (fun _ => none)
theorem hb_it_mono {f : hbT → Option (hbT ⊕ hbO)} : ∀ (n k : Nat) (s : hbT) (r : hbO), hb_it f n s = some r → hb_it f (n + k) s = some r := by
  intro n
  induction n with
  | zero => intro k s r h; simp [hb_it] at h
  | succ n ih =>
    intro k s r h
    rw [show n + 1 + k = (n + k) + 1 by omega]
    simp only [hb_it] at h ⊢
    revert h
    cases f s with
    | none => intro h; cases h
    | some q => cases q with
      | inl s' => intro h; exact ih k s' r h
      | inr r' => intro h; exact h
theorem hb_lim_iff {f : hbT → Option (hbT ⊕ hbO)} {s : hbT} {r : hbO} : hb_lim f s = some r ↔ ∃ n, hb_it f n s = some r := by
  unfold hb_lim
  by_cases h : ∃ r n, hb_it f n s = some r
  · rw [dif_pos h]
    obtain ⟨n, hn⟩ := Classical.choose_spec h
    constructor
    · intro e
      exact ⟨n, by rw [hn]; exact e⟩
    · rintro ⟨k, hk⟩
      have h1 := hb_it_mono n k s _ hn
      have h2 := hb_it_mono k n s _ hk
      rw [Nat.add_comm] at h2
      rw [← h2]
      exact h1.symm ▸ rfl
  · rw [dif_neg h]
    constructor
    · intro e; cases e
    · rintro ⟨n, hn⟩; exact absurd ⟨r, n, hn⟩ h
theorem hb_lim_l {f : hbT → Option (hbT ⊕ hbO)} {s s' : hbT} (h : f s = some (.inl s')) : hb_lim f s = hb_lim f s' := by
  apply Option.ext
  intro r
  show hb_lim f s = some r ↔ hb_lim f s' = some r
  rw [hb_lim_iff, hb_lim_iff]
  constructor
  · rintro ⟨n, hn⟩
    cases n with
    | zero => simp [hb_it] at hn
    | succ n => exact ⟨n, by simpa [hb_it, h] using hn⟩
  · rintro ⟨n, hn⟩
    exact ⟨n + 1, by simpa [hb_it, h] using hn⟩
theorem hb_lim_r {f : hbT → Option (hbT ⊕ hbO)} {s : hbT} {r : hbO} (h : f s = some (.inr r)) : hb_lim f s = some r :=
  hb_lim_iff.mpr ⟨1, by simp [hb_it, h]⟩
theorem hb_lim_n {f : hbT → Option (hbT ⊕ hbO)} {s : hbT} (h : f s = none) : hb_lim f s = none := by
  cases hc : hb_lim f s with
  | none => rfl
  | some r =>
    obtain ⟨n, hn⟩ := hb_lim_iff.mp hc
    cases n with
    | zero => simp [hb_it] at hn
    | succ n => simp [hb_it, h] at hn
/-- the locals at a method's entry -/
def hb_pad (n : Nat) : List Value := List.replicate n .null
def hb_loc : List Value → List Value
  | [] => []
  | .long x :: t => .long x :: .null :: hb_loc t
  | .double x :: t => .double x :: .null :: hb_loc t
  | v :: t => v :: hb_loc t
def hb_start (m : Nat) (as : List Value) : List Value := hb_loc as ++ hb_pad ((hb_mt m).2.2.1 - (hb_loc as).length)
/-- a method, with calls of methods of a lower level alone -/
noncomputable def hb_evn (sh : List hbS) : Nat → Nat → List Value → hbM → Option hbO
  | 0 => fun _ _ _ => none
  | n + 1 => fun m as σ => if hb_lv m = n then (if (hb_loc as).length ≤ (hb_mt m).2.2.1 then hb_lim (hb_1 sh (hb_evn sh n) m) (0, hb_start m as, [], σ) else none) else hb_evn sh n m as σ
noncomputable def hb_ev (sh : List hbS) (m : Nat) (as : List Value) (σ : hbM) : Option hbO := hb_evn sh (hb_lv m + 1) m as σ
noncomputable def hb_cal (sh : List hbS) (m a : Nat) (as : List Value) (σ : hbM) : Option hbO := if hb_lv a < hb_lv m then hb_ev sh a as σ else none
/-- the machine at a state of method m -/
noncomputable def hb_run (sh : List hbS) (m : Nat) (st : hbT) : Option hbO := hb_lim (hb_1 sh (hb_cal sh m) m) st
theorem hb_evn_hi (sh : List hbS) (m : Nat) : ∀ n, hb_lv m < n → hb_evn sh n m = hb_ev sh m := by
  intro n
  induction n with
  | zero => intro h; omega
  | succ n ih =>
    intro h
    by_cases he : hb_lv m = n
    · funext as σ; unfold hb_ev; rw [he]
    · funext as σ
      show (if hb_lv m = n then _ else hb_evn sh n m as σ) = _
      rw [if_neg he, ih (by omega)]
theorem hb_evn_lo (sh : List hbS) (m : Nat) : ∀ n, n ≤ hb_lv m → hb_evn sh n m = fun _ _ => none := by
  intro n
  induction n with
  | zero => intro _; rfl
  | succ n ih =>
    intro h
    funext as σ
    show (if hb_lv m = n then _ else hb_evn sh n m as σ) = _
    rw [if_neg (by omega), ih (by omega)]
theorem hb_evn_cal (sh : List hbS) (m : Nat) : hb_evn sh (hb_lv m) = hb_cal sh m := by
  funext a as σ
  unfold hb_cal
  by_cases h : hb_lv a < hb_lv m
  · rw [if_pos h, hb_evn_hi sh a _ h]
  · rw [if_neg h, hb_evn_lo sh a _ (by omega)]
theorem hb_ev_if (sh : List hbS) (m : Nat) (as : List Value) (σ : hbM) : hb_ev sh m as σ = if (hb_loc as).length ≤ (hb_mt m).2.2.1 then hb_run sh m (0, hb_start m as, [], σ) else none := by
  unfold hb_ev hb_run
  show (if hb_lv m = hb_lv m then _ else _) = _
  rw [if_pos rfl, hb_evn_cal]
theorem hb_ev_eq (sh : List hbS) (m : Nat) (as : List Value) (σ : hbM) {loc : List Value} (hl : Nat.ble (hb_loc as).length (hb_mt m).2.2.1 = true) (hs : hb_start m as = loc) : hb_ev sh m as σ = hb_run sh m (0, loc, [], σ) := by
  rw [hb_ev_if, if_pos (Nat.le_of_ble_eq_true hl), hs]
def hb_d2 : DecidableEq (Nat × Nat × Int32 × Int64) := inferInstance
def hb_d3 : DecidableEq (Nat × Nat × Nat × Int32 × Int64) := @instDecidableEqProd _ _ inferInstance hb_d2
def hb_d4 : DecidableEq (Nat × Nat × Nat × Nat × Int32 × Int64) := @instDecidableEqProd _ _ inferInstance hb_d3
def hb_d5 : DecidableEq hbR := @instDecidableEqProd _ _ inferInstance hb_d4
/-- row r stands at pc -/
def hb_fe (m pc : Nat) (r : hbR) : Bool := match hb_fetch m pc with
  | some r' => @decide (r' = r) (hb_d5 _ _)
  | none => false
theorem hb_fe_ok {m pc : Nat} {r : hbR} (h : hb_fe m pc r = true) : hb_fetch m pc = some r := by
  unfold hb_fe at h
  revert h
  cases hb_fetch m pc with
  | none => intro h; cases h
  | some r' => intro h; rw [@of_decide_eq_true _ (hb_d5 _ _) h]
