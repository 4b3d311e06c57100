/-! THE ROWS ARE THE BYTES: each row is what the machine decodes, its links are among the words -/
def hb_bs (a : Nat) : Nat := if a < 200 then a else 41
def hb_fty (a b d : Nat) : Bool := match hbCl[a]? with
  | some q => !(q.2.1 b).2.2.2 && (match d with
    | 0 => decide ((q.2.1 b).2.2.1 = "I")
    | _ => decide ((q.2.1 b).2.2.1 = "Z"))
  | none => false
def hb_fla (own i a b : Nat) : Bool := hbFl.any (fun q => q.1 == own && (q.2.1 == i && (q.2.2.1 == a && q.2.2.2.1 == b)))
def hb_csa (own i : Nat) (z : Int32) : Bool := hbCs.any (fun q => q.1 == own && (q.2.1 == i && decide (q.2.2.1 = z)))
def hb_cla (own i : Nat) (w : Int64) : Bool := hbCL.any (fun q => q.1 == own && (q.2.1 == i && decide (q.2.2.1 = w)))
def hb_mla (own i a : Nat) : Bool := hbMl.any (fun q => q.1 == own && (q.2.1 == i && q.2.2.1 == hb_bs a))
def hb_mna (own i a : Nat) : Bool := hbMn.any (fun q => q.1 == own && (q.2.1 == i && q.2.2 == a))
def hb_opok (own : Nat) (ret : Option FieldType) (pc : Nat) (r : hbR) : Bool :=
  match r with
  | (op, len, a, b, d, z, w) => match op with
    | .iconst n => len == 1 && decide (Int32.ofInt n = z)
    | .bipush n => len == 2 && decide ((Int8.ofInt n).toInt32 = z)
    | .sipush n => len == 3 && decide ((Int16.ofInt n).toInt32 = z)
    | .ldc i => len == 2 && (match d with
      | 0 => hb_csa own i z
      | _ => own == 7 && i == 46)
    | .ldc_w i => len == 3 && hb_csa own i z
    | .lconst n => len == 1 && decide (Int64.ofNat (n : Nat) = w)
    | .ldc2_w i => len == 3 && hb_cla own i w
    | .iload_n k => len == 1 && (k : Nat) == a
    | .iload i => len == 2 && i == a
    | .lload_n k => len == 1 && (k : Nat) == a
    | .lload i => len == 2 && i == a
    | .aload_n k => len == 1 && (k : Nat) == a
    | .aload i => len == 2 && i == a
    | .istore_n k => len == 1 && (k : Nat) == a
    | .istore i => len == 2 && i == a
    | .lstore_n k => len == 1 && (k : Nat) == a
    | .lstore i => len == 2 && i == a
    | .astore_n k => len == 1 && (k : Nat) == a
    | .astore i => len == 2 && i == a
    | .iinc i n => len == 3 && (i == a && decide (Int32.ofInt n = z))
    | .getfield i => len == 3 && (match d with
      | 0 => hb_fla own i a b
      | _ => own == 15 && (match b with
        | 0 => i == 9
        | _ => i == 15))
    | .putfield i => len == 3 && (hb_fla own i a b && hb_fty a b d)
    | .getstatic i => len == 3 && (own == 15 && (match b with
        | 0 => i == 38
        | _ => i == 1053))
    | .goto o => len == 3 && decide ((pc : Int) + o = (a : Int))
    | .ifCond _ o => len == 3 && decide ((pc : Int) + o = (a : Int))
    | .if_icmp _ o => len == 3 && decide ((pc : Int) + o = (a : Int))
    | .tableswitch df lo hi offs => decide (0 ≤ (pc : Int) + df) && (offs.toList.all (fun o => decide (0 ≤ (pc : Int) + o)) && (decide (lo + (offs.size : Int) = hi + 1) && (decide (-2147483648 ≤ lo) && decide (hi < 2147483647))))
    | .ireturn => len == 1 && (match d with
      | 0 => decide (ret = some .int)
      | 1 => decide (ret = some .boolean)
      | _ => ret.isSome)
    | .lreturn => len == 1 && decide (ret = some .long)
    | .return_ => len == 1 && decide (ret = none)
    | .invokevirtual i => len == 3 && (decide (a < 208) && (b == (hb_mt a).2.2.2.2.2.1 && (!(hb_mt a).2.2.2.2.2.2 && (hb_mla own i a && (match d with
      | 2 => (hb_mt a).2.2.2.2.1 == 15
      | _ => decide ((hb_mt a).2.2.2.2.1 < 13))))))
    | .invokestatic i => len == 3 && (match d with
      | 3 => own == 11 && i == 119
      | 1 => decide (a < 200) && (b == (hb_mt a).2.2.2.2.2.1 && ((hb_mt a).2.2.2.2.2.2 && hb_mna own i a))
      | _ => decide (a < 208) && (b == (hb_mt a).2.2.2.2.2.1 && ((hb_mt a).2.2.2.2.2.2 && hb_mla own i a)))
    | _ => len == 1
def hb_rok (m pc : Nat) (r : hbR) : Prop := decode (hb_mt m).2.1 pc = .ok (r.1, r.2.1) ∧ hb_opok (hb_mt m).2.2.2.2.1 (hb_mt m).2.2.2.1 pc r = true
def hb_rokb (m pc : Nat) (r : hbR) : Bool := decide (decode (hb_mt m).2.1 pc = .ok (r.1, r.2.1)) && hb_opok (hb_mt m).2.2.2.2.1 (hb_mt m).2.2.2.1 pc r
def hb_allok (m : Nat) : Bool := (hb_code m).all (fun q => hb_rokb m q.1 q.2)
theorem hb_ok_0 : (List.range 9).all (fun k => hb_allok (0 + k)) = true := by decide +kernel
theorem hb_ok_9 : (List.range 9).all (fun k => hb_allok (9 + k)) = true := by decide +kernel
theorem hb_ok_18 : (List.range 9).all (fun k => hb_allok (18 + k)) = true := by decide +kernel
theorem hb_ok_27 : (List.range 9).all (fun k => hb_allok (27 + k)) = true := by decide +kernel
theorem hb_ok_36 : (List.range 9).all (fun k => hb_allok (36 + k)) = true := by decide +kernel
theorem hb_ok_45 : (List.range 9).all (fun k => hb_allok (45 + k)) = true := by decide +kernel
theorem hb_ok_54 : (List.range 9).all (fun k => hb_allok (54 + k)) = true := by decide +kernel
theorem hb_ok_63 : (List.range 9).all (fun k => hb_allok (63 + k)) = true := by decide +kernel
theorem hb_ok_72 : (List.range 9).all (fun k => hb_allok (72 + k)) = true := by decide +kernel
theorem hb_ok_81 : (List.range 9).all (fun k => hb_allok (81 + k)) = true := by decide +kernel
theorem hb_ok_90 : (List.range 9).all (fun k => hb_allok (90 + k)) = true := by decide +kernel
theorem hb_ok_99 : (List.range 9).all (fun k => hb_allok (99 + k)) = true := by decide +kernel
theorem hb_ok_108 : (List.range 9).all (fun k => hb_allok (108 + k)) = true := by decide +kernel
theorem hb_ok_117 : (List.range 9).all (fun k => hb_allok (117 + k)) = true := by decide +kernel
theorem hb_ok_126 : (List.range 9).all (fun k => hb_allok (126 + k)) = true := by decide +kernel
theorem hb_ok_135 : (List.range 9).all (fun k => hb_allok (135 + k)) = true := by decide +kernel
theorem hb_ok_144 : (List.range 9).all (fun k => hb_allok (144 + k)) = true := by decide +kernel
theorem hb_ok_153 : (List.range 9).all (fun k => hb_allok (153 + k)) = true := by decide +kernel
theorem hb_ok_162 : (List.range 9).all (fun k => hb_allok (162 + k)) = true := by decide +kernel
theorem hb_ok_171 : (List.range 9).all (fun k => hb_allok (171 + k)) = true := by decide +kernel
theorem hb_ok_180 : (List.range 9).all (fun k => hb_allok (180 + k)) = true := by decide +kernel
theorem hb_ok_189 : (List.range 9).all (fun k => hb_allok (189 + k)) = true := by decide +kernel
theorem hb_ok_198 : (List.range 10).all (fun k => hb_allok (198 + k)) = true := by decide +kernel
theorem hb_allok_lt {m : Nat} (h : m < 208) : hb_allok m = true := by
  have key : ∀ a n, (List.range n).all (fun k => hb_allok (a + k)) = true → a ≤ m → m < a + n → hb_allok m = true := by
    intro a n h1 h2 h3
    have := List.all_eq_true.mp h1 (m - a) (List.mem_range.mpr (by omega))
    rwa [show a + (m - a) = m by omega] at this
  rcases Nat.lt_or_ge m 9 with h9 | h9
  · exact key 0 9 hb_ok_0 (by omega) (by omega)
  rcases Nat.lt_or_ge m 18 with h18 | h18
  · exact key 9 9 hb_ok_9 (by omega) (by omega)
  rcases Nat.lt_or_ge m 27 with h27 | h27
  · exact key 18 9 hb_ok_18 (by omega) (by omega)
  rcases Nat.lt_or_ge m 36 with h36 | h36
  · exact key 27 9 hb_ok_27 (by omega) (by omega)
  rcases Nat.lt_or_ge m 45 with h45 | h45
  · exact key 36 9 hb_ok_36 (by omega) (by omega)
  rcases Nat.lt_or_ge m 54 with h54 | h54
  · exact key 45 9 hb_ok_45 (by omega) (by omega)
  rcases Nat.lt_or_ge m 63 with h63 | h63
  · exact key 54 9 hb_ok_54 (by omega) (by omega)
  rcases Nat.lt_or_ge m 72 with h72 | h72
  · exact key 63 9 hb_ok_63 (by omega) (by omega)
  rcases Nat.lt_or_ge m 81 with h81 | h81
  · exact key 72 9 hb_ok_72 (by omega) (by omega)
  rcases Nat.lt_or_ge m 90 with h90 | h90
  · exact key 81 9 hb_ok_81 (by omega) (by omega)
  rcases Nat.lt_or_ge m 99 with h99 | h99
  · exact key 90 9 hb_ok_90 (by omega) (by omega)
  rcases Nat.lt_or_ge m 108 with h108 | h108
  · exact key 99 9 hb_ok_99 (by omega) (by omega)
  rcases Nat.lt_or_ge m 117 with h117 | h117
  · exact key 108 9 hb_ok_108 (by omega) (by omega)
  rcases Nat.lt_or_ge m 126 with h126 | h126
  · exact key 117 9 hb_ok_117 (by omega) (by omega)
  rcases Nat.lt_or_ge m 135 with h135 | h135
  · exact key 126 9 hb_ok_126 (by omega) (by omega)
  rcases Nat.lt_or_ge m 144 with h144 | h144
  · exact key 135 9 hb_ok_135 (by omega) (by omega)
  rcases Nat.lt_or_ge m 153 with h153 | h153
  · exact key 144 9 hb_ok_144 (by omega) (by omega)
  rcases Nat.lt_or_ge m 162 with h162 | h162
  · exact key 153 9 hb_ok_153 (by omega) (by omega)
  rcases Nat.lt_or_ge m 171 with h171 | h171
  · exact key 162 9 hb_ok_162 (by omega) (by omega)
  rcases Nat.lt_or_ge m 180 with h180 | h180
  · exact key 171 9 hb_ok_171 (by omega) (by omega)
  rcases Nat.lt_or_ge m 189 with h189 | h189
  · exact key 180 9 hb_ok_180 (by omega) (by omega)
  rcases Nat.lt_or_ge m 198 with h198 | h198
  · exact key 189 9 hb_ok_189 (by omega) (by omega)
  exact key 198 10 hb_ok_198 (by omega) (by omega)
