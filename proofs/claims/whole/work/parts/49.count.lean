/-! count -/
def bcF (x : Nat) : Nat :=
  (((((x - ((x / 2) &&& 21845)) &&& 13107) + (((x - ((x / 2) &&& 21845)) / 4) &&& 13107)) + ((((x - ((x / 2) &&& 21845)) &&& 13107) + (((x - ((x / 2) &&& 21845)) / 4) &&& 13107)) / 16)) &&& 3855)
def bcS (x : Nat) : Nat := x % 2 + x / 2 % 2 + x / 4 % 2 + x / 8 % 2 + x / 16 % 2 + x / 32 % 2 + x / 64 % 2 + x / 128 % 2
theorem bc8 : ∀ l, l < 256 → bcF l = bcS l := by decide +kernel
theorem bc16 : ∀ h, h < 256 → ∀ l, l < 256 → Nat.beq (bcF (256 * h + l)) (256 * bcS h + bcS l) = true := by decide +kernel
