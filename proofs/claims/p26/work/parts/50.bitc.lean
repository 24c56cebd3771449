/-! counting bits -/
def bitN (v : Int) : Int := fdA (fun t m => m + jand (jshr v t) 1) 0 0 12
def holN (g : Int → Int) : Int := fdA (fun s m => m + bitN (g s)) 0 0 100
theorem bc_all : ∀ a, a < 64 → ∀ b, b < 64 → f_J6_bitCount_0f7a4 0 (((64 * a + b : Nat) : Int)) = some (bitN ((64 * a + b : Nat) : Int)) := by decide +kernel
theorem q_bitCount {fu : Nat} {v : Int} (h : ST v) : f_J6_bitCount_0f7a4 fu v = some (bitN v) := by
  obtain ⟨m, rfl⟩ : ∃ m : Nat, v = m := ⟨v.toNat, (Int.toNat_of_nonneg h.1).symm⟩
  have h2 := h.2
  have := bc_all (m / 64) (by omega) (m % 64) (by omega)
  rw [show 64 * (m / 64) + m % 64 = m by omega] at this
  exact this
