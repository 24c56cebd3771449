/-! cut -/
def cF (x1 x2 v : Int) : Int := if x1 ≤ v then (if x1 + x2 ≤ v then v - x2 else x1) else v
def cL (x1 x2 v : Int) : Int := if x1 ≤ v then (if x1 + x2 ≤ v then v - x2 else x1 - 1) else v
def cN (fi la : Int → Int) (x1 x2 : Int) (i : Int) : Int := fdA (fun k (m : Int) => if cF x1 x2 (fi k) ≤ cL x1 x2 (la k) then m + 1 else m) 0 0 i
theorem cN_s (fi la : Int → Int) (x1 x2 : Int) {i : Int} (h : 0 ≤ i) : cN fi la x1 x2 (i + 1) = if cF x1 x2 (fi i) ≤ cL x1 x2 (la i) then cN fi la x1 x2 i + 1 else cN fi la x1 x2 i := by
  unfold cN
  rw [fdA_s _ _ h]
theorem cN_0 (fi la : Int → Int) (x1 x2 : Int) : cN fi la x1 x2 0 = 0 := by unfold cN; rw [fdA_0]
theorem cN_mono (fi la : Int → Int) (x1 x2 : Int) : ∀ (n : Nat) (i : Int), 0 ≤ i → cN fi la x1 x2 i ≤ cN fi la x1 x2 (i + n) ∧ cN fi la x1 x2 (i + n) ≤ cN fi la x1 x2 i + n
  | 0, i, _ => by simp
  | n + 1, i, h => by
    have := cN_mono fi la x1 x2 n i h
    rw [show i + ((n + 1 : Nat) : Int) = i + n + 1 by omega, cN_s _ _ _ _ (by omega)]
    split <;> omega
theorem cN_le (fi la : Int → Int) (x1 x2 : Int) {i j : Int} (h : 0 ≤ i) (h2 : i ≤ j) : cN fi la x1 x2 i ≤ cN fi la x1 x2 j ∧ cN fi la x1 x2 j ≤ cN fi la x1 x2 i + (j - i) := by
  have := cN_mono fi la x1 x2 (j - i).toNat i h
  rw [show i + ((j - i).toNat : Int) = j by omega] at this
  omega
section Q62
variable {fu : Nat} {st se tr fi la sh ac hsf mv u_se u_tr u_fi u_la u_sh u_ac : Int → Int} {no rc ol si u_no : Int} {k_se k_tr k_fi k_la k_sh k_ac : Int → Int → Int} {k_no : Int → Int}
theorem cFL_in {f l x1 x2 : Int} (h0 : 0 ≤ f) (h1 : f ≤ l) (h2 : l < 100) (h3 : 0 ≤ x1) (h4 : 1 ≤ x2) : 0 ≤ cF x1 x2 f ∧ cF x1 x2 f < 100 ∧ -1 ≤ cL x1 x2 l ∧ cL x1 x2 l < 100 ∧ (cF x1 x2 f ≤ cL x1 x2 l ↔ ¬ (x1 ≤ f ∧ l < x1 + x2)) := by
  unfold cF cL
  refine ⟨?_, ?_, ?_, ?_, ?_⟩
  · split <;> (try split) <;> omega
  · split <;> (try split) <;> omega
  · split <;> (try split) <;> omega
  · split <;> (try split) <;> omega
  · repeat' split
    all_goals omega
theorem cLF {l f x1 x2 : Int} (h : l < f) (h4 : 1 ≤ x2) : cL x1 x2 l < cF x1 x2 f := by
  unfold cF cL
  by_cases a : x1 ≤ f <;> by_cases b : x1 + x2 ≤ f <;> by_cases c : x1 ≤ l <;> by_cases d : x1 + x2 ≤ l <;> simp only [a, b, c, d, if_true, if_false] <;> omega
end Q62

