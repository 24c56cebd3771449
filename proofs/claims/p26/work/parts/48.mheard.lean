/-! the model: holes and what is heard -/
def E1r (f : Int → Int) : Prop := ∀ s, 0 ≤ s → s < 100 → rg (f s)
theorem jor_00 {a : Int} (h : rg a) : jor a 0 = a := jor_0 h
theorem HO_ST {se tr fi la sh ac : Int → Int} {no : Int} (hN : NT tr fi la sh no) : ∀ s, ST (HO se tr fi la sh ac no s) := by
  have pn : ∀ (g : Int → Int) t s, 0 ≤ t → t < 12 → (∀ q, ST (g q)) → ∀ q, ST (pnS t g s q) := by
    intro g t s h1 h2 h q
    unfold pnS uI
    by_cases c : q = s
    · rw [if_pos c]; exact ST_or (h s) (ST_shl h1 h2)
    · rw [if_neg c]; exact h q
  unfold HO
  refine fdA_inv (I := fun _ (g : Int → Int) => ∀ s, ST (g s)) hN.1 (fun _ => ST_0) (fun j g h1 h2 h3 => ?_)
  obtain ⟨a1, a2, a3, a4, a5, -, -⟩ := hN.2.2 j h1 h2
  have e : ∀ s, ST (fdA (rowS se tr fi la sh j) g (fi j) (la j + 1) s) := by
    refine fdA_inv (I := fun _ (g : Int → Int) => ∀ s, ST (g s)) (by omega) h3 (fun s g' k1 k2 k3 => ?_)
    unfold rowS
    by_cases c : hol se fi la sh j s = 0
    · rw [if_pos c]; exact k3
    · rw [if_neg c]; exact pn _ _ _ a1 a2 k3
  unfold notS
  by_cases c : ac j = 0
  · rw [if_pos c]; exact e
  · rw [if_neg c]
    refine pn _ _ _ ?_ ?_ e
    · unfold accT; by_cases d : tr j = 11
      · rw [if_pos d]; omega
      · rw [if_neg d]; omega
    · unfold accT; by_cases d : tr j = 11
      · rw [if_pos d]; omega
      · rw [if_neg d]; omega
theorem EHs_ST {ho : Int → Int} {h s : Int} (hs : 0 ≤ s) (hh : 0 ≤ h) (hst : ∀ q, ST (ho q)) : ST (EHs ho h s) := by
  unfold EHs
  have m := jmax_or (a := 0) (b := s - h)
  exact fdA_inv (I := fun _ v => ST v) (by omega) ST_0 (fun j v _ _ hv => ST_or hv (hst j))
theorem ST.rg {v : Int} (h : ST v) : rg v := ⟨by have := h.1; omega, by have := h.2; omega⟩
/-- the fold of ors from another start -/
theorem or_fold {ho : Int → Int} : ∀ (n : Nat) (a v : Int), rg v → fo (fun a v => jor v (ho a)) n a v = jor v (fo (fun a v => jor v (ho a)) n a 0)
  | 0, a, v, hv => by rw [fo_0, fo_0, jor_0 hv]
  | n + 1, a, v, hv => by
    rw [fo_s, fo_s, or_fold n (a + 1) (jor v (ho a)) (rg_jor _ _), or_fold n (a + 1) (jor 0 (ho a)) (rg_jor _ _), jor_assoc v (ho a), ← jor_assoc v (jor 0 (ho a)), ← jor_assoc v 0, jor_0 hv, jor_assoc]
theorem or_front {ho : Int → Int} {a b : Int} (h : a < b) (hr : rg (ho a)) : fdA (fun a v => jor v (ho a)) 0 a b = jor (fdA (fun a v => jor v (ho a)) 0 (a + 1) b) (ho a) := by
  unfold fdA
  obtain ⟨n, e⟩ : ∃ n : Nat, (b - a).toNat = n + 1 := ⟨(b - a).toNat - 1, by omega⟩
  rw [e, show (b - (a + 1)).toNat = n by omega, fo_s, or_fold n (a + 1) _ (rg_jor _ _), jor_0l hr, jor_comm]
section Q48
variable {fu : Nat} {st se tr fi la sh ac : Int → Int} {no : Int}
end Q48

