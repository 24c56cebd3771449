/-! copy, free goal -/
def FRk (tr fi la : Int → Int) (no a b d : Int) (k : Int) : Prop := (a ≤ fi k ∧ la k ≤ b) → (la k + d < 100 ∧ ¬ ∃ j, 0 ≤ j ∧ j < no ∧ (tr j = tr k ∧ fi j ≤ la k + d ∧ fi k + d ≤ la j))
def FRa (tr fi la : Int → Int) (no a b d : Int) : Prop := ∀ k, 0 ≤ k → k < no → FRk tr fi la no a b d k
theorem wit_mono (fi la : Int → Int) (a b : Int) : ∀ (n : Nat) (i : Int), 0 ≤ i → fdA (sWit fi la a b) 0 0 i ≤ fdA (sWit fi la a b) 0 0 (i + n)
  | 0, i, _ => by simp
  | n + 1, i, h => by
    have := wit_mono fi la a b n i h
    rw [show i + ((n + 1 : Nat) : Int) = i + n + 1 by omega, fdA_s _ _ (by omega)]
    unfold sWit at *
    split <;> omega
theorem wit_in (fi la : Int → Int) (a b : Int) {i : Int} (h : 0 ≤ i) : 0 ≤ fdA (sWit fi la a b) 0 0 i ∧ fdA (sWit fi la a b) 0 0 i ≤ i := by
  have := fdA_cnt (P := fun k => a ≤ fi k ∧ la k ≤ b) h
  exact ⟨this.1, by have := this.2.1; rw [show i - 0 = i by omega] at this; exact this⟩
theorem ins_mem {tr fi la : Int → Int} {p t a b no q : Int} (h0 : 0 ≤ q) (h1 : q < no + 1) (hp : 0 ≤ p) (hp2 : p ≤ no) : (ins tr p t no q = t ∧ ins fi p a no q = a ∧ ins la p b no q = b) ∨ ∃ q', 0 ≤ q' ∧ q' < no ∧ ins tr p t no q = tr q' ∧ ins fi p a no q = fi q' ∧ ins la p b no q = la q' := by
  by_cases c : q < p
  · exact Or.inr ⟨q, h0, by omega, ins_lt _ c, ins_lt _ c, ins_lt _ c⟩
  · by_cases d : q = p
    · subst d; exact Or.inl ⟨ins_eq _, ins_eq _, ins_eq _⟩
    · exact Or.inr ⟨q - 1, by omega, by omega, ins_gt _ (by omega) (by omega), ins_gt _ (by omega) (by omega), ins_gt _ (by omega) (by omega)⟩
section Q60
variable {fu : Nat} {st kpf se tr fi la sh ac hsf u_se u_tr u_fi u_la u_sh u_ac : Int → Int} {no rc ol si u_no : Int} {k_se k_tr k_fi k_la k_sh k_ac : Int → Int → Int} {k_no : Int → Int}
theorem q_isTaken_x {t a b : Int} (hN : NT tr fi la sh no) (ht : -2147483648 ≤ t) (ht2 : t < 2147483648) (ha : -2147483648 ≤ a) (ha2 : a < 2147483648) (hb : -2147483648 ≤ b) (hb2 : b < 2147483648) (hf : 100 ≤ fu) :
    ∃ r, f_X3_isTaken fu tr fi la no t a b = some r ∧ (r = 0 ∨ r = 1) ∧ (r = 1 ↔ ∃ k, 0 ≤ k ∧ k < no ∧ (tr k = t ∧ fi k ≤ b ∧ a ≤ la k)) := by
  by_cases g : ∃ k, 0 ≤ k ∧ k < no ∧ (tr k = t ∧ fi k ≤ b ∧ a ≤ la k)
  · exact ⟨1, q_isTaken_t hN ht ht2 ha ha2 hb hb2 hf g, Or.inr rfl, fun _ => g, fun _ => rfl⟩
  · exact ⟨0, q_isTaken_f hN ht ht2 ha ha2 hb hb2 hf g, Or.inl rfl, fun h => absurd h (by omega), fun h => absurd h g⟩
theorem q_isFreeAt {a b g : Int} (hN : NT tr fi la sh no) (a0 : 0 ≤ a) (a1 : a < 100) (b0 : 0 ≤ b) (b1 : b < 100) (g0 : 0 ≤ g) (g1 : g < 100) (hf : 100 ≤ fu) :
    ∃ r, f_X4_isFreeAt fu tr fi la no a b g = some r ∧ (r = 0 ∨ r = 1) ∧ (r = 1 ↔ FRa tr fi la no a b (g - a)) := by
  have n0 := hN.1
  have n1 := hN.2.1
  unfold f_X4_isFreeAt
  have key : ∀ (n fuel : Nat) (i : Int), 0 ≤ i → i + n = no → n < fuel → (∀ k, 0 ≤ k → k < i → FRk tr fi la no a b (g - a) k) → ∃ r, f_X4_isFreeAt_L3 fu tr fi la no a b g (f_X4_isFreeAt_X97 fu) fuel i = some r ∧ (r = 0 ∨ r = 1) ∧ (r = 1 ↔ FRa tr fi la no a b (g - a)) := by
    intro n
    induction n with
    | zero =>
      intro fuel i h1 h2 h3 h4
      obtain ⟨q, rfl⟩ : ∃ q, fuel = q + 1 := ⟨fuel - 1, by omega⟩
      refine ⟨1, ?_, Or.inr rfl, fun _ k k0 k1 => h4 k k0 (by omega), fun _ => rfl⟩
      show f_X4_isFreeAt_L3_b fu tr fi la no a b g _ _ i = _
      unfold f_X4_isFreeAt_L3_b f_X4_isFreeAt_X97
      rw [q_size, jb_s, jck_of (by omega) (by omega) (by omega) (by omega), if_pos (by omega), jbo_of (by omega)]
    | succ n ih =>
      intro fuel i h1 h2 h3 h4
      obtain ⟨q, rfl⟩ : ∃ q, fuel = q + 1 := ⟨fuel - 1, by omega⟩
      obtain ⟨a1', a2', a3', a4', a5', -, -⟩ := hN.2.2 i h1 (by omega)
      have next : FRk tr fi la no a b (g - a) i → ∃ r, f_X4_isFreeAt_L3 fu tr fi la no a b g (f_X4_isFreeAt_X97 fu) q (i + 1) = some r ∧ (r = 0 ∨ r = 1) ∧ (r = 1 ↔ FRa tr fi la no a b (g - a)) := fun h => ih q (i + 1) (by omega) (by omega) (by omega) (fun k k0 k1 => by
        by_cases d : k = i
        · rw [d]; exact h
        · exact h4 k k0 (by omega))
      have ex : f_X4_isFreeAt_L3 fu tr fi la no a b g (f_X4_isFreeAt_X97 fu) (q + 1) i = f_X4_isFreeAt_L3_b fu tr fi la no a b g (f_X4_isFreeAt_X97 fu) (f_X4_isFreeAt_L3 fu tr fi la no a b g (f_X4_isFreeAt_X97 fu) q) i := rfl
      rw [ex]
      unfold f_X4_isFreeAt_L3_b
      rw [q_size, jb_s, jck_of (by omega) (by omega) (by omega) (by omega), if_neg (by omega), q_liesWithin hN h1 (by omega) (by omega) (by omega) (by omega) (by omega), jb_s]
      by_cases c : a ≤ fi i ∧ la i ≤ b
      · rw [if_pos c, jck_of (by omega) (by omega) (by omega) (by omega), if_neg (show ¬ (1 : Int) = 0 by omega), q_firstOf h1 (by omega) n1, jb_s, q_lastOf h1 (by omega) n1, jb_s, show la i - a + g = la i + (g - a) by omega, show fi i - a + g = fi i + (g - a) by omega, jck_of (by omega) (by omega) (by omega) (by omega)]
        by_cases d : 100 ≤ la i + (g - a)
        · rw [if_pos d, jbo_of (by omega)]
          exact ⟨0, rfl, Or.inl rfl, fun h => absurd h (by omega), fun h => by have := (h i h1 (by omega) c).1; omega⟩
        · obtain ⟨z, ez, z01, zi⟩ := q_isTaken_x (fu := fu) (t := tr i) (a := fi i + (g - a)) (b := la i + (g - a)) hN (by omega) (by omega) (by omega) (by omega) (by omega) (by omega) hf
          rw [if_neg d, q_trackOf h1 (by omega) n1, jb_s, ez, jb_s, jck_of (by omega) (by omega) (by omega) (by omega)]
          by_cases e : z = 0
          · rw [if_pos e]
            exact next (fun _ => ⟨by omega, fun h => by have := zi.mpr h; omega⟩)
          · rw [if_neg e, jbo_of (by omega)]
            exact ⟨0, rfl, Or.inl rfl, fun h => absurd h (by omega), fun h => absurd (zi.mp (by omega)) (h i h1 (by omega) c).2⟩
      · rw [if_neg c, jck_of (by omega) (by omega) (by omega) (by omega), if_pos (show (0 : Int) = 0 from rfl)]
        exact next (fun h => absurd h c)
  exact key no.toNat fu 0 (by omega) (by omega) (by omega) (fun k k0 k1 => by omega)
end Q60

