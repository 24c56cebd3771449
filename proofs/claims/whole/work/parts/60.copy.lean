/-! copy, free goal -/
def FRk (tr fi la : Int → Int) (no a b d : Int) (k : Int) : Prop := (a ≤ fi k ∧ la k ≤ b) → (la k + d < 100 ∧ ¬ ∃ j, 0 ≤ j ∧ j < no ∧ (tr j = tr k ∧ fi j ≤ la k + d ∧ fi k + d ≤ la j))
def FRa (tr fi la : Int → Int) (no a b d : Int) : Prop := ∀ k, 0 ≤ k → k < no → FRk tr fi la no a b d k
theorem wit_mono (fi la : Int → Int) (a b : Int) : ∀ (n : Nat) (i : Int), 0 ≤ i → fdA (sWit fi la a b) 0 0 i ≤ fdA (sWit fi la a b) 0 0 (i + n)
  | 0, i, _ => by simp
  | n + 1, i, h => by
    have := wit_mono fi la a b n i h
    rw [show i + ((n + 1 : Nat) : Int) = i + n + 1 by omega, fdA_s _ _ (by omega)]
    unfold sWit at *
    split <;> omega
theorem wit_in (fi la : Int → Int) (a b : Int) {i : Int} (h : 0 ≤ i) : 0 ≤ fdA (sWit fi la a b) 0 0 i ∧ fdA (sWit fi la a b) 0 0 i ≤ i := by
  have := fdA_cnt (P := fun k => a ≤ fi k ∧ la k ≤ b) h
  exact ⟨this.1, by have := this.2.1; rw [show i - 0 = i by omega] at this; exact this⟩
theorem ins_mem {tr fi la : Int → Int} {p t a b no q : Int} (h0 : 0 ≤ q) (h1 : q < no + 1) (hp : 0 ≤ p) (hp2 : p ≤ no) : (ins tr p t no q = t ∧ ins fi p a no q = a ∧ ins la p b no q = b) ∨ ∃ q', 0 ≤ q' ∧ q' < no ∧ ins tr p t no q = tr q' ∧ ins fi p a no q = fi q' ∧ ins la p b no q = la q' := by
  by_cases c : q < p
  · exact Or.inr ⟨q, h0, by omega, ins_lt _ c, ins_lt _ c, ins_lt _ c⟩
  · by_cases d : q = p
    · subst d; exact Or.inl ⟨ins_eq _, ins_eq _, ins_eq _⟩
    · exact Or.inr ⟨q - 1, by omega, by omega, ins_gt _ (by omega) (by omega), ins_gt _ (by omega) (by omega), ins_gt _ (by omega) (by omega)⟩
section Q60
variable {fu : Nat} {st kpf se tr fi la sh ac hsf u_se u_tr u_fi u_la u_sh u_ac : Int → Int} {no rc ol si u_no : Int} {k_se k_tr k_fi k_la k_sh k_ac : Int → Int → Int} {k_no : Int → Int}
theorem q_isTaken_x {t a b : Int} (hN : NT tr fi la sh no) (ht : -2147483648 ≤ t) (ht2 : t < 2147483648) (ha : -2147483648 ≤ a) (ha2 : a < 2147483648) (hb : -2147483648 ≤ b) (hb2 : b < 2147483648) (hf : 100 ≤ fu) :
    ∃ r, f_X3_isTaken fu tr fi la no t a b = some r ∧ (r = 0 ∨ r = 1) ∧ (r = 1 ↔ ∃ k, 0 ≤ k ∧ k < no ∧ (tr k = t ∧ fi k ≤ b ∧ a ≤ la k)) := by
  by_cases g : ∃ k, 0 ≤ k ∧ k < no ∧ (tr k = t ∧ fi k ≤ b ∧ a ≤ la k)
  · exact ⟨1, q_isTaken_t hN ht ht2 ha ha2 hb hb2 hf g, Or.inr rfl, fun _ => g, fun _ => rfl⟩
  · exact ⟨0, q_isTaken_f hN ht ht2 ha ha2 hb hb2 hf g, Or.inl rfl, fun h => absurd h (by omega), fun h => absurd h g⟩
theorem q_isFreeAt {a b g : Int} (hN : NT tr fi la sh no) (a0 : 0 ≤ a) (a1 : a < 100) (b0 : 0 ≤ b) (b1 : b < 100) (g0 : 0 ≤ g) (g1 : g < 100) (hf : 100 ≤ fu) :
    ∃ r, f_X4_isFreeAt fu tr fi la no a b g = some r ∧ (r = 0 ∨ r = 1) ∧ (r = 1 ↔ FRa tr fi la no a b (g - a)) := by
  have n0 := hN.1
  have n1 := hN.2.1
  unfold f_X4_isFreeAt
  have key : ∀ (n fuel : Nat) (i : Int), 0 ≤ i → i + n = no → n < fuel → (∀ k, 0 ≤ k → k < i → FRk tr fi la no a b (g - a) k) → ∃ r, f_X4_isFreeAt_L3 fu tr fi la no a b g (f_X4_isFreeAt_X97 fu) fuel i = some r ∧ (r = 0 ∨ r = 1) ∧ (r = 1 ↔ FRa tr fi la no a b (g - a)) := by
    intro n
    induction n with
    | zero =>
      intro fuel i h1 h2 h3 h4
      obtain ⟨q, rfl⟩ : ∃ q, fuel = q + 1 := ⟨fuel - 1, by omega⟩
      refine ⟨1, ?_, Or.inr rfl, fun _ k k0 k1 => h4 k k0 (by omega), fun _ => rfl⟩
      show f_X4_isFreeAt_L3_b fu tr fi la no a b g _ _ i = _
      unfold f_X4_isFreeAt_L3_b f_X4_isFreeAt_X97
      rw [q_size, jb_s, jck_of (by omega) (by omega) (by omega) (by omega), if_pos (by omega), jbo_of (by omega)]
    | succ n ih =>
      intro fuel i h1 h2 h3 h4
      obtain ⟨q, rfl⟩ : ∃ q, fuel = q + 1 := ⟨fuel - 1, by omega⟩
      obtain ⟨a1', a2', a3', a4', a5', -, -⟩ := hN.2.2 i h1 (by omega)
      have next : FRk tr fi la no a b (g - a) i → ∃ r, f_X4_isFreeAt_L3 fu tr fi la no a b g (f_X4_isFreeAt_X97 fu) q (i + 1) = some r ∧ (r = 0 ∨ r = 1) ∧ (r = 1 ↔ FRa tr fi la no a b (g - a)) := fun h => ih q (i + 1) (by omega) (by omega) (by omega) (fun k k0 k1 => by
        by_cases d : k = i
        · rw [d]; exact h
        · exact h4 k k0 (by omega))
      have ex : f_X4_isFreeAt_L3 fu tr fi la no a b g (f_X4_isFreeAt_X97 fu) (q + 1) i = f_X4_isFreeAt_L3_b fu tr fi la no a b g (f_X4_isFreeAt_X97 fu) (f_X4_isFreeAt_L3 fu tr fi la no a b g (f_X4_isFreeAt_X97 fu) q) i := rfl
      rw [ex]
      unfold f_X4_isFreeAt_L3_b
      rw [q_size, jb_s, jck_of (by omega) (by omega) (by omega) (by omega), if_neg (by omega), q_liesWithin hN h1 (by omega) (by omega) (by omega) (by omega) (by omega), jb_s]
      by_cases c : a ≤ fi i ∧ la i ≤ b
      · rw [if_pos c, jck_of (by omega) (by omega) (by omega) (by omega), if_neg (show ¬ (1 : Int) = 0 by omega), q_firstOf h1 (by omega) n1, jb_s, q_lastOf h1 (by omega) n1, jb_s, show la i - a + g = la i + (g - a) by omega, show fi i - a + g = fi i + (g - a) by omega, jck_of (by omega) (by omega) (by omega) (by omega)]
        by_cases d : 100 ≤ la i + (g - a)
        · rw [if_pos d, jbo_of (by omega)]
          exact ⟨0, rfl, Or.inl rfl, fun h => absurd h (by omega), fun h => by have := (h i h1 (by omega) c).1; omega⟩
        · obtain ⟨z, ez, z01, zi⟩ := q_isTaken_x (fu := fu) (t := tr i) (a := fi i + (g - a)) (b := la i + (g - a)) hN (by omega) (by omega) (by omega) (by omega) (by omega) (by omega) hf
          rw [if_neg d, q_trackOf h1 (by omega) n1, jb_s, ez, jb_s, jck_of (by omega) (by omega) (by omega) (by omega)]
          by_cases e : z = 0
          · rw [if_pos e]
            exact next (fun _ => ⟨by omega, fun h => by have := zi.mpr h; omega⟩)
          · rw [if_neg e, jbo_of (by omega)]
            exact ⟨0, rfl, Or.inl rfl, fun h => absurd h (by omega), fun h => absurd (zi.mp (by omega)) (h i h1 (by omega) c).2⟩
      · rw [if_neg c, jck_of (by omega) (by omega) (by omega) (by omega), if_pos (show (0 : Int) = 0 from rfl)]
        exact next (fun h => absurd h c)
  exact key no.toNat fu 0 (by omega) (by omega) (by omega) (fun k k0 k1 => by omega)
theorem m_isBetween {k a b : Int} (hR : RLm st se tr fi la sh ac no) (hN : NT tr fi la sh no) (hk : 0 ≤ k) (hk2 : k < no) (a0 : -2147483648 ≤ a) (a1 : a < 2147483648) (b0 : -2147483648 ≤ b) (b1 : b < 2147483648) : f_X5_isBetween fu st k a b = some (if a ≤ fi k ∧ la k ≤ b then 1 else 0) := by
  have n1 := hN.2.1
  obtain ⟨a1', a2', a3', a4', a5', -, -⟩ := hN.2.2 k hk hk2
  unfold f_X5_isBetween
  rw [m_p1 hR hk hk2 n1, jb_s, jck_of (by omega) (by omega) (by omega) (by omega)]
  by_cases c : fi k < a
  · rw [if_pos c, if_neg (by omega), jbo_of (by omega)]
  · rw [if_neg c, m_p2 hR hk hk2 n1, jb_s, jck_of (by omega) (by omega) (by omega) (by omega)]
    by_cases d : b < la k
    · rw [if_pos d, if_neg (by omega), jbo_of (by omega)]
    · rw [if_neg d, if_pos (by omega), jbo_of (by omega)]
theorem m_betweenMany {a b : Int} (hR : RLm st se tr fi la sh ac no) (hN : NT tr fi la sh no) (a0 : -2147483648 ≤ a) (a1 : a < 2147483648) (b0 : -2147483648 ≤ b) (b1 : b < 2147483648) (hf : 100 ≤ fu) : f_X5_betweenMany fu st a b = some (fdA (sWit fi la a b) 0 0 no) := by
  have n0 := hN.1
  have n1 := hN.2.1
  unfold f_X5_betweenMany
  obtain ⟨p, e, i1, rfl⟩ := loop_upI (L := fun q (s : Int) i => f_X5_betweenMany_L5 fu st a b (f_X5_betweenMany_X41 fu) q s i) (f_X5_betweenMany_X41 fu)
    (fun i p => 0 ≤ i ∧ p = fdA (sWit fi la a b) 0 0 i) no
    (fun q s hI => by
      show f_X5_betweenMany_L5_b fu st a b _ _ s no = _
      unfold f_X5_betweenMany_L5_b
      rw [hR.n4, jix_of (by omega) (by omega), jck_of (by omega) (by omega) (by omega) (by omega), if_pos (by omega)])
    (fun q s i hi hI => by
      obtain ⟨i1, rfl⟩ := hI
      refine ⟨_, ?_, by omega, rfl⟩
      show f_X5_betweenMany_L5_b fu st a b _ _ _ i = _
      unfold f_X5_betweenMany_L5_b
      rw [hR.n4, jix_of (by omega) (by omega), jck_of (by omega) (by omega) (by omega) (by omega), if_neg (by omega), m_isBetween hR hN i1 hi a0 a1 b0 b1, jb_s, fdA_s _ _ i1]
      unfold sWit
      by_cases c : a ≤ fi i ∧ la i ≤ b
      · rw [if_pos c, if_pos c, jck_of (by omega) (by omega) (by omega) (by omega), if_neg (by omega)]
      · rw [if_neg c, if_neg c, jck_of (by omega) (by omega) (by omega) (by omega), if_pos (by omega), Int.add_zero])
    no.toNat fu 0 0 (by omega) (by omega) ⟨by omega, by rw [fdA_0]⟩
  exact e
theorem m_whyNot {a b g : Int} (hR : RLm st se tr fi la sh ac no) (hN : NT tr fi la sh no) (a0 : 0 ≤ a) (a1 : a < 100) (b0 : 0 ≤ b) (b1 : b < 100) (g0 : 0 ≤ g) (g1 : g < 100) (hf : 100 ≤ fu) :
    ∃ r, f_X5_whyNotCopied fu st a b g = some r ∧ (40 < no + fdA (sWit fi la a b) 0 0 no → r = -4) ∧ (no + fdA (sWit fi la a b) 0 0 no ≤ 40 → (r = 0 ∧ FRa tr fi la no a b (g - a)) ∨ (r = -5 ∧ ¬ FRa tr fi la no a b (g - a))) := by
  have n0 := hN.1
  have n1 := hN.2.1
  have hw := wit_in fi la a b n0
  unfold f_X5_whyNotCopied
  rw [jix_of (by omega) (by omega), hR.n4, m_betweenMany hR hN (by omega) (by omega) (by omega) (by omega) hf, jb_s, jck_of (by omega) (by omega) (by omega) (by omega)]
  by_cases c : no + fdA (sWit fi la a b) 0 0 no ≤ 40
  · rw [if_pos c]
    obtain ⟨p, e, i1, i2, i3⟩ := loop_upI (L := fun q (s : Int) i => f_X5_whyNotCopied_L27 fu st a b g (f_X5_whyNotCopied_X125 fu) q s i) (f_X5_whyNotCopied_X125 fu)
      (fun i p => 0 ≤ i ∧ (p = 0 ∨ p = 1) ∧ (p = 1 ↔ ∀ k, 0 ≤ k → k < i → FRk tr fi la no a b (g - a) k)) no
      (fun q s hI => by
        show f_X5_whyNotCopied_L27_b fu st a b g _ _ s no = _
        unfold f_X5_whyNotCopied_L27_b
        rw [hR.n4, jix_of (by omega) (by omega), jck_of (by omega) (by omega) (by omega) (by omega), if_pos (by omega)])
      (fun q s i hi hI => by
        obtain ⟨i1, i2, i3⟩ := hI
        obtain ⟨a1', a2', a3', a4', a5', -, -⟩ := hN.2.2 i i1 hi
        have stepF : ¬ FRk tr fi la no a b (g - a) i ∨ s = 0 → ((0 : Int) = 1 ↔ ∀ k, 0 ≤ k → k < i + 1 → FRk tr fi la no a b (g - a) k) := fun h => by
          constructor
          · intro x; omega
          · intro x
            rcases h with h | h
            · exact absurd (x i i1 (by omega)) h
            · have := i3.mpr (fun k k0 k1 => x k k0 (by omega))
              omega
        have stepT : FRk tr fi la no a b (g - a) i → s = 1 → ((1 : Int) = 1 ↔ ∀ k, 0 ≤ k → k < i + 1 → FRk tr fi la no a b (g - a) k) := fun h hs => by
          constructor
          · intro _ k k0 k1
            by_cases d : k = i
            · rw [d]; exact h
            · exact i3.mp hs k k0 (by omega)
          · intro _; rfl
        have ex : ∀ s', f_X5_whyNotCopied_L27 fu st a b g (f_X5_whyNotCopied_X125 fu) (q + 1) s' i = f_X5_whyNotCopied_L27_b fu st a b g (f_X5_whyNotCopied_X125 fu) (f_X5_whyNotCopied_L27 fu st a b g (f_X5_whyNotCopied_X125 fu) q) s' i := fun _ => rfl
        have hd : f_X5_whyNotCopied_L27_b fu st a b g (f_X5_whyNotCopied_X125 fu) (f_X5_whyNotCopied_L27 fu st a b g (f_X5_whyNotCopied_X125 fu) q) s i = f_X5_whyNotCopied_L27_b fu st a b g (f_X5_whyNotCopied_X125 fu) (f_X5_whyNotCopied_L27 fu st a b g (f_X5_whyNotCopied_X125 fu) q) s i := rfl
        unfold f_X5_whyNotCopied_L27_b at hd
        rw [hR.n4, jix_of (by omega) (by omega), jck_of (by omega) (by omega) (by omega) (by omega), if_neg (by omega), m_isBetween hR hN i1 hi (by omega) (by omega) (by omega) (by omega), jb_s, jck_of (by omega) (by omega) (by omega) (by omega)] at hd
        clear hd
        by_cases s0 : s = 0
        · refine ⟨0, ?_, by omega, Or.inl rfl, stepF (Or.inr s0)⟩
          show f_X5_whyNotCopied_L27_b fu st a b g _ _ s i = _
          unfold f_X5_whyNotCopied_L27_b
          rw [hR.n4, jix_of (by omega) (by omega), jck_of (by omega) (by omega) (by omega) (by omega), if_neg (by omega), m_isBetween hR hN i1 hi (by omega) (by omega) (by omega) (by omega), jb_s, jck_of (by omega) (by omega) (by omega) (by omega), if_pos s0]
        · by_cases w : a ≤ fi i ∧ la i ≤ b
          · by_cases d : 100 ≤ la i + (g - a)
            · refine ⟨0, ?_, by omega, Or.inl rfl, stepF (Or.inl (fun h => by have := (h w).1; omega))⟩
              show f_X5_whyNotCopied_L27_b fu st a b g _ _ s i = _
              unfold f_X5_whyNotCopied_L27_b
              rw [hR.n4, jix_of (by omega) (by omega), jck_of (by omega) (by omega) (by omega) (by omega), if_neg (by omega), m_isBetween hR hN i1 hi (by omega) (by omega) (by omega) (by omega), jb_s, jck_of (by omega) (by omega) (by omega) (by omega), if_neg s0, if_pos w, jck_of (by omega) (by omega) (by omega) (by omega), if_neg (show ¬ (1 : Int) = 0 by omega), m_p2 hR i1 hi n1, jb_s, jck_of (by omega) (by omega) (by omega) (by omega), if_pos d]
            · obtain ⟨z, ez, z01, zi⟩ := m_isTaken (fu := fu) (t := tr i) (a := fi i + (g - a)) (b := la i + (g - a)) hR hN (by omega) (by omega) (by omega) (by omega) (by omega) (by omega) hf
              refine ⟨if z = 0 then 1 else 0, ?_, by omega, by split <;> omega, ?_⟩
              · show f_X5_whyNotCopied_L27_b fu st a b g _ _ s i = _
                unfold f_X5_whyNotCopied_L27_b
                rw [hR.n4, jix_of (by omega) (by omega), jck_of (by omega) (by omega) (by omega) (by omega), if_neg (by omega), m_isBetween hR hN i1 hi (by omega) (by omega) (by omega) (by omega), jb_s, jck_of (by omega) (by omega) (by omega) (by omega), if_neg s0, if_pos w, jck_of (by omega) (by omega) (by omega) (by omega), if_neg (show ¬ (1 : Int) = 0 by omega), m_p2 hR i1 hi n1, jb_s, jck_of (by omega) (by omega) (by omega) (by omega), if_neg d, m_p0 hR i1 hi n1, jb_s, m_p1 hR i1 hi n1, jb_s, jb_s, ez, jb_s, jck_of (by omega) (by omega) (by omega) (by omega)]
                by_cases y : z = 0
                · rw [if_pos y, if_neg (by omega)]
                · rw [if_neg y, if_pos y]
              · by_cases y : z = 0
                · rw [if_pos y]
                  exact stepT (fun _ => ⟨by omega, fun h => by have := zi.mpr h; omega⟩) (by omega)
                · rw [if_neg y]
                  exact stepF (Or.inl (fun h => (h w).2 (zi.mp (by omega))))
          · refine ⟨1, ?_, by omega, Or.inr rfl, stepT (fun h => absurd h w) (by omega)⟩
            show f_X5_whyNotCopied_L27_b fu st a b g _ _ s i = _
            unfold f_X5_whyNotCopied_L27_b
            rw [hR.n4, jix_of (by omega) (by omega), jck_of (by omega) (by omega) (by omega) (by omega), if_neg (by omega), m_isBetween hR hN i1 hi (by omega) (by omega) (by omega) (by omega), jb_s, jck_of (by omega) (by omega) (by omega) (by omega), if_neg s0, if_neg w, jck_of (by omega) (by omega) (by omega) (by omega), if_pos (show (0 : Int) = 0 from rfl)])
      no.toNat fu 1 0 (by omega) (by omega) ⟨by omega, Or.inr rfl, fun _ k k0 k1 => by omega, fun _ => rfl⟩
    have e' : f_X5_whyNotCopied_L27 fu st a b g (f_X5_whyNotCopied_X125 fu) fu 1 0 = f_X5_whyNotCopied_X125 fu p := e
    rw [e']
    unfold f_X5_whyNotCopied_X125
    rw [jck_of (by omega) (by omega) (by omega) (by omega)]
    by_cases y : p = 0
    · rw [if_pos y]
      exact ⟨-5, rfl, fun h => by omega, fun _ => Or.inr ⟨rfl, fun h => by have := i3.mpr h; omega⟩⟩
    · rw [if_neg y]
      exact ⟨0, rfl, fun h => by omega, fun _ => Or.inl ⟨rfl, i3.mp (by omega)⟩⟩
  · rw [if_neg c]
    exact ⟨-4, rfl, fun _ => rfl, fun h => absurd h c⟩
end Q60
