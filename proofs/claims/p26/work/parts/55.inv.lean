/-! what holds of the notes, kept -/
def INV (tr fi la sh ac : Int → Int) (no : Int) : Prop := NT tr fi la sh no ∧ AC ac ∧ SO tr fi no ∧ DJ tr fi la no
section Q55
variable {fu : Nat} {st se tr fi la sh ac : Int → Int} {no : Int}
theorem AC_ins {p x n : Int} (h : AC ac) (hp : 0 ≤ p) (hn : n < 40) (hx : x = 0 ∨ x = 1) : AC (ins ac p x n) := AC_uI (AC_shu h hp hn) hx
/-- a place that no note takes: the order with a new note there -/
theorem free_lt {t a b p : Int} (hI : INV tr fi la sh ac no) (ht : 0 ≤ t) (ht2 : t < 12) (ha : 0 ≤ a) (hab : a ≤ b) (hfree : ∀ k, 0 ≤ k → k < no → ¬ (tr k = t ∧ fi k ≤ b ∧ a ≤ la k)) (hp : 0 ≤ p) (hi : ∀ k, p ≤ k → k < no → 12 * a + t ≤ kO tr fi k) : ∀ k, p ≤ k → k < no → 12 * a + t < kO tr fi k := by
  intro k k0 k1
  have h := hi k k0 k1
  obtain ⟨a1, a2, a3, a4, a5, -, -⟩ := hI.1.2.2 k (by omega) k1
  by_cases c : 12 * a + t = kO tr fi k
  · unfold kO at c
    exact absurd ⟨by omega, by omega, by omega⟩ (hfree k (by omega) k1)
  · omega
theorem INV_ins {t a b s_ x p : Int} (hI : INV tr fi la sh ac no) (hno : no < 40) (ht : 0 ≤ t) (ht2 : t < 12) (ha : 0 ≤ a) (hab : a ≤ b) (hb : b < 100) (hs : 0 ≤ s_) (hs2 : s_ ≤ 12) (hx : x = 0 ∨ x = 1) (hfree : ∀ k, 0 ≤ k → k < no → ¬ (tr k = t ∧ fi k ≤ b ∧ a ≤ la k)) (hp : 0 ≤ p) (hp2 : p ≤ no) (hlo : ∀ k, 0 ≤ k → k < p → kO tr fi k < 12 * a + t) (hhi : ∀ k, p ≤ k → k < no → 12 * a + t < kO tr fi k) :
    INV (ins tr p t no) (ins fi p a no) (ins la p b no) (ins sh p s_ no) (ins ac p x no) (no + 1) := by
  obtain ⟨hN, hA, hO, hD⟩ := hI
  have n0 := hN.1
  refine ⟨⟨by omega, by omega, fun k k0 k1 => ?_⟩, AC_ins hA hp hno hx, fun j k j0 jk k1 => ?_, fun j k j0 jk k1 => ?_⟩
  · by_cases c : k < p
    · rw [ins_lt _ c, ins_lt _ c, ins_lt _ c, ins_lt _ c]; exact hN.2.2 k k0 (by omega)
    · by_cases d : k = p
      · subst d
        rw [ins_eq, ins_eq, ins_eq, ins_eq]
        exact ⟨ht, ht2, ha, hab, hb, hs, hs2⟩
      · rw [ins_gt _ (by omega) (by omega), ins_gt _ (by omega) (by omega), ins_gt _ (by omega) (by omega), ins_gt _ (by omega) (by omega)]
        exact hN.2.2 (k - 1) (by omega) (by omega)
  · have ev : ∀ q, 0 ≤ q → q < no + 1 → kO (ins tr p t no) (ins fi p a no) q = if q < p then kO tr fi q else if q = p then 12 * a + t else kO tr fi (q - 1) := by
      intro q q0 q1
      unfold kO
      by_cases c : q < p
      · rw [if_pos c, ins_lt _ c, ins_lt _ c]
      · rw [if_neg c]
        by_cases d : q = p
        · rw [if_pos d, d, ins_eq, ins_eq]
        · rw [if_neg d, ins_gt _ (by omega) (by omega), ins_gt _ (by omega) (by omega)]
    rw [ev j j0 (by omega), ev k (by omega) k1]
    by_cases c : j < p
    · rw [if_pos c]
      have := hlo j j0 c
      by_cases d : k < p
      · rw [if_pos d]; exact hO j k j0 jk (by omega)
      · rw [if_neg d]
        by_cases e : k = p
        · rw [if_pos e]; exact this
        · rw [if_neg e]
          have := hhi (k - 1) (by omega) (by omega)
          omega
    · rw [if_neg c, if_neg (by omega : ¬ k < p), if_neg (by omega : ¬ k = p)]
      by_cases e : j = p
      · rw [if_pos e]
        exact hhi (k - 1) (by omega) (by omega)
      · rw [if_neg e]
        exact hO (j - 1) (k - 1) (by omega) (by omega) (by omega)
  · by_cases c : j < p
    · rw [ins_lt _ c, ins_lt _ c]
      by_cases d : k < p
      · rw [ins_lt _ d, ins_lt _ d]; exact hD j k j0 jk (by omega)
      · by_cases e : k = p
        · subst e
          rw [ins_eq, ins_eq]
          intro h
          have hh := hfree j j0 (by omega)
          have hl := hlo j j0 c
          obtain ⟨a1, a2, a3, a4, a5, -, -⟩ := hN.2.2 j j0 (by omega)
          unfold kO at hl
          by_cases g : la j < a
          · exact g
          · exact absurd ⟨h, by omega, by omega⟩ hh
        · rw [ins_gt _ (by omega) (by omega), ins_gt _ (by omega) (by omega)]
          exact hD j (k - 1) j0 (by omega) (by omega)
    · rw [ins_gt _ (by omega : p < k) (by omega), ins_gt _ (by omega : p < k) (by omega)]
      by_cases e : j = p
      · subst e
        rw [ins_eq, ins_eq]
        intro h
        have hh := hfree (k - 1) (by omega) (by omega)
        have hl := hhi (k - 1) (by omega) (by omega)
        obtain ⟨a1, a2, a3, a4, a5, -, -⟩ := hN.2.2 (k - 1) (by omega) (by omega)
        unfold kO at hl
        by_cases g : b < fi (k - 1)
        · exact g
        · exact absurd ⟨h.symm, by omega, by omega⟩ hh
      · rw [ins_gt _ (by omega : p < j) (by omega), ins_gt _ (by omega : p < j) (by omega)]
        exact hD (j - 1) (k - 1) (by omega) (by omega) (by omega)
theorem shd_at (f : Int → Int) {x n k : Int} (hn : k < n) : shd f x n k = f (if x ≤ k then k + 1 else k) := by
  unfold shd
  by_cases c : x ≤ k
  · rw [if_pos ⟨c, hn⟩, if_pos c]
  · rw [if_neg (fun h => c h.1), if_neg c]
theorem INV_shd {x : Int} (hI : INV tr fi la sh ac no) (h1 : 0 ≤ x) (h2 : x < no) : INV (shd tr x (no - 1)) (shd fi x (no - 1)) (shd la x (no - 1)) (shd sh x (no - 1)) (shd ac x (no - 1)) (no - 1) := by
  obtain ⟨hN, hA, hO, hD⟩ := hI
  have n0 := hN.1
  have n1 := hN.2.1
  refine ⟨⟨by omega, by omega, fun k k0 k1 => ?_⟩, AC_shd hA h1 (by omega), fun j k j0 jk k1 => ?_, fun j k j0 jk k1 => ?_⟩
  · rw [shd_at _ k1, shd_at _ k1, shd_at _ k1, shd_at _ k1]
    exact hN.2.2 _ (by split <;> omega) (by split <;> omega)
  · unfold kO
    rw [shd_at _ k1, shd_at _ k1, shd_at _ (by omega : j < no - 1), shd_at _ (by omega : j < no - 1)]
    exact hO _ _ (by split <;> omega) (by split <;> split <;> omega) (by split <;> omega)
  · rw [shd_at _ k1, shd_at _ k1, shd_at _ (by omega : j < no - 1), shd_at _ (by omega : j < no - 1)]
    exact hD _ _ (by split <;> omega) (by split <;> split <;> omega) (by split <;> omega)
theorem INV_sh {x v : Int} (hI : INV tr fi la sh ac no) (h1 : 0 ≤ v) (h2 : v ≤ 12) : INV tr fi la (uI sh x v) ac no := by
  obtain ⟨hN, hA, hO, hD⟩ := hI
  refine ⟨⟨hN.1, hN.2.1, fun k k0 k1 => ?_⟩, hA, hO, hD⟩
  obtain ⟨a1, a2, a3, a4, a5, a6, a7⟩ := hN.2.2 k k0 k1
  refine ⟨a1, a2, a3, a4, a5, ?_⟩
  unfold uI
  by_cases c : k = x
  · rw [if_pos c]; exact ⟨h1, h2⟩
  · rw [if_neg c]; exact ⟨a6, a7⟩
theorem INV_ac {x v : Int} (hI : INV tr fi la sh ac no) (hv : v = 0 ∨ v = 1) : INV tr fi la sh (uI ac x v) no := ⟨hI.1, AC_uI hI.2.1 hv, hI.2.2.1, hI.2.2.2⟩
theorem INV_len {st_ many : Int} (hI : INV tr fi la sh ac no) (hs : 0 ≤ st_) (hm : 0 ≤ many) (hl : ∀ k, 0 ≤ k → k < no → la k < st_ ∨ la k + many < 100) : INV tr (jcpy (sFi fi st_ many) fi no) (jcpy (sLa la st_ many) la no) sh ac no := by
  obtain ⟨hN, hA, hO, hD⟩ := hI
  refine ⟨⟨hN.1, hN.2.1, fun k k0 k1 => ?_⟩, hA, fun j k j0 jk k1 => ?_, fun j k j0 jk k1 => ?_⟩
  · obtain ⟨a1, a2, a3, a4, a5, a6, a7⟩ := hN.2.2 k k0 k1
    have := hl k k0 k1
    rw [jcpy_in _ _ k0 k1, jcpy_in _ _ k0 k1]
    unfold sFi sLa
    refine ⟨a1, a2, ?_, ?_, ?_, a6, a7⟩
    · split <;> omega
    · split <;> split <;> omega
    · split <;> omega
  · have := hO j k j0 jk k1
    obtain ⟨a1, a2, a3, a4, a5, a6, a7⟩ := hN.2.2 k (by omega) k1
    obtain ⟨b1, b2, b3, b4, b5, b6, b7⟩ := hN.2.2 j j0 (by omega)
    unfold kO at this ⊢
    rw [jcpy_in _ _ j0 (by omega), jcpy_in _ _ (by omega) k1]
    unfold sFi
    split <;> split <;> omega
  · intro h
    have := hD j k j0 jk k1 h
    rw [jcpy_in _ _ j0 (by omega), jcpy_in _ _ (by omega) k1]
    unfold sFi sLa
    split <;> split <;> omega
end Q55

