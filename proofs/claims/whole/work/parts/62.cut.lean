/-! cut -/
def cF (x1 x2 v : Int) : Int := if x1 ≤ v then (if x1 + x2 ≤ v then v - x2 else x1) else v
def cL (x1 x2 v : Int) : Int := if x1 ≤ v then (if x1 + x2 ≤ v then v - x2 else x1 - 1) else v
def cN (fi la : Int → Int) (x1 x2 : Int) (i : Int) : Int := fdA (fun k (m : Int) => if cF x1 x2 (fi k) ≤ cL x1 x2 (la k) then m + 1 else m) 0 0 i
theorem cN_s (fi la : Int → Int) (x1 x2 : Int) {i : Int} (h : 0 ≤ i) : cN fi la x1 x2 (i + 1) = if cF x1 x2 (fi i) ≤ cL x1 x2 (la i) then cN fi la x1 x2 i + 1 else cN fi la x1 x2 i := by
  unfold cN
  rw [fdA_s _ _ h]
theorem cN_0 (fi la : Int → Int) (x1 x2 : Int) : cN fi la x1 x2 0 = 0 := by unfold cN; rw [fdA_0]
theorem cN_mono (fi la : Int → Int) (x1 x2 : Int) : ∀ (n : Nat) (i : Int), 0 ≤ i → cN fi la x1 x2 i ≤ cN fi la x1 x2 (i + n) ∧ cN fi la x1 x2 (i + n) ≤ cN fi la x1 x2 i + n
  | 0, i, _ => by simp
  | n + 1, i, h => by
    have := cN_mono fi la x1 x2 n i h
    rw [show i + ((n + 1 : Nat) : Int) = i + n + 1 by omega, cN_s _ _ _ _ (by omega)]
    split <;> omega
theorem cN_le (fi la : Int → Int) (x1 x2 : Int) {i j : Int} (h : 0 ≤ i) (h2 : i ≤ j) : cN fi la x1 x2 i ≤ cN fi la x1 x2 j ∧ cN fi la x1 x2 j ≤ cN fi la x1 x2 i + (j - i) := by
  have := cN_mono fi la x1 x2 (j - i).toNat i h
  rw [show i + ((j - i).toNat : Int) = j by omega] at this
  omega
section Q62
variable {fu : Nat} {st se tr fi la sh ac hsf mv u_se u_tr u_fi u_la u_sh u_ac : Int → Int} {no rc ol si u_no : Int} {k_se k_tr k_fi k_la k_sh k_ac : Int → Int → Int} {k_no : Int → Int}
theorem m_firstBy {v x1 x2 : Int} (h0 : 0 ≤ v) (h1 : v < 100) (h2 : 0 ≤ x1) (h3 : x1 < 100) (h4 : 1 ≤ x2) (h5 : x2 ≤ 100) : f_X5_firstBy fu v x1 x2 = some (cF x1 x2 v) := by
  unfold f_X5_firstBy cF
  rw [jck_of (by omega) (by omega) (by omega) (by omega)]
  by_cases c : x1 ≤ v
  · rw [if_pos c, if_pos c, jck_of (by omega) (by omega) (by omega) (by omega)]
    split <;> rfl
  · rw [if_neg c, if_neg c]
theorem m_lastBy {v x1 x2 : Int} (h0 : 0 ≤ v) (h1 : v < 100) (h2 : 0 ≤ x1) (h3 : x1 < 100) (h4 : 1 ≤ x2) (h5 : x2 ≤ 100) : f_X5_lastBy fu v x1 x2 = some (cL x1 x2 v) := by
  unfold f_X5_lastBy cL
  rw [jck_of (by omega) (by omega) (by omega) (by omega)]
  by_cases c : x1 ≤ v
  · rw [if_pos c, if_pos c, jck_of (by omega) (by omega) (by omega) (by omega)]
    split <;> rfl
  · rw [if_neg c, if_neg c]
theorem cFL_in {f l x1 x2 : Int} (h0 : 0 ≤ f) (h1 : f ≤ l) (h2 : l < 100) (h3 : 0 ≤ x1) (h4 : 1 ≤ x2) : 0 ≤ cF x1 x2 f ∧ cF x1 x2 f < 100 ∧ -1 ≤ cL x1 x2 l ∧ cL x1 x2 l < 100 ∧ (cF x1 x2 f ≤ cL x1 x2 l ↔ ¬ (x1 ≤ f ∧ l < x1 + x2)) := by
  unfold cF cL
  refine ⟨?_, ?_, ?_, ?_, ?_⟩
  · split <;> (try split) <;> omega
  · split <;> (try split) <;> omega
  · split <;> (try split) <;> omega
  · split <;> (try split) <;> omega
  · repeat' split
    all_goals omega
theorem cLF {l f x1 x2 : Int} (h : l < f) (h4 : 1 ≤ x2) : cL x1 x2 l < cF x1 x2 f := by
  unfold cF cL
  by_cases a : x1 ≤ f <;> by_cases b : x1 + x2 ≤ f <;> by_cases c : x1 ≤ l <;> by_cases d : x1 + x2 ≤ l <;> simp only [a, b, c, d, if_true, if_false] <;> omega
/-- the model's row pressed together -/
theorem m_press {x1 x2 : Int} {k : Int → (Int → Int) → (Int → Int) → (Int → Int) → Int → Option (Int × Int × (Int → Int) × (Int → Int) × (Int → Int))} (hN : NT tr fi la sh no) (h2 : 0 ≤ x1) (h3 : x1 < 100) (h4 : 1 ≤ x2) (h5 : x2 ≤ 100) (hf : 100 ≤ fu) :
    ∀ (n fuel : Nat) (i : Int) (s T F L S A : Int → Int), i + 1 = n → i < no → n < fuel → RLm s se T F L S A (i + 1 + (cN fi la x1 x2 no - cN fi la x1 x2 (i + 1))) → (∀ q, 0 ≤ q → q ≤ i → T q = tr q ∧ F q = fi q ∧ L q = la q ∧ S q = sh q ∧ A q = ac q) → (∀ j, i < j → j < no → cF x1 x2 (fi j) ≤ cL x1 x2 (la j) → T (i + 1 + (cN fi la x1 x2 j - cN fi la x1 x2 (i + 1))) = tr j ∧ F (i + 1 + (cN fi la x1 x2 j - cN fi la x1 x2 (i + 1))) = cF x1 x2 (fi j) ∧ L (i + 1 + (cN fi la x1 x2 j - cN fi la x1 x2 (i + 1))) = cL x1 x2 (la j) ∧ S (i + 1 + (cN fi la x1 x2 j - cN fi la x1 x2 (i + 1))) = sh j ∧ A (i + 1 + (cN fi la x1 x2 j - cN fi la x1 x2 (i + 1))) = ac j) →
      ∃ s' T' F' L' S' A', f_X5_cut_L38 fu x1 x2 k fuel rc mv s hsf (no - (i + 1) - (cN fi la x1 x2 no - cN fi la x1 x2 (i + 1))) i = k rc mv s' hsf (no - cN fi la x1 x2 no) ∧ RLm s' se T' F' L' S' A' (cN fi la x1 x2 no) ∧ (∀ j, 0 ≤ j → j < no → cF x1 x2 (fi j) ≤ cL x1 x2 (la j) → T' (cN fi la x1 x2 j) = tr j ∧ F' (cN fi la x1 x2 j) = cF x1 x2 (fi j) ∧ L' (cN fi la x1 x2 j) = cL x1 x2 (la j) ∧ S' (cN fi la x1 x2 j) = sh j ∧ A' (cN fi la x1 x2 j) = ac j) := by
  have n1 := hN.2.1
  have z0 := cN_0 fi la x1 x2
  intro n
  induction n with
  | zero =>
    intro fuel i s T F L S A e1 e2 e3 hR hlo hhi
    obtain ⟨q, rfl⟩ : ∃ q, fuel = q + 1 := ⟨fuel - 1, by omega⟩
    have ei : i = -1 := by omega
    subst ei
    rw [show (-1 : Int) + 1 = 0 by omega, z0] at hR hhi ⊢
    refine ⟨s, T, F, L, S, A, ?_, by rw [show 0 + (cN fi la x1 x2 no - 0) = cN fi la x1 x2 no by omega] at hR; exact hR, fun j j0 j1 hs => ?_⟩
    · show f_X5_cut_L38_b fu x1 x2 _ _ rc mv s hsf _ (-1) = _
      unfold f_X5_cut_L38_b
      rw [jck_of (by omega) (by omega) (by omega) (by omega), if_pos (by omega)]
      congr 1
      omega
    · have := hhi j (by omega) j1 hs
      rw [show 0 + (cN fi la x1 x2 j - 0) = cN fi la x1 x2 j by omega] at this
      exact this
  | succ n ih =>
    intro fuel i s T F L S A e1 e2 e3 hR hlo hhi
    obtain ⟨q, rfl⟩ : ∃ q, fuel = q + 1 := ⟨fuel - 1, by omega⟩
    have i0 : 0 ≤ i := by omega
    obtain ⟨a1, a2, a3, a4, a5, a6, a7⟩ := hN.2.2 i i0 e2
    obtain ⟨t0, t1, t2, t3, t4⟩ := hlo i i0 (by omega)
    have hb := cFL_in (x1 := x1) (x2 := x2) a3 a4 a5 h2 h4
    have hs := cN_s fi la x1 x2 i0
    have hm := cN_le fi la x1 x2 (i := i + 1) (j := no) (by omega) (by omega)
    have e1' : f_X5_part fu s i 1 = some (fi i) := by rw [m_p1 hR i0 (by omega) (by omega), t1]
    have e2' : ∀ v, f_X5_part fu (uI s (5 + 5 * i + 1) v) i 2 = some (la i) := fun v => by rw [m_p2 (RLm_1 hR i0) i0 (by omega) (by omega), t2]
    have r2 := RLm_2 (v := cL x1 x2 (la i)) (RLm_1 (v := cF x1 x2 (fi i)) hR i0) i0
    have e3' : f_X5_part fu (uI (uI s (5 + 5 * i + 1) (cF x1 x2 (fi i))) (5 + 5 * i + 2) (cL x1 x2 (la i))) i 2 = some (cL x1 x2 (la i)) := by rw [m_p2 r2 i0 (by omega) (by omega), uI_s]
    have e4' : f_X5_part fu (uI (uI s (5 + 5 * i + 1) (cF x1 x2 (fi i))) (5 + 5 * i + 2) (cL x1 x2 (la i))) i 1 = some (cF x1 x2 (fi i)) := by rw [m_p1 r2 i0 (by omega) (by omega), uI_s]
    have ex : f_X5_cut_L38 fu x1 x2 k (q + 1) rc mv s hsf (no - (i + 1) - (cN fi la x1 x2 no - cN fi la x1 x2 (i + 1))) i = f_X5_cut_L38_b fu x1 x2 k (f_X5_cut_L38 fu x1 x2 k q) rc mv s hsf (no - (i + 1) - (cN fi la x1 x2 no - cN fi la x1 x2 (i + 1))) i := rfl
    rw [ex]
    unfold f_X5_cut_L38_b
    rw [jck_of (by omega) (by omega) (by omega) (by omega), if_neg (by omega), e1', jb_s, m_firstBy (by omega) (by omega) h2 h3 h4 h5, jb_s, m_set i0 (by omega) (by omega) (by omega), jb_s, e2', jb_s, m_lastBy (by omega) (by omega) h2 h3 h4 h5, jb_s, m_set i0 (by omega) (by omega) (by omega), jb_s, e3', jb_s, e4', jb_s, jck_of (by omega) (by omega) (by omega) (by omega)]
    by_cases c : cF x1 x2 (fi i) ≤ cL x1 x2 (la i)
    · rw [if_pos c] at hs ⊢
      have r2' : RLm (uI (uI s (5 + 5 * i + 1) (cF x1 x2 (fi i))) (5 + 5 * i + 2) (cL x1 x2 (la i))) se T (uI F i (cF x1 x2 (fi i))) (uI L i (cL x1 x2 (la i))) S A (i + (-1) + 1 + (cN fi la x1 x2 no - cN fi la x1 x2 (i + (-1) + 1))) := by
        rw [show i + (-1) + 1 = i by omega, show i + (cN fi la x1 x2 no - cN fi la x1 x2 i) = i + 1 + (cN fi la x1 x2 no - cN fi la x1 x2 (i + 1)) by omega]
        exact r2
      obtain ⟨s', T', F', L', S', A', f1, f2, f3⟩ := ih q (i + (-1)) _ T _ _ S A (by omega) (by omega) (by omega) r2' (fun y y0 y1 => by
        rw [uI_n _ _ (by omega), uI_n _ _ (by omega)]
        exact hlo y y0 (by omega)) (fun j j0 j1 hj => by
        rw [show i + (-1) + 1 = i by omega]
        by_cases d : j = i
        · subst d
          rw [show j + (cN fi la x1 x2 j - cN fi la x1 x2 j) = j by omega, uI_s, uI_s]
          exact ⟨t0, rfl, rfl, t3, t4⟩
        · have hc := cN_le fi la x1 x2 (i := i + 1) (j := j) (by omega) (by omega)
          rw [show i + (cN fi la x1 x2 j - cN fi la x1 x2 i) = i + 1 + (cN fi la x1 x2 j - cN fi la x1 x2 (i + 1)) by omega, uI_n _ _ (by omega), uI_n _ _ (by omega)]
          exact hhi j (by omega) j1 hj)
      rw [show no - (i + 1) - (cN fi la x1 x2 no - cN fi la x1 x2 (i + 1)) = no - (i + (-1) + 1) - (cN fi la x1 x2 no - cN fi la x1 x2 (i + (-1) + 1)) by rw [show i + (-1) + 1 = i by omega]; omega]
      exact ⟨s', T', F', L', S', A', f1, f2, f3⟩
    · rw [if_neg c] at hs ⊢
      obtain ⟨s2, es, r3, -⟩ := m_takeOut (fu := fu) (x := i) r2 i0 (by omega) (by omega) hf
      have r3' : RLm s2 se (shd T i (i + (-1) + 1 + (cN fi la x1 x2 no - cN fi la x1 x2 (i + (-1) + 1)))) (shd (uI F i (cF x1 x2 (fi i))) i (i + (-1) + 1 + (cN fi la x1 x2 no - cN fi la x1 x2 (i + (-1) + 1)))) (shd (uI L i (cL x1 x2 (la i))) i (i + (-1) + 1 + (cN fi la x1 x2 no - cN fi la x1 x2 (i + (-1) + 1)))) (shd S i (i + (-1) + 1 + (cN fi la x1 x2 no - cN fi la x1 x2 (i + (-1) + 1)))) (shd A i (i + (-1) + 1 + (cN fi la x1 x2 no - cN fi la x1 x2 (i + (-1) + 1)))) (i + (-1) + 1 + (cN fi la x1 x2 no - cN fi la x1 x2 (i + (-1) + 1))) := by
        rw [show i + (-1) + 1 = i by omega, show i + (cN fi la x1 x2 no - cN fi la x1 x2 i) = i + 1 + (cN fi la x1 x2 no - cN fi la x1 x2 (i + 1)) - 1 by omega]
        exact r3
      obtain ⟨s', T', F', L', S', A', f1, f2, f3⟩ := ih q (i + (-1)) _ _ _ _ _ _ (by omega) (by omega) (by omega) r3' (fun y y0 y1 => by
        have lo : y < i + (-1) + 1 + (cN fi la x1 x2 no - cN fi la x1 x2 (i + (-1) + 1)) := by rw [show i + (-1) + 1 = i by omega]; omega
        rw [shd_at _ lo, shd_at _ lo, shd_at _ lo, shd_at _ lo, shd_at _ lo, if_neg (by omega), uI_n _ _ (by omega), uI_n _ _ (by omega)]
        exact hlo y y0 (by omega)) (fun j j0 j1 hj => by
        have d : j ≠ i := fun h => by subst h; exact c hj
        have hc := cN_le fi la x1 x2 (i := i + 1) (j := j) (by omega) (by omega)
        have hc2 := cN_le fi la x1 x2 (i := j + 1) (j := no) (by omega) (by omega)
        have hsj := cN_s fi la x1 x2 (i := j) (by omega)
        rw [if_pos hj] at hsj
        rw [show i + (-1) + 1 = i by omega]
        have lo : i + (cN fi la x1 x2 j - cN fi la x1 x2 i) < i + (cN fi la x1 x2 no - cN fi la x1 x2 i) := by omega
        rw [shd_at _ lo, shd_at _ lo, shd_at _ lo, shd_at _ lo, shd_at _ lo, if_pos (by omega), uI_n _ _ (by omega), uI_n _ _ (by omega), show i + (cN fi la x1 x2 j - cN fi la x1 x2 i) + 1 = i + 1 + (cN fi la x1 x2 j - cN fi la x1 x2 (i + 1)) by omega]
        exact hhi j (by omega) j1 hj)
      rw [es, jb_s, show no - (i + 1) - (cN fi la x1 x2 no - cN fi la x1 x2 (i + 1)) + 1 = no - (i + (-1) + 1) - (cN fi la x1 x2 no - cN fi la x1 x2 (i + (-1) + 1)) by rw [show i + (-1) + 1 = i by omega]; omega]
      exact ⟨s', T', F', L', S', A', f1, f2, f3⟩
end Q62
