/-! greatest run, free goal -/
section Q59
variable {fu : Nat} {st se tr fi la sh ac ho p_eh p_hf u_se u_tr u_fi u_la u_sh u_ac : Int → Int} {no u_no p_we : Int}
theorem SE_run {v : Int} (hE : SE se) (h1 : 1 ≤ v) (h2 : v ≤ 9) : SE (uI se 0 v) := by
  obtain ⟨b1, b2, b3, b4, b5, b6, b7, b8⟩ := hE
  unfold SE uI
  refine ⟨?_, ?_, ?_, ?_, ?_, ?_, ?_, ?_⟩ <;> split <;> omega
theorem l_runS {V : Int → Int} (hN : NT tr fi la sh no) (hE : SE se) (hA : AC ac) (hV : ∀ v, V v = wkN (HO (uI se 0 v) tr fi la sh ac no) (uI se 0 v 3)) (hf : 1000 ≤ fu) :
    ∀ (n fuel : Nat) (i : Int) (s_ e h : Int → Int) (w : Int), i = n → i ≤ 9 → n < fuel → (s_ = se ∨ ∃ w, s_ = uI se 0 w) → (∀ v, i < v → v ≤ 9 → V v ≠ 0) →
      ∃ r se' eh' we' hf', f_X4_greatestRun_L17 fu (f_X4_greatestRun_X64 fu) fuel s_ tr fi la sh ac no e w h i = some (r, se', tr, fi, la, sh, ac, no, eh', we', hf') ∧ ((r = -6 ∧ ∀ v, 1 ≤ v → v ≤ 9 → V v ≠ 0) ∨ (1 ≤ r ∧ r ≤ 9 ∧ V r = 0 ∧ ∀ v, r < v → v ≤ 9 → V v ≠ 0)) := by
  intro n
  induction n with
  | zero =>
    intro fuel i s_ e h w h1 h2 h3 h4 h5
    obtain ⟨q, rfl⟩ : ∃ q, fuel = q + 1 := ⟨fuel - 1, by omega⟩
    refine ⟨-6, s_, e, w, h, ?_, Or.inl ⟨rfl, fun v v1 v2 => h5 v (by omega) v2⟩⟩
    show f_X4_greatestRun_L17_b fu _ _ s_ tr fi la sh ac no e w h i = _
    unfold f_X4_greatestRun_L17_b
    rw [show jL (Int.toNat 0) = 1 from rfl, jix_of (by omega) (by omega), jck_of (by omega) (by omega) (by omega) (by omega), if_pos (by omega)]
    rfl
  | succ n ih =>
    intro fuel i s_ e h w h1 h2 h3 h4 h5
    obtain ⟨q, rfl⟩ : ∃ q, fuel = q + 1 := ⟨fuel - 1, by omega⟩
    have eu : uI s_ 0 i = uI se 0 i := by
      rcases h4 with g | ⟨w, g⟩
      · rw [g]
      · rw [g, uI_uI]
    have hE' := SE_run (v := i) hE (by omega) h2
    obtain ⟨e1, o1, e', g1, g2⟩ := q_perforate (fu := fu) (eh := e) (ho := h) (we := w) hN hE' hA (by omega)
    have w1 : 0 ≤ uI se 0 i 3 := by have := hE'.2.2.2.2.2.2; omega
    have w2 := hE'.2.2.2.2.2.2.2
    have hw := wkN_in (HO (uI se 0 i) tr fi la sh ac no) (uI se 0 i 3)
    rw [← hV i] at hw
    by_cases c : V i = 0
    · refine ⟨i, uI se 0 i, e1, uI se 0 i 3, o1, ?_, Or.inr ⟨by omega, h2, c, h5⟩⟩
      · show f_X4_greatestRun_L17_b fu _ _ s_ tr fi la sh ac no e w h i = _
        unfold f_X4_greatestRun_L17_b
        rw [show jL (Int.toNat 0) = 1 from rfl, jix_of (by omega) (by omega), jck_of (by omega) (by omega) (by omega) (by omega), if_neg (by omega), q_giveSetting (by omega) (by omega), jb_s, eu, e', jb3_s, q_weakSteps w1 w2 (by omega), jb_s, wkN_congr g1, ← hV i, jck_of (by omega) (by omega) (by omega) (by omega), if_neg (by omega)]
    · obtain ⟨r, se', eh', we', hf', er, hr⟩ := ih q (i + (-1)) (uI se 0 i) e1 o1 (uI se 0 i 3) (by omega) (by omega) (by omega) (Or.inr ⟨i, rfl⟩) (fun v v1 v2 => by
        by_cases d : v = i
        · rw [d]; exact c
        · exact h5 v (by omega) v2)
      refine ⟨r, se', eh', we', hf', ?_, hr⟩
      rw [← er]
      show f_X4_greatestRun_L17_b fu _ _ s_ tr fi la sh ac no e w h i = _
      unfold f_X4_greatestRun_L17_b
      rw [show jL (Int.toNat 0) = 1 from rfl, jix_of (by omega) (by omega), jck_of (by omega) (by omega) (by omega) (by omega), if_neg (by omega), q_giveSetting (by omega) (by omega), jb_s, eu, e', jb3_s, q_weakSteps w1 w2 (by omega), jb_s, wkN_congr g1, ← hV i, jck_of (by omega) (by omega) (by omega) (by omega), if_pos c]
end Q59

