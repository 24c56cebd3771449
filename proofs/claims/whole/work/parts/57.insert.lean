/-! insert -/
section Q57
variable {fu : Nat} {st se tr fi la sh ac hsf : Int → Int} {no rc ol si : Int} {k_se k_tr k_fi k_la k_sh k_ac : Int → Int → Int} {k_no : Int → Int}
theorem m_fits {x1 x2 : Int} {k : Option (Int × Int × (Int → Int) × (Int → Int))} (hR : RLm st se tr fi la sh ac no) (hN : NT tr fi la sh no) (h1 : 0 ≤ x1) (h2 : x1 < 100) (h3 : 1 ≤ x2) (h4 : x2 ≤ 50) (hf : 100 ≤ fu) :
    ∃ b : Prop, (b ↔ ∀ q, 0 ≤ q → q < no → la q < x1 ∨ la q + x2 < 100) ∧ (b → f_X5_insert_L22 fu rc st hsf x1 x2 k fu 0 = k) ∧ (¬ b → f_X5_insert_L22 fu rc st hsf x1 x2 k fu 0 = some (-5, rc, st, hsf)) := by
  have n0 := hN.1
  have n1 := hN.2.1
  refine ⟨_, Iff.rfl, ?_, ?_⟩
  · intro hb
    obtain ⟨t, e, -⟩ := loop_upI (L := fun q (_ : Unit) i => f_X5_insert_L22 fu rc st hsf x1 x2 k q i) (fun _ => k) (fun i _ => 0 ≤ i) no
      (fun q s hI => by
        show f_X5_insert_L22_b fu rc st hsf x1 x2 k _ no = _
        unfold f_X5_insert_L22_b
        rw [hR.n4, jix_of (by omega) (by omega), jck_of (by omega) (by omega) (by omega) (by omega), if_pos (by omega)])
      (fun q s i hi hI => by
        obtain ⟨a1, a2, a3, a4, a5, -, -⟩ := hN.2.2 i hI hi
        have := hb i hI hi
        refine ⟨(), ?_, by omega⟩
        show f_X5_insert_L22_b fu rc st hsf x1 x2 k _ i = _
        unfold f_X5_insert_L22_b
        rw [hR.n4, jix_of (by omega) (by omega), jck_of (by omega) (by omega) (by omega) (by omega), if_neg (by omega), m_p2 hR hI hi n1, jb_s, jck_of (by omega) (by omega) (by omega) (by omega)]
        by_cases c : la i < x1
        · rw [if_pos c]
        · rw [if_neg c, jb_s, jck_of (by omega) (by omega) (by omega) (by omega), if_pos (by omega)])
      no.toNat fu () 0 (by omega) (by omega) (by omega)
    exact e
  · intro hb
    have key : ∀ (n fuel : Nat) (i : Int), 0 ≤ i → i + n = no → n < fuel → (∀ q, 0 ≤ q → q < i → la q < x1 ∨ la q + x2 < 100) → f_X5_insert_L22 fu rc st hsf x1 x2 k fuel i = some (-5, rc, st, hsf) := by
      intro n
      induction n with
      | zero =>
        intro fuel i i0 i1 i2 i3
        exact absurd (fun q q0 q1 => i3 q q0 (by omega)) hb
      | succ n ih =>
        intro fuel i i0 i1 i2 i3
        obtain ⟨q, rfl⟩ : ∃ q, fuel = q + 1 := ⟨fuel - 1, by omega⟩
        obtain ⟨a1, a2, a3, a4, a5, -, -⟩ := hN.2.2 i i0 (by omega)
        show f_X5_insert_L22_b fu rc st hsf x1 x2 k _ i = _
        unfold f_X5_insert_L22_b
        rw [hR.n4, jix_of (by omega) (by omega), jck_of (by omega) (by omega) (by omega) (by omega), if_neg (by omega), m_p2 hR i0 (by omega) n1, jb_s, jck_of (by omega) (by omega) (by omega) (by omega)]
        by_cases c : la i < x1 ∨ la i + x2 < 100
        · have e := ih q (i + 1) (by omega) (by omega) (by omega) (fun y y0 y1 => by
            by_cases d : y = i
            · subst d; exact c
            · exact i3 y y0 (by omega))
          by_cases d : la i < x1
          · rw [if_pos d]; exact e
          · rw [if_neg d, jb_s, jck_of (by omega) (by omega) (by omega) (by omega), if_pos (by omega)]; exact e
        · rw [if_neg (by omega), jb_s, jck_of (by omega) (by omega) (by omega) (by omega), if_neg (by omega)]
    exact key no.toNat fu 0 (by omega) (by omega) (by omega) (fun q h1 h2 => by omega)
theorem m_len {x1 x2 : Int} (hR : RLm st se tr fi la sh ac no) (hN : NT tr fi la sh no) (h1 : 0 ≤ x1) (h2 : x1 < 100) (h3 : 1 ≤ x2) (h4 : x2 ≤ 50) (hf : 100 ≤ fu) :
    ∃ st', f_X5_insert_L73 fu x1 x2 (f_X5_insert_X199 fu) fu rc st hsf 0 0 = some (fdA (sLen fi la x1) 0 0 no, rc, st', hsf) ∧ RLm st' se tr (jcpy (sFi fi x1 x2) fi no) (jcpy (sLa la x1 x2) la no) sh ac no := by
  have n0 := hN.1
  have n1 := hN.2.1
  obtain ⟨p, e, i1, i2, i3⟩ := loop_upI (L := fun q (s : (Int → Int) × Int) i => f_X5_insert_L73 fu x1 x2 (f_X5_insert_X199 fu) q rc s.1 hsf s.2 i) (fun s => f_X5_insert_X199 fu rc s.1 hsf s.2)
    (fun i s => 0 ≤ i ∧ s.2 = fdA (sLen fi la x1) 0 0 i ∧ RLm s.1 se tr (jcpy (sFi fi x1 x2) fi i) (jcpy (sLa la x1 x2) la i) sh ac no) no
    (fun q s hI => by
      show f_X5_insert_L73_b fu x1 x2 _ _ rc s.1 hsf s.2 no = _
      unfold f_X5_insert_L73_b
      rw [hI.2.2.n4, jix_of (by omega) (by omega), jck_of (by omega) (by omega) (by omega) (by omega), if_pos (by omega)])
    (fun q s i hi hI => by
      obtain ⟨i1, i2, i3⟩ := hI
      obtain ⟨a1, a2, a3, a4, a5, -, -⟩ := hN.2.2 i i1 hi
      have r1 := RLm_1 (v := sFi fi x1 x2 i) i3 i1
      rw [jcpy_s _ _ i1] at r1
      have r2 := RLm_2 (v := sLa la x1 x2 i) r1 i1
      rw [jcpy_s _ _ i1] at r2
      refine ⟨(uI (uI s.1 (5 + 5 * i + 1) (sFi fi x1 x2 i)) (5 + 5 * i + 2) (sLa la x1 x2 i), sLen fi la x1 i s.2), ?_, by omega, by rw [fdA_s _ _ i1, ← i2], r2⟩
      show f_X5_insert_L73_b fu x1 x2 _ _ rc s.1 hsf s.2 i = f_X5_insert_L73 fu x1 x2 (f_X5_insert_X199 fu) q rc (uI (uI s.1 (5 + 5 * i + 1) (sFi fi x1 x2 i)) (5 + 5 * i + 2) (sLa la x1 x2 i)) hsf (sLen fi la x1 i s.2) (i + 1)
      unfold f_X5_insert_L73_b f_X5_insert_J100 f_X5_insert_J122 f_X5_insert_J123 f_X5_insert_J136 f_X5_insert_J159 f_X5_insert_J184 f_X5_insert_J189
      have e1 : f_X5_part fu s.1 i 1 = some (fi i) := by rw [m_p1 i3 i1 hi n1, jcpy_at]
      have e2 : f_X5_part fu s.1 i 2 = some (la i) := by rw [m_p2 i3 i1 hi n1, jcpy_at]
      have e3 : ∀ v, f_X5_part fu (uI s.1 (5 + 5 * i + 1) v) i 2 = some (la i) := fun v => by
        rw [m_part i1 (by omega) (by omega) (by omega), uI_n _ _ (by omega)]
        rw [m_part i1 (by omega) (by omega) (by omega)] at e2
        exact e2
      have e4 : ∀ v, f_X5_setPart fu s.1 i 1 v = some (uI s.1 (5 + 5 * i + 1) v) := fun v => m_set i1 (by omega) (by omega) (by omega)
      have e5 : ∀ v w, f_X5_setPart fu (uI s.1 (5 + 5 * i + 1) v) i 2 w = some (uI (uI s.1 (5 + 5 * i + 1) v) (5 + 5 * i + 2) w) := fun v w => m_set i1 (by omega) (by omega) (by omega)
      rw [i3.n4, jix_of (by omega) (by omega), jck_of (by omega) (by omega) (by omega) (by omega), if_neg (by omega)]
      simp only [e1, e2, e4, e3, e5, jb_s]
      rw [jck_of (by omega) (by omega) (by omega) (by omega)]
      unfold sFi sLa sLen
      by_cases c : fi i < x1
      · rw [if_pos c, if_pos c, jck_of (by omega) (by omega) (by omega) (by omega), if_neg (show ¬ (0 : Int) ≠ 0 by omega), jck_of (by omega) (by omega) (by omega) (by omega)]
        by_cases d : la i < x1
        · rw [if_pos d, if_pos d, if_neg (show ¬ (fi i < x1 ∧ x1 ≤ la i) by omega)]
          simp (disch := omega) only [jck_of, if_pos, if_neg, Int.add_zero, if_true, ne_eq, not_true, if_false]
        · rw [if_neg d, if_neg d, if_pos (show fi i < x1 ∧ x1 ≤ la i by omega)]
          simp (disch := omega) only [jck_of, if_pos, if_neg, Int.add_zero, if_true, ne_eq, not_true, if_false]
      · rw [if_neg c, if_neg c, jck_of (by omega) (by omega) (by omega) (by omega), if_pos (show (1 : Int) ≠ 0 by omega), if_neg (show ¬ la i < x1 by omega), if_neg (show ¬ (fi i < x1 ∧ x1 ≤ la i) by omega)]
        simp (disch := omega) only [jck_of, if_pos, if_neg, Int.add_zero, if_true, ne_eq, not_true, if_false])
    no.toNat fu (st, 0) 0 (by omega) (by omega) ⟨by omega, by rw [fdA_0], by rw [jcpy_0, jcpy_0]; exact hR⟩
  refine ⟨p.1, ?_, i3⟩
  have e' : f_X5_insert_L73 fu x1 x2 (f_X5_insert_X199 fu) fu rc st hsf 0 0 = f_X5_insert_X199 fu rc p.1 hsf p.2 := e
  rw [e', i2]
  rfl
theorem op_insert {x1 x2 : Int} (h1 : rg x1) (h2 : rg x2) (hS : RSt st se tr fi la sh ac no) (hH : HRt rc hsf ol si k_se k_tr k_fi k_la k_sh k_ac k_no) (hf : 2000 ≤ fu) :
    ∃ r fi' la' ol' si' k_se' k_tr' k_fi' k_la' k_sh' k_ac' k_no' rc' st' hsf', f_X4_insert fu se tr fi la sh ac no ol si k_se k_tr k_fi k_la k_sh k_ac k_no x1 x2 = some (r, fi', la', ol', si', k_se', k_tr', k_fi', k_la', k_sh', k_ac', k_no') ∧ f_X5_insert fu rc st hsf x1 x2 = some (r, rc', st', hsf') ∧ RSt st' se tr fi' la' sh ac no ∧ HRt rc' hsf' ol' si' k_se' k_tr' k_fi' k_la' k_sh' k_ac' k_no' := by
  have a1 := h1.1
  have a2 := h1.2
  have b1 := h2.1
  have b2 := h2.2
  have hI := hS.inv
  have hE := hS.2.2.1
  have hR := hS.1
  have n0 := hI.1.1
  have n1 := hI.1.2.1
  unfold f_X4_insert f_X5_insert
  by_cases c : 0 ≤ x1 ∧ x1 < 100
  · obtain ⟨c1, c2⟩ := c
    rw [q_isStep_t c1 c2, jb_s, m_isStep_t c1 c2, jb_s, jck_of (by omega) (by omega) (by omega) (by omega), if_neg (show ¬ (1 : Int) = 0 by omega), jck_of (by omega) (by omega) (by omega) (by omega), if_neg (show ¬ (1 : Int) = 0 by omega)]
    by_cases d : 1 ≤ x2 ∧ x2 ≤ 50
    · obtain ⟨d1, d2⟩ := d
      obtain ⟨g, eg, g0, g1, g2, g3⟩ := q_greatestLast (fu := fu) hI.1 (by omega)
      obtain ⟨b, bi, bt, bf⟩ := m_fits (fu := fu) (rc := rc) (hsf := hsf) (k := f_X5_insert_X64 fu rc st hsf x1 x2) hR hI.1 c1 c2 d1 d2 (by omega)
      rw [q_isIn_t d1 d2 (by omega) (by omega), jb_s, m_in_t d1 d2 (by omega) (by omega), jb_s, jck_of (by omega) (by omega) (by omega) (by omega), if_pos (show (1 : Int) ≠ 0 by omega), jck_of (by omega) (by omega) (by omega) (by omega), if_pos (show (1 : Int) ≠ 0 by omega), eg, jb_s, jck_of (by omega) (by omega) (by omega) (by omega)]
      have go : (∀ q, 0 ≤ q → q < no → la q < x1 ∨ la q + x2 < 100) → ∃ r fi' la' ol' si' k_se' k_tr' k_fi' k_la' k_sh' k_ac' k_no' rc' st' hsf', f_X4_insert_J44 fu se tr fi la sh ac no ol si k_se k_tr k_fi k_la k_sh k_ac k_no x1 x2 = some (r, fi', la', ol', si', k_se', k_tr', k_fi', k_la', k_sh', k_ac', k_no') ∧ f_X5_insert_L22 fu rc st hsf x1 x2 (f_X5_insert_X64 fu rc st hsf x1 x2) fu 0 = some (r, rc', st', hsf') ∧ RSt st' se tr fi' la' sh ac no ∧ HRt rc' hsf' ol' si' k_se' k_tr' k_fi' k_la' k_sh' k_ac' k_no' := by
        intro hl
        obtain ⟨rc', hsf', ol', si', k1, k2, k3, k4, k5, k6, k7, e1, e2, hH'⟩ := op_record (fu := fu) hS hH hf
        obtain ⟨st', es, hR'⟩ := m_len (fu := fu) (rc := rc') (hsf := hsf') hR hI.1 c1 c2 d1 d2 (by omega)
        rw [bt (bi.mpr hl)]
        unfold f_X4_insert_J44 f_X5_insert_X64
        rw [e1, jb9_s, q_lengthen hI.1 c1 c2 (by omega), jb3_s, e2, jb2_s, es]
        exact ⟨_, _, _, _, _, _, _, _, _, _, _, _, _, _, _, rfl, rfl, RSt_of hR' hE (INV_len hI c1 (by omega) hl), hH'⟩
      by_cases y : g < x1
      · rw [if_pos y]
        exact go (fun q q0 q1 => Or.inl (by have := g2 q q0 q1; omega))
      · rw [if_neg y, jck_of (by omega) (by omega) (by omega) (by omega)]
        by_cases z : g + x2 < 100
        · rw [if_pos z]
          exact go (fun q q0 q1 => Or.inr (by have := g2 q q0 q1; omega))
        · rw [if_neg z, bf (fun hb => by
            have hl := bi.mp hb
            rcases g3 with h | ⟨k, k0, k1, k2⟩
            · omega
            · have := hl k k0 k1
              omega)]
          exact ⟨_, _, _, _, _, _, _, _, _, _, _, _, _, _, _, rfl, rfl, hS, hH⟩
    · rw [q_isIn_f (by omega) b1 b2 (by omega) (by omega) (by omega) (by omega), jb_s, m_in_f (by omega) b1 b2 (by omega) (by omega) (by omega) (by omega), jb_s, jck_of (by omega) (by omega) (by omega) (by omega), if_neg (show ¬ (0 : Int) ≠ 0 by omega), jck_of (by omega) (by omega) (by omega) (by omega), if_neg (show ¬ (0 : Int) ≠ 0 by omega)]
      exact ⟨_, _, _, _, _, _, _, _, _, _, _, _, _, _, _, rfl, rfl, hS, hH⟩
  · rw [q_isStep_f (by omega) a1 a2, jb_s, m_isStep_f (by omega) a1 a2, jb_s, jck_of (by omega) (by omega) (by omega) (by omega), if_pos (show (0 : Int) = 0 from rfl), jck_of (by omega) (by omega) (by omega) (by omega), if_pos (show (0 : Int) = 0 from rfl)]
    exact ⟨_, _, _, _, _, _, _, _, _, _, _, _, _, _, _, rfl, rfl, hS, hH⟩
end Q57
