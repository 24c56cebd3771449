/-! set, note, drop, shift, accent, insert -/
section Q56
variable {fu : Nat} {st se tr fi la sh ac hsf : Int → Int} {no rc ol si : Int} {k_se k_tr k_fi k_la k_sh k_ac : Int → Int → Int} {k_no : Int → Int}
theorem m_isValue {x1 x2 : Int} (h1 : rg x1) (h2 : rg x2) : f_X5_isValue fu x1 x2 = some (if (x1 = 0 ∧ 1 ≤ x2 ∧ x2 ≤ 9) ∨ (x1 = 1 ∧ 1 ≤ x2 ∧ x2 ≤ 4) ∨ (x1 = 2 ∧ 0 ≤ x2 ∧ x2 ≤ 4) ∨ (x1 = 3 ∧ 2 ≤ x2 ∧ x2 ≤ 12) then 1 else 0) := by
  have a1 := h1.1
  have a2 := h1.2
  have b1 := h2.1
  have b2 := h2.2
  have gen : ∀ a b : Int, -1000 ≤ a → b ≤ 1000 → a ≤ b → jb (f_X5_within fu x2 a b) (fun v1 => jbo v1 (some v1)) = some (if a ≤ x2 ∧ x2 ≤ b then 1 else 0) := by
    intro a b g1 g2 g3
    by_cases c : a ≤ x2 ∧ x2 ≤ b
    · rw [m_in_t c.1 c.2 (by omega) (by omega), jb_s, jbo_of (by omega), if_pos c]
    · rw [m_in_f (by omega) b1 b2 (by omega) (by omega) (by omega) (by omega), jb_s, jbo_of (by omega), if_neg c]
  unfold f_X5_isValue
  rw [jck_of a1 a2 (by omega) (by omega), gen 1 9 (by omega) (by omega) (by omega), gen 1 4 (by omega) (by omega) (by omega), gen 0 4 (by omega) (by omega) (by omega), gen 2 12 (by omega) (by omega) (by omega)]
  by_cases c0 : x1 = 0
  · rw [if_pos c0]
    by_cases d : 1 ≤ x2 ∧ x2 ≤ 9
    · rw [if_pos d, if_pos (Or.inl ⟨c0, d⟩)]
    · rw [if_neg d, if_neg (by omega)]
  rw [if_neg c0]
  by_cases c1 : x1 = 1
  · rw [if_pos c1]
    by_cases d : 1 ≤ x2 ∧ x2 ≤ 4
    · rw [if_pos d, if_pos (by omega)]
    · rw [if_neg d, if_neg (by omega)]
  rw [if_neg c1]
  by_cases c2 : x1 = 2
  · rw [if_pos c2]
    by_cases d : 0 ≤ x2 ∧ x2 ≤ 4
    · rw [if_pos d, if_pos (by omega)]
    · rw [if_neg d, if_neg (by omega)]
  rw [if_neg c2]
  by_cases c3 : x1 = 3
  · rw [if_pos c3]
    by_cases d : 2 ≤ x2 ∧ x2 ≤ 12
    · rw [if_pos d, if_pos (by omega)]
    · rw [if_neg d, if_neg (by omega)]
  rw [if_neg c3, if_neg (by omega), jbo_of (by omega)]
theorem RSt_set {x v : Int} (hS : RSt st se tr fi la sh ac no) (h : (x = 0 ∧ 1 ≤ v ∧ v ≤ 9) ∨ (x = 1 ∧ 1 ≤ v ∧ v ≤ 4) ∨ (x = 2 ∧ 0 ≤ v ∧ v ≤ 4) ∨ (x = 3 ∧ 2 ≤ v ∧ v ≤ 12)) : RSt (uI st x v) (uI se x v) tr fi la sh ac no := by
  obtain ⟨⟨⟨r0, r1, r2, r3⟩, r4, r5⟩, hN, hE, hR⟩ := hS
  refine ⟨⟨?_, ?_, fun k k0 k1 => ?_⟩, hN, ?_, hR⟩
  · unfold uI
    refine ⟨?_, ?_, ?_, ?_⟩ <;> split <;> first | rfl | assumption
  · rw [uI_n _ _ (by omega)]; exact r4
  · rw [uI_n _ _ (by omega), uI_n _ _ (by omega), uI_n _ _ (by omega), uI_n _ _ (by omega), uI_n _ _ (by omega)]
    exact r5 k k0 k1
  · obtain ⟨b1, b2, b3, b4, b5, b6, b7, b8⟩ := hE
    unfold SE uI
    refine ⟨?_, ?_, ?_, ?_, ?_, ?_, ?_, ?_⟩ <;> split <;> omega
theorem op_set {x1 x2 : Int} (h1 : rg x1) (h2 : rg x2) (hS : RSt st se tr fi la sh ac no) (hH : HRt rc hsf ol si k_se k_tr k_fi k_la k_sh k_ac k_no) (hf : 2000 ≤ fu) :
    ∃ r se' ol' si' k_se' k_tr' k_fi' k_la' k_sh' k_ac' k_no' rc' st' hsf', f_X4_set fu se tr fi la sh ac no ol si k_se k_tr k_fi k_la k_sh k_ac k_no x1 x2 = some (r, se', ol', si', k_se', k_tr', k_fi', k_la', k_sh', k_ac', k_no') ∧ f_X5_set fu rc st hsf x1 x2 = some (r, rc', st', hsf') ∧ RSt st' se' tr fi la sh ac no ∧ HRt rc' hsf' ol' si' k_se' k_tr' k_fi' k_la' k_sh' k_ac' k_no' := by
  have a1 := h1.1
  have a2 := h1.2
  have b1 := h2.1
  have b2 := h2.2
  have hR := hS.1
  unfold f_X4_set f_X5_set
  rw [m_isValue h1 h2, jb_s]
  by_cases c : 0 ≤ x1 ∧ x1 < 4
  · obtain ⟨c1, c2⟩ := c
    have hx : x1 = 0 ∨ x1 = 1 ∨ x1 = 2 ∨ x1 = 3 := by omega
    have hst : st x1 = se x1 := by
      rcases hx with h | h | h | h <;> subst h
      · exact hR.s0
      · exact hR.s1
      · exact hR.s2
      · exact hR.s3
    have hiff : ((x1 = 0 ∧ 1 ≤ x2 ∧ x2 ≤ 9) ∨ (x1 = 1 ∧ 1 ≤ x2 ∧ x2 ≤ 4) ∨ (x1 = 2 ∧ 0 ≤ x2 ∧ x2 ≤ 4) ∨ (x1 = 3 ∧ 2 ≤ x2 ∧ x2 ≤ 12)) ↔ (jL (Int.toNat x1) ≤ x2 ∧ x2 ≤ jG (Int.toNat x1)) := by
      rcases hx with h | h | h | h <;> subst h
      · show _ ↔ ((1 : Int) ≤ x2 ∧ x2 ≤ 9); omega
      · show _ ↔ ((1 : Int) ≤ x2 ∧ x2 ≤ 4); omega
      · show _ ↔ ((0 : Int) ≤ x2 ∧ x2 ≤ 4); omega
      · show _ ↔ ((2 : Int) ≤ x2 ∧ x2 ≤ 12); omega
    have hLG : -1000 ≤ jL (Int.toNat x1) ∧ jL (Int.toNat x1) ≤ 1000 ∧ -1000 ≤ jG (Int.toNat x1) ∧ jG (Int.toNat x1) ≤ 1000 := by
      rcases hx with h | h | h | h <;> subst h <;> decide
    rw [q_isIn_t (by omega) (by omega) (by omega) (by omega), jb_s, jck_of (by omega) (by omega) (by omega) (by omega), if_neg (show ¬ (1 : Int) = 0 by omega), jix_of (by omega) (by omega), jix_of (by omega) (by omega)]
    by_cases d : jL (Int.toNat x1) ≤ x2 ∧ x2 ≤ jG (Int.toNat x1)
    · have d' := hiff.mpr d
      obtain ⟨rc', hsf', ol', si', k1, k2, k3, k4, k5, k6, k7, e1, e2, hH'⟩ := op_record (fu := fu) hS hH hf
      rw [q_isIn_t d.1 d.2 (by omega) (by omega), jb_s, if_pos d', jck_of (by omega) (by omega) (by omega) (by omega), if_pos (show (1 : Int) ≠ 0 by omega), jck_of (by omega) (by omega) (by omega) (by omega), if_pos (show (1 : Int) ≠ 0 by omega), q_settingOf (by omega) (by omega), jb_s, e1, jb9_s, q_giveSetting (by omega) (by omega), jb_s, e2, jb2_s, jix_of (by omega) (by omega), jix_of (by omega) (by omega), hst]
      exact ⟨_, _, _, _, _, _, _, _, _, _, _, _, _, _, rfl, rfl, RSt_set hS d', hH'⟩
    · have d' := fun h => d (hiff.mp h)
      rw [q_isIn_f (by omega) b1 b2 (by omega) (by omega) (by omega) (by omega), jb_s, if_neg d', jck_of (by omega) (by omega) (by omega) (by omega), if_neg (show ¬ (0 : Int) ≠ 0 by omega), jck_of (by omega) (by omega) (by omega) (by omega), if_neg (show ¬ (0 : Int) ≠ 0 by omega)]
      exact ⟨_, _, _, _, _, _, _, _, _, _, _, _, _, _, rfl, rfl, hS, hH⟩
  · rw [q_isIn_f (by omega) a1 a2 (by omega) (by omega) (by omega) (by omega), jb_s, if_neg (show ¬ ((x1 = 0 ∧ 1 ≤ x2 ∧ x2 ≤ 9) ∨ (x1 = 1 ∧ 1 ≤ x2 ∧ x2 ≤ 4) ∨ (x1 = 2 ∧ 0 ≤ x2 ∧ x2 ≤ 4) ∨ (x1 = 3 ∧ 2 ≤ x2 ∧ x2 ≤ 12)) by omega), jck_of (by omega) (by omega) (by omega) (by omega), if_pos (show (0 : Int) = 0 from rfl), jck_of (by omega) (by omega) (by omega) (by omega), if_neg (show ¬ (0 : Int) ≠ 0 by omega)]
    exact ⟨_, _, _, _, _, _, _, _, _, _, _, _, _, _, rfl, rfl, hS, hH⟩
theorem op_note {x1 x2 x3 : Int} (h1 : rg x1) (h2 : rg x2) (h3 : rg x3) (hS : RSt st se tr fi la sh ac no) (hH : HRt rc hsf ol si k_se k_tr k_fi k_la k_sh k_ac k_no) (hf : 2000 ≤ fu) :
    ∃ r tr' fi' la' sh' ac' no' ol' si' k_se' k_tr' k_fi' k_la' k_sh' k_ac' k_no' rc' st' hsf', f_X4_note fu se tr fi la sh ac no ol si k_se k_tr k_fi k_la k_sh k_ac k_no x1 x2 x3 = some (r, tr', fi', la', sh', ac', no', ol', si', k_se', k_tr', k_fi', k_la', k_sh', k_ac', k_no') ∧ f_X5_note fu rc st hsf x1 x2 x3 = some (r, rc', st', hsf') ∧ RSt st' se tr' fi' la' sh' ac' no' ∧ HRt rc' hsf' ol' si' k_se' k_tr' k_fi' k_la' k_sh' k_ac' k_no' := by
  have a1 := h1.1
  have a2 := h1.2
  have b1 := h2.1
  have b2 := h2.2
  have c1 := h3.1
  have c2 := h3.2
  have hI := hS.inv
  have hE := hS.2.2.1
  have hR := hS.1
  have n0 := hI.1.1
  have n1 := hI.1.2.1
  unfold f_X4_note f_X5_note
  by_cases t : 0 ≤ x1 ∧ x1 < 12
  · rw [q_isTrack_t t.1 t.2, jb_s, m_isTrack_t t.1 t.2, jb_s, jck_of (by omega) (by omega) (by omega) (by omega), if_pos (show (1 : Int) ≠ 0 by omega), jck_of (by omega) (by omega) (by omega) (by omega), if_pos (show (1 : Int) ≠ 0 by omega)]
    by_cases u : 0 ≤ x2 ∧ x2 < 100
    · rw [q_isStep_t u.1 u.2, jb_s, m_isStep_t u.1 u.2, jb_s, jck_of (by omega) (by omega) (by omega) (by omega), if_neg (show ¬ (1 : Int) = 0 by omega), jck_of (by omega) (by omega) (by omega) (by omega), if_neg (show ¬ (1 : Int) = 0 by omega)]
      by_cases v : 0 ≤ x3 ∧ x3 < 100
      · rw [q_isStep_t v.1 v.2, jb_s, m_isStep_t v.1 v.2, jb_s, jck_of (by omega) (by omega) (by omega) (by omega), if_neg (show ¬ (1 : Int) = 0 by omega), jck_of (by omega) (by omega) (by omega) (by omega), if_neg (show ¬ (1 : Int) = 0 by omega), jck_of (by omega) (by omega) (by omega) (by omega), jck_of (by omega) (by omega) (by omega) (by omega)]
        by_cases w : x2 ≤ x3
        · rw [if_pos w, if_pos w, q_size, jb_s, jix_of (by omega) (by omega), hR.n4, jck_of (by omega) (by omega) (by omega) (by omega), jck_of (by omega) (by omega) (by omega) (by omega)]
          by_cases y : no < 40
          · rw [if_pos y, if_pos (by omega)]
            obtain ⟨z, ez, z01, ziff⟩ := m_isTaken (fu := fu) (t := x1) (a := x2) (b := x3) hR hI.1 a1 a2 b1 b2 c1 c2 (by omega)
            by_cases g : ∃ k, 0 ≤ k ∧ k < no ∧ (tr k = x1 ∧ fi k ≤ x3 ∧ x2 ≤ la k)
            · have := ziff.mpr g
              rw [q_isTaken_t hI.1 a1 a2 b1 b2 c1 c2 (by omega) g, jb_s, ez, jb_s, jck_of (by omega) (by omega) (by omega) (by omega), if_neg (show ¬ (1 : Int) = 0 by omega), jck_of (by omega) (by omega) (by omega) (by omega), if_neg (by omega : ¬ z = 0)]
              exact ⟨_, _, _, _, _, _, _, _, _, _, _, _, _, _, _, _, _, _, _, rfl, rfl, hS, hH⟩
            · have z0 : z = 0 := by
                rcases z01 with h | h
                · exact h
                · exact absurd (ziff.mp h) g
              obtain ⟨rc', hsf', ol', si', k1, k2, k3, k4, k5, k6, k7, e1, e2, hH'⟩ := op_record (fu := fu) hS hH hf
              obtain ⟨p, ep, p0, p1, plo, phi⟩ := q_add (fu := fu) (t := x1) (a := x2) (b := x3) (s_ := 0) (x := 0) hI.1 hI.2.2.1 hI.2.1 y t.1 t.2 u.1 u.2 (Or.inl rfl) (by omega)
              have hfree : ∀ k, 0 ≤ k → k < no → ¬ (tr k = x1 ∧ fi k ≤ x3 ∧ x2 ≤ la k) := fun k k0 k1 h => g ⟨k, k0, k1, h⟩
              have phi' := free_lt hI t.1 t.2 u.1 w hfree p0 phi
              obtain ⟨st', es, hR', -⟩ := m_putIn (fu := fu) (t := x1) (a := x2) (b := x3) (s_ := 0) (x := 0) hR hI.1 y t.1 t.2 u.1 u.2 p0 p1 plo phi' (by omega)
              rw [q_isTaken_f hI.1 a1 a2 b1 b2 c1 c2 (by omega) g, jb_s, ez, jb_s, jck_of (by omega) (by omega) (by omega) (by omega), if_pos (show (0 : Int) = 0 from rfl), jck_of (by omega) (by omega) (by omega) (by omega), if_pos z0, e1, jb9_s, ep, jb7_s, e2, jb2_s, es, jb2_s]
              exact ⟨_, _, _, _, _, _, _, _, _, _, _, _, _, _, _, _, _, _, _, rfl, rfl, RSt_of hR' hE (INV_ins hI y t.1 t.2 u.1 w v.2 (by omega) (by omega) (Or.inl rfl) hfree p0 p1 plo phi'), hH'⟩
          · rw [if_neg y, if_neg (by omega)]
            exact ⟨_, _, _, _, _, _, _, _, _, _, _, _, _, _, _, _, _, _, _, rfl, rfl, hS, hH⟩
        · rw [if_neg w, if_neg w]
          exact ⟨_, _, _, _, _, _, _, _, _, _, _, _, _, _, _, _, _, _, _, rfl, rfl, hS, hH⟩
      · rw [q_isStep_f (by omega) c1 c2, jb_s, m_isStep_f (by omega) c1 c2, jb_s, jck_of (by omega) (by omega) (by omega) (by omega), if_pos (show (0 : Int) = 0 from rfl), jck_of (by omega) (by omega) (by omega) (by omega), if_pos (show (0 : Int) = 0 from rfl)]
        exact ⟨_, _, _, _, _, _, _, _, _, _, _, _, _, _, _, _, _, _, _, rfl, rfl, hS, hH⟩
    · rw [q_isStep_f (by omega) b1 b2, jb_s, m_isStep_f (by omega) b1 b2, jb_s, jck_of (by omega) (by omega) (by omega) (by omega), if_pos (show (0 : Int) = 0 from rfl), jck_of (by omega) (by omega) (by omega) (by omega), if_pos (show (0 : Int) = 0 from rfl)]
      exact ⟨_, _, _, _, _, _, _, _, _, _, _, _, _, _, _, _, _, _, _, rfl, rfl, hS, hH⟩
  · rw [q_isTrack_f (by omega) a1 a2, jb_s, m_isTrack_f (by omega) a1 a2, jb_s, jck_of (by omega) (by omega) (by omega) (by omega), if_neg (show ¬ (0 : Int) ≠ 0 by omega), jck_of (by omega) (by omega) (by omega) (by omega), if_neg (show ¬ (0 : Int) ≠ 0 by omega)]
    exact ⟨_, _, _, _, _, _, _, _, _, _, _, _, _, _, _, _, _, _, _, rfl, rfl, hS, hH⟩
theorem op_drop {x1 : Int} (h1 : rg x1) (hS : RSt st se tr fi la sh ac no) (hH : HRt rc hsf ol si k_se k_tr k_fi k_la k_sh k_ac k_no) (hf : 2000 ≤ fu) :
    ∃ r tr' fi' la' sh' ac' no' ol' si' k_se' k_tr' k_fi' k_la' k_sh' k_ac' k_no' rc' st' hsf', f_X4_drop fu se tr fi la sh ac no ol si k_se k_tr k_fi k_la k_sh k_ac k_no x1 = some (r, tr', fi', la', sh', ac', no', ol', si', k_se', k_tr', k_fi', k_la', k_sh', k_ac', k_no') ∧ f_X5_drop fu rc st hsf x1 = some (r, rc', st', hsf') ∧ RSt st' se tr' fi' la' sh' ac' no' ∧ HRt rc' hsf' ol' si' k_se' k_tr' k_fi' k_la' k_sh' k_ac' k_no' := by
  have a1 := h1.1
  have a2 := h1.2
  have hI := hS.inv
  have hE := hS.2.2.1
  have hR := hS.1
  have n0 := hI.1.1
  have n1 := hI.1.2.1
  unfold f_X4_drop f_X5_drop
  by_cases c : 0 ≤ x1 ∧ x1 < no
  · obtain ⟨c1, c2⟩ := c
    obtain ⟨rc', hsf', ol', si', k1, k2, k3, k4, k5, k6, k7, e1, e2, hH'⟩ := op_record (fu := fu) hS hH hf
    obtain ⟨st', es, hR', hn'⟩ := m_takeOut (fu := fu) (x := x1) hR c1 c2 n1 (by omega)
    rw [q_has_t c1 c2 n1, jb_s, m_isNote_t hR c1 c2 n1, jb_s, jck_of (by omega) (by omega) (by omega) (by omega), if_pos (show (1 : Int) ≠ 0 by omega), jck_of (by omega) (by omega) (by omega) (by omega), if_pos (show (1 : Int) ≠ 0 by omega), e1, jb9_s, q_remove hI.2.1 n1 c1 c2 (by omega), jb6_s, q_size, jb_s, e2, jb2_s, es, jb_s, jix_of (by omega) (by omega), hn']
    exact ⟨_, _, _, _, _, _, _, _, _, _, _, _, _, _, _, _, _, _, _, rfl, rfl, RSt_of hR' hE (INV_shd hI c1 c2), hH'⟩
  · rw [q_has_f (by omega) n0 n1 a1 a2, jb_s, m_isNote_f hR (by omega) n0 n1 a1 a2, jb_s, jck_of (by omega) (by omega) (by omega) (by omega), if_neg (show ¬ (0 : Int) ≠ 0 by omega), jck_of (by omega) (by omega) (by omega) (by omega), if_neg (show ¬ (0 : Int) ≠ 0 by omega)]
    exact ⟨_, _, _, _, _, _, _, _, _, _, _, _, _, _, _, _, _, _, _, rfl, rfl, hS, hH⟩
theorem op_shift {x1 x2 : Int} (h1 : rg x1) (h2 : rg x2) (hS : RSt st se tr fi la sh ac no) (hH : HRt rc hsf ol si k_se k_tr k_fi k_la k_sh k_ac k_no) (hf : 2000 ≤ fu) :
    ∃ r sh' ol' si' k_se' k_tr' k_fi' k_la' k_sh' k_ac' k_no' rc' st' hsf', f_X4_shift fu se tr fi la sh ac no ol si k_se k_tr k_fi k_la k_sh k_ac k_no x1 x2 = some (r, sh', ol', si', k_se', k_tr', k_fi', k_la', k_sh', k_ac', k_no') ∧ f_X5_shift fu rc st hsf x1 x2 = some (r, rc', st', hsf') ∧ RSt st' se tr fi la sh' ac no ∧ HRt rc' hsf' ol' si' k_se' k_tr' k_fi' k_la' k_sh' k_ac' k_no' := by
  have a1 := h1.1
  have a2 := h1.2
  have b1 := h2.1
  have b2 := h2.2
  have hI := hS.inv
  have hE := hS.2.2.1
  have hR := hS.1
  have n0 := hI.1.1
  have n1 := hI.1.2.1
  unfold f_X4_shift f_X5_shift f_X5_shift_J18
  by_cases c : 0 ≤ x1 ∧ x1 < no
  · obtain ⟨c1, c2⟩ := c
    rw [q_has_t c1 c2 n1, jb_s, m_isNote_t hR c1 c2 n1, jb_s, jb_s, jck_of (by omega) (by omega) (by omega) (by omega), if_pos (show (1 : Int) ≠ 0 by omega), jck_of (by omega) (by omega) (by omega) (by omega), if_neg (show ¬ (1 : Int) = 0 by omega)]
    by_cases d : 0 ≤ x2 ∧ x2 ≤ 12
    · obtain ⟨rc', hsf', ol', si', k1, k2, k3, k4, k5, k6, k7, e1, e2, hH'⟩ := op_record (fu := fu) hS hH hf
      rw [q_isIn_t d.1 d.2 (by omega) (by omega), jb_s, m_in_t d.1 d.2 (by omega) (by omega), jb_s, jck_of (by omega) (by omega) (by omega) (by omega), if_pos (show (1 : Int) ≠ 0 by omega), jck_of (by omega) (by omega) (by omega) (by omega), if_pos (show (1 : Int) ≠ 0 by omega), q_shiftOf c1 c2 n1, jb_s, e1, jb9_s, q_giveShift c1 c2 n1, jb_s, e2, jb2_s, m_p3 hR c1 c2 n1, jb_s, m_set c1 (by omega) (by omega) (by omega), jb_s]
      exact ⟨_, _, _, _, _, _, _, _, _, _, _, _, _, _, rfl, rfl, RSt_of (RLm_3 hR c1) hE (INV_sh hI d.1 d.2), hH'⟩
    · rw [q_isIn_f (by omega) b1 b2 (by omega) (by omega) (by omega) (by omega), jb_s, m_in_f (by omega) b1 b2 (by omega) (by omega) (by omega) (by omega), jb_s, jck_of (by omega) (by omega) (by omega) (by omega), if_neg (show ¬ (0 : Int) ≠ 0 by omega), jck_of (by omega) (by omega) (by omega) (by omega), if_neg (show ¬ (0 : Int) ≠ 0 by omega), jck_of (by omega) (by omega) (by omega) (by omega), if_neg (show ¬ (1 : Int) = 0 by omega)]
      exact ⟨_, _, _, _, _, _, _, _, _, _, _, _, _, _, rfl, rfl, hS, hH⟩
  · rw [q_has_f (by omega) n0 n1 a1 a2, jb_s, m_isNote_f hR (by omega) n0 n1 a1 a2, jb_s, jb_s, jck_of (by omega) (by omega) (by omega) (by omega), if_neg (show ¬ (0 : Int) ≠ 0 by omega), jck_of (by omega) (by omega) (by omega) (by omega), if_pos (show (0 : Int) = 0 from rfl), jck_of (by omega) (by omega) (by omega) (by omega), if_pos (show (0 : Int) = 0 from rfl)]
    exact ⟨_, _, _, _, _, _, _, _, _, _, _, _, _, _, rfl, rfl, hS, hH⟩
theorem op_accent {x1 x2 : Int} (h1 : rg x1) (hx : x2 = 0 ∨ x2 = 1) (hS : RSt st se tr fi la sh ac no) (hH : HRt rc hsf ol si k_se k_tr k_fi k_la k_sh k_ac k_no) (hf : 2000 ≤ fu) :
    ∃ r ac' ol' si' k_se' k_tr' k_fi' k_la' k_sh' k_ac' k_no' rc' st' hsf', f_X4_accent fu se tr fi la sh ac no ol si k_se k_tr k_fi k_la k_sh k_ac k_no x1 x2 = some (r, ac', ol', si', k_se', k_tr', k_fi', k_la', k_sh', k_ac', k_no') ∧ f_X5_accent fu rc st hsf x1 x2 = some (r, rc', st', hsf') ∧ RSt st' se tr fi la sh ac' no ∧ HRt rc' hsf' ol' si' k_se' k_tr' k_fi' k_la' k_sh' k_ac' k_no' := by
  have a1 := h1.1
  have a2 := h1.2
  have hI := hS.inv
  have hE := hS.2.2.1
  have hR := hS.1
  have n0 := hI.1.1
  have n1 := hI.1.2.1
  unfold f_X4_accent f_X5_accent f_X5_accent_J33
  by_cases c : 0 ≤ x1 ∧ x1 < no
  · obtain ⟨c1, c2⟩ := c
    obtain ⟨rc', hsf', ol', si', k1, k2, k3, k4, k5, k6, k7, e1, e2, hH'⟩ := op_record (fu := fu) hS hH hf
    rw [q_has_t c1 c2 n1, jb_s, m_isNote_t hR c1 c2 n1, jb_s, jck_of (by omega) (by omega) (by omega) (by omega), if_pos (show (1 : Int) ≠ 0 by omega), jck_of (by omega) (by omega) (by omega) (by omega), if_pos (show (1 : Int) ≠ 0 by omega), q_hasAccent hI.2.1 c1 c2 n1, jb_s, e1, jb9_s, q_giveAccent hx c1 c2 n1, jb_s, q_asNumber (hI.2.1 x1 c1 (by omega)), jb_s, e2, jb2_s, m_p4 hR c1 c2 n1, jb_s, jck_of (by omega) (by omega) (by omega) (by omega)]
    rcases hx with h | h
    · rw [if_pos h, m_set c1 (by omega) (by omega) (by omega), jb_s, h]
      exact ⟨_, _, _, _, _, _, _, _, _, _, _, _, _, _, rfl, rfl, RSt_of (RLm_4 hR c1) hE (INV_ac hI (Or.inl rfl)), hH'⟩
    · rw [if_neg (by omega), m_set c1 (by omega) (by omega) (by omega), jb_s, h]
      exact ⟨_, _, _, _, _, _, _, _, _, _, _, _, _, _, rfl, rfl, RSt_of (RLm_4 hR c1) hE (INV_ac hI (Or.inr rfl)), hH'⟩
  · rw [q_has_f (by omega) n0 n1 a1 a2, jb_s, m_isNote_f hR (by omega) n0 n1 a1 a2, jb_s, jck_of (by omega) (by omega) (by omega) (by omega), if_neg (show ¬ (0 : Int) ≠ 0 by omega), jck_of (by omega) (by omega) (by omega) (by omega), if_neg (show ¬ (0 : Int) ≠ 0 by omega)]
    exact ⟨_, _, _, _, _, _, _, _, _, _, _, _, _, _, rfl, rfl, hS, hH⟩
end Q56
