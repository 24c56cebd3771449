/-! operations that change the roll -/
def SLt (sv is_ slf : Int → Int) (s_se s_tr s_fi s_la s_sh s_ac : Int → Int → Int) (s_no : Int → Int) : Prop := ∀ j, 0 ≤ j → j < 2 → (sv j = 0 ∨ sv j = 1) ∧ is_ j = sv j ∧ (sv j = 1 → RSt (fun i => slf (205 * j + i)) (s_se j) (s_tr j) (s_fi j) (s_la j) (s_sh j) (s_ac j) (s_no j))
section Q54
variable {fu : Nat} {st se tr fi la sh ac hsf sv is_ slf : Int → Int} {no rc ol si : Int} {k_se k_tr k_fi k_la k_sh k_ac : Int → Int → Int} {k_no : Int → Int} {s_se s_tr s_fi s_la s_sh s_ac : Int → Int → Int} {s_no : Int → Int}
theorem op_undo (hS : RSt st se tr fi la sh ac no) (hH : HRt rc hsf ol si k_se k_tr k_fi k_la k_sh k_ac k_no) (hf : 2000 ≤ fu) :
    ∃ r se' tr' fi' la' sh' ac' no' si' rc' st', f_X4_undo fu se tr fi la sh ac no ol si k_se k_tr k_fi k_la k_sh k_ac k_no = some (r, se', tr', fi', la', sh', ac', no', si') ∧ f_X5_undo fu rc st hsf = some (r, rc', st') ∧ RSt st' se' tr' fi' la' sh' ac' no' ∧ HRt rc' hsf ol si' k_se k_tr k_fi k_la k_sh k_ac k_no := by
  have hH0 := hH
  obtain ⟨rfl, ⟨s0, s1⟩, ⟨o0, o1⟩, hK⟩ := hH
  unfold f_X4_undo f_X5_undo f_X0_size
  rw [jb_s, jck_of (by omega) (by omega) (by omega) (by omega), jck_of (by omega) (by omega) (by omega) (by omega)]
  by_cases c : rc = 0
  · rw [if_neg (by omega), if_neg (by omega)]
    exact ⟨_, _, _, _, _, _, _, _, _, _, _, rfl, rfl, hS, hH0⟩
  · have hk := hK (rc - 1) (by omega) (by omega)
    rw [if_pos c, if_pos c]
    unfold f_X0_takeBack
    generalize hp : (ol + (rc - 1)) % 6 = p at hk
    have p0 : 0 ≤ p ∧ p < 6 := by omega
    rw [jck_of (by omega) (by omega) (by omega) (by omega), if_neg (by omega), q_placeOf (by omega) (by omega), jb_s, hp, jix_of (by omega) (by omega), m_moves (by omega) (by omega) (by omega) (by omega) (by omega), jb_s]
    have e : (if p = 0 then jb7 (f_X3_become fu se tr fi la sh ac no (k_se 0) (k_tr 0) (k_fi 0) (k_la 0) (k_sh 0) (k_ac 0) (k_no 0)) (fun a1 a2 a3 a4 a5 a6 a7 => some (rc - 1, a1, a2, a3, a4, a5, a6, a7)) else if p = 1 then jb7 (f_X3_become fu se tr fi la sh ac no (k_se 1) (k_tr 1) (k_fi 1) (k_la 1) (k_sh 1) (k_ac 1) (k_no 1)) (fun a1 a2 a3 a4 a5 a6 a7 => some (rc - 1, a1, a2, a3, a4, a5, a6, a7)) else if p = 2 then jb7 (f_X3_become fu se tr fi la sh ac no (k_se 2) (k_tr 2) (k_fi 2) (k_la 2) (k_sh 2) (k_ac 2) (k_no 2)) (fun a1 a2 a3 a4 a5 a6 a7 => some (rc - 1, a1, a2, a3, a4, a5, a6, a7)) else if p = 3 then jb7 (f_X3_become fu se tr fi la sh ac no (k_se 3) (k_tr 3) (k_fi 3) (k_la 3) (k_sh 3) (k_ac 3) (k_no 3)) (fun a1 a2 a3 a4 a5 a6 a7 => some (rc - 1, a1, a2, a3, a4, a5, a6, a7)) else if p = 4 then jb7 (f_X3_become fu se tr fi la sh ac no (k_se 4) (k_tr 4) (k_fi 4) (k_la 4) (k_sh 4) (k_ac 4) (k_no 4)) (fun a1 a2 a3 a4 a5 a6 a7 => some (rc - 1, a1, a2, a3, a4, a5, a6, a7)) else jb7 (f_X3_become fu se tr fi la sh ac no (k_se 5) (k_tr 5) (k_fi 5) (k_la 5) (k_sh 5) (k_ac 5) (k_no 5)) (fun a1 a2 a3 a4 a5 a6 a7 => some (rc - 1, a1, a2, a3, a4, a5, a6, a7))) = some (rc - 1, jcpy (k_se p) se 4, jcpy (k_tr p) tr 40, jcpy (k_fi p) fi 40, jcpy (k_la p) la 40, jcpy (k_sh p) sh 40, jcpy (k_ac p) ac 40, k_no p) := by
      have hA := hk.2.2.2.1
      have hc : p = 0 ∨ p = 1 ∨ p = 2 ∨ p = 3 ∨ p = 4 ∨ p = 5 := by omega
      rcases hc with h | h | h | h | h | h <;> subst h <;> simp (disch := omega) only [if_pos, if_neg] <;> rw [q_become hA (by omega)] <;> rfl
    refine ⟨_, _, _, _, _, _, _, _, _, _, _, (congrArg (fun z => jb8 z (fun si_m2 o_se_m3 o_tr_m4 o_fi_m5 o_la_m6 o_sh_m7 o_ac_m8 o_no_m9 => jb (some si_m2) (fun v10 => some (v10, o_se_m3, o_tr_m4, o_fi_m5, o_la_m6, o_sh_m7, o_ac_m8, o_no_m9, si_m2)))) e).trans rfl, rfl, ?_, rfl, ⟨by omega, by omega⟩, ⟨o0, o1⟩, fun q q0 q1 => hK q q0 (by omega)⟩
    refine RSt_ext hk (fun x x0 x1 => ?_) (EQn_cpy _ _ _) (EQn_cpy _ _ _) (EQn_cpy _ _ _) (EQn_cpy _ _ _) (EQn_cpy _ _ _) (EQn_cpy _ _ _)
    show (if _ then _ else _) = _
    rw [if_pos (by omega)]
    show hsf _ = hsf _
    congr 1
    omega
theorem op_save {x1 : Int} (h1 : rg x1) (hS : RSt st se tr fi la sh ac no) (hL : SLt sv is_ slf s_se s_tr s_fi s_la s_sh s_ac s_no) (hf : 2000 ≤ fu) :
    ∃ r sv' s_se' s_tr' s_fi' s_la' s_sh' s_ac' s_no' is' slf', f_X4_save fu sv se tr fi la sh ac no s_se s_tr s_fi s_la s_sh s_ac s_no x1 = some (r, sv', s_se', s_tr', s_fi', s_la', s_sh', s_ac', s_no') ∧ f_X5_save fu is_ st slf x1 = some (r, is', slf') ∧ SLt sv' is' slf' s_se' s_tr' s_fi' s_la' s_sh' s_ac' s_no' := by
  have a1 := h1.1
  have a2 := h1.2
  have hA := hS.2.2.2.1
  have hn := hS.1.n4
  unfold f_X4_save f_X5_save f_X3_size
  by_cases c : 0 ≤ x1 ∧ x1 < 2
  · obtain ⟨c1, c2⟩ := c
    rw [q_isIn_t (by omega) (by omega) (by omega) (by omega), jb_s, m_in_t (by omega) (by omega) (by omega) (by omega), jb_s, jck_of (by omega) (by omega) (by omega) (by omega), if_pos (show (1 : Int) ≠ 0 by omega), jck_of (by omega) (by omega) (by omega) (by omega), if_pos (show (1 : Int) ≠ 0 by omega), m_moves (by omega) (by omega) (by omega) (by omega) (by omega), jb_s, jix_of (by omega) (by omega), jix_of (by omega) (by omega), hn]
    have gen : ∀ j : Int, x1 = j → SLt (uI sv x1 1) (uI is_ x1 1) (fun q => if 205 * x1 ≤ q ∧ q < 205 * x1 + 205 then st (q - 205 * x1 + 0) else slf q) (uI s_se j (jcpy se (s_se j) 4)) (uI s_tr j (jcpy tr (s_tr j) 40)) (uI s_fi j (jcpy fi (s_fi j) 40)) (uI s_la j (jcpy la (s_la j) 40)) (uI s_sh j (jcpy sh (s_sh j) 40)) (uI s_ac j (jcpy ac (s_ac j) 40)) (uI s_no j no) := by
      intro j hj y y0 y1
      obtain ⟨b1, b2, b3⟩ := hL y y0 y1
      by_cases d : y = j
      · subst d
        rw [hj, uI_s, uI_s, uI_s, uI_s, uI_s, uI_s, uI_s, uI_s, uI_s]
        refine ⟨Or.inr rfl, rfl, fun _ => RSt_ext hS (fun x x0 x1 => ?_) (EQn_cpy _ _ _) (EQn_cpy _ _ _) (EQn_cpy _ _ _) (EQn_cpy _ _ _) (EQn_cpy _ _ _) (EQn_cpy _ _ _)⟩
        show (if _ then _ else _) = _
        rw [if_pos (by omega)]
        congr 1
        omega
      · rw [hj, uI_n _ _ d, uI_n _ _ d, uI_n _ _ d, uI_n _ _ d, uI_n _ _ d, uI_n _ _ d, uI_n _ _ d, uI_n _ _ d, uI_n _ _ d]
        refine ⟨b1, b2, fun h => RSt_ext (b3 h) (fun x x0 x1 => ?_) (EQn_rf _ _) (EQn_rf _ _) (EQn_rf _ _) (EQn_rf _ _) (EQn_rf _ _) (EQn_rf _ _)⟩
        show (if _ then _ else _) = _
        rw [if_neg (by omega)]
    by_cases d : x1 = 0
    · rw [if_pos d, q_become hA (by omega), jb7_s, jix_of (by omega) (by omega), jbo_of (by omega), jb_s, jix_of (by omega) (by omega)]
      exact ⟨_, _, _, _, _, _, _, _, _, _, _, rfl, rfl, gen 0 d⟩
    · rw [if_neg d, q_become hA (by omega), jb7_s, jix_of (by omega) (by omega), jbo_of (by omega), jb_s, jix_of (by omega) (by omega)]
      exact ⟨_, _, _, _, _, _, _, _, _, _, _, rfl, rfl, gen 1 (by omega)⟩
  · rw [q_isIn_f (by omega) a1 a2 (by omega) (by omega) (by omega) (by omega), jb_s, m_in_f (by omega) a1 a2 (by omega) (by omega) (by omega) (by omega), jb_s, jck_of (by omega) (by omega) (by omega) (by omega), if_neg (show ¬ (0 : Int) ≠ 0 by omega), jck_of (by omega) (by omega) (by omega) (by omega), if_neg (show ¬ (0 : Int) ≠ 0 by omega)]
    exact ⟨_, _, _, _, _, _, _, _, _, _, _, rfl, rfl, hL⟩
theorem op_restore {x1 : Int} (h1 : rg x1) (hS : RSt st se tr fi la sh ac no) (hH : HRt rc hsf ol si k_se k_tr k_fi k_la k_sh k_ac k_no) (hL : SLt sv is_ slf s_se s_tr s_fi s_la s_sh s_ac s_no) (hf : 2000 ≤ fu) :
    ∃ r se' tr' fi' la' sh' ac' no' ol' si' k_se' k_tr' k_fi' k_la' k_sh' k_ac' k_no' rc' st' hsf', f_X4_restore fu sv se tr fi la sh ac no ol si k_se k_tr k_fi k_la k_sh k_ac k_no s_se s_tr s_fi s_la s_sh s_ac s_no x1 = some (r, se', tr', fi', la', sh', ac', no', ol', si', k_se', k_tr', k_fi', k_la', k_sh', k_ac', k_no') ∧ f_X5_restore fu rc is_ st hsf slf x1 = some (r, rc', st', hsf') ∧ RSt st' se' tr' fi' la' sh' ac' no' ∧ HRt rc' hsf' ol' si' k_se' k_tr' k_fi' k_la' k_sh' k_ac' k_no' := by
  have a1 := h1.1
  have a2 := h1.2
  unfold f_X4_restore f_X5_restore f_X3_size
  by_cases c : 0 ≤ x1 ∧ x1 < 2
  · obtain ⟨c1, c2⟩ := c
    obtain ⟨b1, b2, b3⟩ := hL x1 c1 c2
    rw [q_isIn_t (by omega) (by omega) (by omega) (by omega), jb_s, m_in_t (by omega) (by omega) (by omega) (by omega), jb_s, jck_of (by omega) (by omega) (by omega) (by omega), if_pos (show (1 : Int) ≠ 0 by omega), jck_of (by omega) (by omega) (by omega) (by omega), if_pos (show (1 : Int) ≠ 0 by omega), jix_of (by omega) (by omega), jix_of (by omega) (by omega), b2, jck_of (by omega) (by omega) (by omega) (by omega), jck_of (by omega) (by omega) (by omega) (by omega)]
    by_cases d : sv x1 = 0
    · rw [if_neg (by omega), if_neg (by omega)]
      exact ⟨_, _, _, _, _, _, _, _, _, _, _, _, _, _, _, _, _, _, _, _, rfl, rfl, hS, hH⟩
    · have hk := b3 (by omega)
      obtain ⟨rc', hsf', ol', si', k1, k2, k3, k4, k5, k6, k7, e1, e2, hH'⟩ := op_record (fu := fu) hS hH hf
      rw [if_pos d, if_pos d, e1, jb9_s, e2, jb2_s, jix_of (by omega) (by omega), m_moves (by omega) (by omega) (by omega) (by omega) (by omega), jb_s, jix_of (by omega) (by omega)]
      have gen : ∀ j : Int, x1 = j → RSt (fun q => if (0 : Int) ≤ q ∧ q < 0 + 205 then slf (q - 0 + 205 * x1) else st q) (jcpy (s_se j) se 4) (jcpy (s_tr j) tr 40) (jcpy (s_fi j) fi 40) (jcpy (s_la j) la 40) (jcpy (s_sh j) sh 40) (jcpy (s_ac j) ac 40) (s_no j) := by
        intro j hj
        subst hj
        refine RSt_ext hk (fun x x0 x1 => ?_) (EQn_cpy _ _ _) (EQn_cpy _ _ _) (EQn_cpy _ _ _) (EQn_cpy _ _ _) (EQn_cpy _ _ _) (EQn_cpy _ _ _)
        show (if _ then _ else _) = _
        rw [if_pos (by omega)]
        show slf _ = slf _
        congr 1
        omega
      by_cases g : x1 = 0
      · have hA : AC (s_ac 0) := by have := hk.2.2.2.1; rw [g] at this; exact this
        have hg := gen 0 g
        rw [if_pos g, q_become hA (by omega), jb7_s, jb_s]
        exact ⟨_, _, _, _, _, _, _, _, _, _, _, _, _, _, _, _, _, _, _, _, rfl, congrArg (fun z => some (z, rc', (fun q => if (0 : Int) ≤ q ∧ q < 0 + 205 then slf (q - 0 + 205 * x1) else st q), hsf')) hg.1.n4, hg, hH'⟩
      · have g1 : x1 = 1 := by omega
        have hA : AC (s_ac 1) := by have := hk.2.2.2.1; rw [g1] at this; exact this
        have hg := gen 1 g1
        rw [if_neg g, q_become hA (by omega), jb7_s, jb_s]
        exact ⟨_, _, _, _, _, _, _, _, _, _, _, _, _, _, _, _, _, _, _, _, rfl, congrArg (fun z => some (z, rc', (fun q => if (0 : Int) ≤ q ∧ q < 0 + 205 then slf (q - 0 + 205 * x1) else st q), hsf')) hg.1.n4, hg, hH'⟩
  · rw [q_isIn_f (by omega) a1 a2 (by omega) (by omega) (by omega) (by omega), jb_s, m_in_f (by omega) a1 a2 (by omega) (by omega) (by omega) (by omega), jb_s, jck_of (by omega) (by omega) (by omega) (by omega), if_neg (show ¬ (0 : Int) ≠ 0 by omega), jck_of (by omega) (by omega) (by omega) (by omega), if_neg (show ¬ (0 : Int) ≠ 0 by omega)]
    exact ⟨_, _, _, _, _, _, _, _, _, _, _, _, _, _, _, _, _, _, _, _, rfl, rfl, hS, hH⟩
end Q54
