/-! what our side changes, alone -/
def cR (tr fi la sh ac : Int → Int) (q : Int) : Int × Int × Int × Int := (100 * fi q + tr q, la q, sh q, ac q)
theorem SE_ext {se se' : Int → Int} (h : SE se) (e : EQn 4 se' se) : SE se' := by
  unfold SE
  rw [e 0 (by omega) (by omega), e 1 (by omega) (by omega), e 2 (by omega) (by omega), e 3 (by omega) (by omega)]
  exact h
theorem INV_ext {tr fi la sh ac tr' fi' la' sh' ac' : Int → Int} {no : Int} (h : INV tr fi la sh ac no) (h2 : EQn 40 tr' tr) (h3 : EQn 40 fi' fi) (h4 : EQn 40 la' la) (h5 : EQn 40 sh' sh) (h6 : EQn 40 ac' ac) : INV tr' fi' la' sh' ac' no := by
  obtain ⟨hN, hA, hO, hD⟩ := h
  have n1 := hN.2.1
  refine ⟨⟨hN.1, n1, fun k k0 k1 => ?_⟩, fun k k0 k1 => ?_, fun j k j0 jk k1 => ?_, fun j k j0 jk k1 => ?_⟩
  · rw [h2 k k0 (by omega), h3 k k0 (by omega), h4 k k0 (by omega), h5 k k0 (by omega)]
    exact hN.2.2 k k0 k1
  · rw [h6 k k0 k1]; exact hA k k0 k1
  · unfold kO
    rw [h2 j j0 (by omega), h3 j j0 (by omega), h2 k (by omega) (by omega), h3 k (by omega) (by omega)]
    exact hO j k j0 jk k1
  · rw [h2 j j0 (by omega), h4 j j0 (by omega), h2 k (by omega) (by omega), h3 k (by omega) (by omega)]
    exact hD j k j0 jk k1
theorem cR_ext {tr fi la sh ac tr' fi' la' sh' ac' : Int → Int} {n q : Int} (h2 : EQn n tr' tr) (h3 : EQn n fi' fi) (h4 : EQn n la' la) (h5 : EQn n sh' sh) (h6 : EQn n ac' ac) (q0 : 0 ≤ q) (q1 : q < n) : cR tr' fi' la' sh' ac' q = cR tr fi la sh ac q := by
  unfold cR
  rw [h2 q q0 q1, h3 q q0 q1, h4 q q0 q1, h5 q q0 q1, h6 q q0 q1]
theorem ins_old {p no q : Int} (h0 : 0 ≤ q) (h1 : q < no) (hp : 0 ≤ p) : ∃ q', 0 ≤ q' ∧ q' < no + 1 ∧ ∀ (f : Int → Int) (x : Int), ins f p x no q' = f q := by
  by_cases c : q < p
  · exact ⟨q, h0, by omega, fun f x => ins_lt f c⟩
  · exact ⟨q + 1, by omega, by omega, fun f x => by rw [ins_gt f (by omega) (by omega), show q + 1 - 1 = q by omega]⟩
section Q66
variable {fu : Nat} {se tr fi la sh ac u_se u_tr u_fi u_la u_sh u_ac : Int → Int} {no u_no ol si : Int} {k_se k_tr k_fi k_la k_sh k_ac : Int → Int → Int} {k_no : Int → Int}
theorem ca_rec (hA : AC ac) (hH : HS ol si) (hf : 100 ≤ fu) : ∃ ol' si' k1 k2 k3 k4 k5 k6 k7, f_X0_record fu ol si k_se k_tr k_fi k_la k_sh k_ac k_no se tr fi la sh ac no = some (ol', si', k1, k2, k3, k4, k5, k6, k7) ∧ HS ol' si' := by
  obtain ⟨⟨s0, s1⟩, o0, o1⟩ := hH
  refine ⟨_, _, _, _, _, _, _, _, _, q_record hA rfl s0 s1 o0 o1 hf, ⟨?_, ?_⟩, ?_, ?_⟩
  · split <;> omega
  · split <;> omega
  · split <;> omega
  · split <;> omega
theorem ca_set {x1 x2 : Int} (hA : AC ac) (hH : HS ol si) (d' : (x1 = 0 ∧ 1 ≤ x2 ∧ x2 ≤ 9) ∨ (x1 = 1 ∧ 1 ≤ x2 ∧ x2 ≤ 4) ∨ (x1 = 2 ∧ 0 ≤ x2 ∧ x2 ≤ 4) ∨ (x1 = 3 ∧ 2 ≤ x2 ∧ x2 ≤ 12)) (hf : 2000 ≤ fu) :
    ∃ ol' si' k1 k2 k3 k4 k5 k6 k7, f_X4_set fu se tr fi la sh ac no ol si k_se k_tr k_fi k_la k_sh k_ac k_no x1 x2 = some (se x1, uI se x1 x2, ol', si', k1, k2, k3, k4, k5, k6, k7) ∧ HS ol' si' := by
  unfold f_X4_set
  have hx : x1 = 0 ∨ x1 = 1 ∨ x1 = 2 ∨ x1 = 3 := by omega
  have hiff : ((x1 = 0 ∧ 1 ≤ x2 ∧ x2 ≤ 9) ∨ (x1 = 1 ∧ 1 ≤ x2 ∧ x2 ≤ 4) ∨ (x1 = 2 ∧ 0 ≤ x2 ∧ x2 ≤ 4) ∨ (x1 = 3 ∧ 2 ≤ x2 ∧ x2 ≤ 12)) ↔ (jL (Int.toNat x1) ≤ x2 ∧ x2 ≤ jG (Int.toNat x1)) := by
    rcases hx with h | h | h | h <;> subst h
    · show _ ↔ ((1 : Int) ≤ x2 ∧ x2 ≤ 9); omega
    · show _ ↔ ((1 : Int) ≤ x2 ∧ x2 ≤ 4); omega
    · show _ ↔ ((0 : Int) ≤ x2 ∧ x2 ≤ 4); omega
    · show _ ↔ ((2 : Int) ≤ x2 ∧ x2 ≤ 12); omega
  have hLG : -1000 ≤ jL (Int.toNat x1) ∧ jL (Int.toNat x1) ≤ 1000 ∧ -1000 ≤ jG (Int.toNat x1) ∧ jG (Int.toNat x1) ≤ 1000 := by
    rcases hx with h | h | h | h <;> subst h <;> decide
  have d := hiff.mp d'
  obtain ⟨ol', si', k1, k2, k3, k4, k5, k6, k7, e1, hH'⟩ := ca_rec (fu := fu) (se := se) (tr := tr) (fi := fi) (la := la) (sh := sh) (no := no) (k_se := k_se) (k_tr := k_tr) (k_fi := k_fi) (k_la := k_la) (k_sh := k_sh) (k_ac := k_ac) (k_no := k_no) hA hH (by omega)
  rw [q_isIn_t (by omega) (by omega) (by omega) (by omega), jb_s, jck_of (by omega) (by omega) (by omega) (by omega), if_neg (show ¬ (1 : Int) = 0 by omega), jix_of (by omega) (by omega), jix_of (by omega) (by omega), q_isIn_t d.1 d.2 (by omega) (by omega), jb_s, jck_of (by omega) (by omega) (by omega) (by omega), if_pos (show (1 : Int) ≠ 0 by omega), q_settingOf (by omega) (by omega), jb_s, e1, jb9_s, q_giveSetting (by omega) (by omega), jb_s]
  exact ⟨_, _, _, _, _, _, _, _, _, rfl, hH'⟩
theorem ca_note_t {x1 x2 x3 : Int} (hI : INV tr fi la sh ac no) (t : 0 ≤ x1 ∧ x1 < 12) (u : 0 ≤ x2 ∧ x2 < 100) (w : x2 ≤ x3) (v : x3 < 100) (y : no < 40) (g : ∃ k, 0 ≤ k ∧ k < no ∧ (tr k = x1 ∧ fi k ≤ x3 ∧ x2 ≤ la k)) (hf : 2000 ≤ fu) :
    f_X4_note fu se tr fi la sh ac no ol si k_se k_tr k_fi k_la k_sh k_ac k_no x1 x2 x3 = some (-5, tr, fi, la, sh, ac, no, ol, si, k_se, k_tr, k_fi, k_la, k_sh, k_ac, k_no) := by
  have n0 := hI.1.1
  unfold f_X4_note
  rw [q_isTrack_t t.1 t.2, jb_s, jck_of (by omega) (by omega) (by omega) (by omega), if_pos (show (1 : Int) ≠ 0 by omega), q_isStep_t u.1 u.2, jb_s, jck_of (by omega) (by omega) (by omega) (by omega), if_neg (show ¬ (1 : Int) = 0 by omega), q_isStep_t (by omega) v, jb_s, jck_of (by omega) (by omega) (by omega) (by omega), if_neg (show ¬ (1 : Int) = 0 by omega), jck_of (by omega) (by omega) (by omega) (by omega), if_pos w, q_size, jb_s, jck_of (by omega) (by omega) (by omega) (by omega), if_pos y, q_isTaken_t hI.1 (by omega) (by omega) (by omega) (by omega) (by omega) (by omega) (by omega) g, jb_s, jck_of (by omega) (by omega) (by omega) (by omega), if_neg (show ¬ (1 : Int) = 0 by omega)]
theorem ca_note_f {x1 x2 x3 : Int} (hI : INV tr fi la sh ac no) (hH : HS ol si) (t : 0 ≤ x1 ∧ x1 < 12) (u : 0 ≤ x2 ∧ x2 < 100) (w : x2 ≤ x3) (v : x3 < 100) (y : no < 40) (g : ¬ ∃ k, 0 ≤ k ∧ k < no ∧ (tr k = x1 ∧ fi k ≤ x3 ∧ x2 ≤ la k)) (hf : 2000 ≤ fu) :
    ∃ p ol' si' k1 k2 k3 k4 k5 k6 k7, f_X4_note fu se tr fi la sh ac no ol si k_se k_tr k_fi k_la k_sh k_ac k_no x1 x2 x3 = some (p, ins tr p x1 no, ins fi p x2 no, ins la p x3 no, ins sh p 0 no, ins ac p 0 no, no + 1, ol', si', k1, k2, k3, k4, k5, k6, k7) ∧ HS ol' si' ∧ 0 ≤ p ∧ p ≤ no ∧ (∀ k, 0 ≤ k → k < p → kO tr fi k < 12 * x2 + x1) ∧ (∀ k, p ≤ k → k < no → 12 * x2 + x1 < kO tr fi k) ∧ INV (ins tr p x1 no) (ins fi p x2 no) (ins la p x3 no) (ins sh p 0 no) (ins ac p 0 no) (no + 1) := by
  have n0 := hI.1.1
  obtain ⟨ol', si', k1, k2, k3, k4, k5, k6, k7, e1, hH'⟩ := ca_rec (fu := fu) (se := se) (tr := tr) (fi := fi) (la := la) (sh := sh) (no := no) (k_se := k_se) (k_tr := k_tr) (k_fi := k_fi) (k_la := k_la) (k_sh := k_sh) (k_ac := k_ac) (k_no := k_no) hI.2.1 hH (by omega)
  obtain ⟨p, ep, p0, p1, plo, phi⟩ := q_add (fu := fu) (t := x1) (a := x2) (b := x3) (s_ := 0) (x := 0) hI.1 hI.2.2.1 hI.2.1 y t.1 t.2 u.1 u.2 (Or.inl rfl) (by omega)
  have hfree : ∀ k, 0 ≤ k → k < no → ¬ (tr k = x1 ∧ fi k ≤ x3 ∧ x2 ≤ la k) := fun k k0 k1 h => g ⟨k, k0, k1, h⟩
  have phi' := free_lt hI t.1 t.2 u.1 w hfree p0 phi
  refine ⟨p, ol', si', k1, k2, k3, k4, k5, k6, k7, ?_, hH', p0, p1, plo, phi', INV_ins hI y t.1 t.2 u.1 w v (by omega) (by omega) (Or.inl rfl) hfree p0 p1 plo phi'⟩
  unfold f_X4_note
  rw [q_isTrack_t t.1 t.2, jb_s, jck_of (by omega) (by omega) (by omega) (by omega), if_pos (show (1 : Int) ≠ 0 by omega), q_isStep_t u.1 u.2, jb_s, jck_of (by omega) (by omega) (by omega) (by omega), if_neg (show ¬ (1 : Int) = 0 by omega), q_isStep_t (by omega) v, jb_s, jck_of (by omega) (by omega) (by omega) (by omega), if_neg (show ¬ (1 : Int) = 0 by omega), jck_of (by omega) (by omega) (by omega) (by omega), if_pos w, q_size, jb_s, jck_of (by omega) (by omega) (by omega) (by omega), if_pos y, q_isTaken_f hI.1 (by omega) (by omega) (by omega) (by omega) (by omega) (by omega) (by omega) g, jb_s, jck_of (by omega) (by omega) (by omega) (by omega), if_pos (show (0 : Int) = 0 from rfl), e1, jb9_s, ep, jb7_s]
theorem ca_drop {x1 : Int} (hI : INV tr fi la sh ac no) (hH : HS ol si) (c1 : 0 ≤ x1) (c2 : x1 < no) (hf : 2000 ≤ fu) :
    ∃ ol' si' k1 k2 k3 k4 k5 k6 k7, f_X4_drop fu se tr fi la sh ac no ol si k_se k_tr k_fi k_la k_sh k_ac k_no x1 = some (no - 1, shd tr x1 (no - 1), shd fi x1 (no - 1), shd la x1 (no - 1), shd sh x1 (no - 1), shd ac x1 (no - 1), no - 1, ol', si', k1, k2, k3, k4, k5, k6, k7) ∧ HS ol' si' := by
  have n1 := hI.1.2.1
  obtain ⟨ol', si', k1, k2, k3, k4, k5, k6, k7, e1, hH'⟩ := ca_rec (fu := fu) (se := se) (tr := tr) (fi := fi) (la := la) (sh := sh) (no := no) (k_se := k_se) (k_tr := k_tr) (k_fi := k_fi) (k_la := k_la) (k_sh := k_sh) (k_ac := k_ac) (k_no := k_no) hI.2.1 hH (by omega)
  refine ⟨ol', si', k1, k2, k3, k4, k5, k6, k7, ?_, hH'⟩
  unfold f_X4_drop
  rw [q_has_t c1 c2 n1, jb_s, jck_of (by omega) (by omega) (by omega) (by omega), if_pos (show (1 : Int) ≠ 0 by omega), e1, jb9_s, q_remove hI.2.1 n1 c1 c2 (by omega), jb6_s, q_size, jb_s]
theorem ca_drop_0 (hf : 2000 ≤ fu) : f_X4_drop fu se tr fi la sh ac 0 ol si k_se k_tr k_fi k_la k_sh k_ac k_no 0 = some (-1, tr, fi, la, sh, ac, 0, ol, si, k_se, k_tr, k_fi, k_la, k_sh, k_ac, k_no) := by
  unfold f_X4_drop
  rw [q_has_f (by omega) (by omega) (by omega) (by omega) (by omega), jb_s, jck_of (by omega) (by omega) (by omega) (by omega), if_neg (show ¬ (0 : Int) ≠ 0 by omega)]
theorem ca_shift {x1 x2 : Int} (hI : INV tr fi la sh ac no) (hH : HS ol si) (c1 : 0 ≤ x1) (c2 : x1 < no) (d : 0 ≤ x2 ∧ x2 ≤ 12) (hf : 2000 ≤ fu) :
    ∃ ol' si' k1 k2 k3 k4 k5 k6 k7, f_X4_shift fu se tr fi la sh ac no ol si k_se k_tr k_fi k_la k_sh k_ac k_no x1 x2 = some (sh x1, uI sh x1 x2, ol', si', k1, k2, k3, k4, k5, k6, k7) ∧ HS ol' si' := by
  have n1 := hI.1.2.1
  obtain ⟨ol', si', k1, k2, k3, k4, k5, k6, k7, e1, hH'⟩ := ca_rec (fu := fu) (se := se) (tr := tr) (fi := fi) (la := la) (sh := sh) (no := no) (k_se := k_se) (k_tr := k_tr) (k_fi := k_fi) (k_la := k_la) (k_sh := k_sh) (k_ac := k_ac) (k_no := k_no) hI.2.1 hH (by omega)
  refine ⟨ol', si', k1, k2, k3, k4, k5, k6, k7, ?_, hH'⟩
  unfold f_X4_shift
  rw [q_has_t c1 c2 n1, jb_s, jck_of (by omega) (by omega) (by omega) (by omega), if_pos (show (1 : Int) ≠ 0 by omega), q_isIn_t d.1 d.2 (by omega) (by omega), jb_s, jck_of (by omega) (by omega) (by omega) (by omega), if_pos (show (1 : Int) ≠ 0 by omega), q_shiftOf c1 c2 n1, jb_s, e1, jb9_s, q_giveShift c1 c2 n1, jb_s]
theorem ca_accent {x1 x2 : Int} (hI : INV tr fi la sh ac no) (hH : HS ol si) (c1 : 0 ≤ x1) (c2 : x1 < no) (hx : x2 = 0 ∨ x2 = 1) (hf : 2000 ≤ fu) :
    ∃ ol' si' k1 k2 k3 k4 k5 k6 k7, f_X4_accent fu se tr fi la sh ac no ol si k_se k_tr k_fi k_la k_sh k_ac k_no x1 x2 = some (ac x1, uI ac x1 x2, ol', si', k1, k2, k3, k4, k5, k6, k7) ∧ HS ol' si' := by
  have n1 := hI.1.2.1
  obtain ⟨ol', si', k1, k2, k3, k4, k5, k6, k7, e1, hH'⟩ := ca_rec (fu := fu) (se := se) (tr := tr) (fi := fi) (la := la) (sh := sh) (no := no) (k_se := k_se) (k_tr := k_tr) (k_fi := k_fi) (k_la := k_la) (k_sh := k_sh) (k_ac := k_ac) (k_no := k_no) hI.2.1 hH (by omega)
  refine ⟨ol', si', k1, k2, k3, k4, k5, k6, k7, ?_, hH'⟩
  unfold f_X4_accent
  rw [q_has_t c1 c2 n1, jb_s, jck_of (by omega) (by omega) (by omega) (by omega), if_pos (show (1 : Int) ≠ 0 by omega), q_hasAccent hI.2.1 c1 c2 n1, jb_s, e1, jb9_s, q_giveAccent hx c1 c2 n1, jb_s, q_asNumber (hI.2.1 x1 c1 (by omega)), jb_s]
theorem ca_insert {x1 x2 : Int} (hI : INV tr fi la sh ac no) (hH : HS ol si) (c1 : 0 ≤ x1) (c2 : x1 < 100) (d1 : 1 ≤ x2) (d2 : x2 ≤ 50) (hl : ∀ q, 0 ≤ q → q < no → la q < x1 ∨ la q + x2 < 100) (hf : 2000 ≤ fu) :
    ∃ ol' si' k1 k2 k3 k4 k5 k6 k7, f_X4_insert fu se tr fi la sh ac no ol si k_se k_tr k_fi k_la k_sh k_ac k_no x1 x2 = some (fdA (sLen fi la x1) 0 0 no, jcpy (sFi fi x1 x2) fi no, jcpy (sLa la x1 x2) la no, ol', si', k1, k2, k3, k4, k5, k6, k7) ∧ HS ol' si' := by
  have n0 := hI.1.1
  have n1 := hI.1.2.1
  obtain ⟨ol', si', k1, k2, k3, k4, k5, k6, k7, e1, hH'⟩ := ca_rec (fu := fu) (se := se) (tr := tr) (fi := fi) (la := la) (sh := sh) (no := no) (k_se := k_se) (k_tr := k_tr) (k_fi := k_fi) (k_la := k_la) (k_sh := k_sh) (k_ac := k_ac) (k_no := k_no) hI.2.1 hH (by omega)
  refine ⟨ol', si', k1, k2, k3, k4, k5, k6, k7, ?_, hH'⟩
  obtain ⟨g, eg, g0, g1, g2, g3⟩ := q_greatestLast (fu := fu) hI.1 (by omega)
  have eJ : f_X4_insert_J44 fu se tr fi la sh ac no ol si k_se k_tr k_fi k_la k_sh k_ac k_no x1 x2 = some (fdA (sLen fi la x1) 0 0 no, jcpy (sFi fi x1 x2) fi no, jcpy (sLa la x1 x2) la no, ol', si', k1, k2, k3, k4, k5, k6, k7) := by
    unfold f_X4_insert_J44
    rw [e1, jb9_s, q_lengthen hI.1 c1 c2 (by omega), jb3_s]
  unfold f_X4_insert
  rw [q_isStep_t c1 c2, jb_s, jck_of (by omega) (by omega) (by omega) (by omega), if_neg (show ¬ (1 : Int) = 0 by omega), q_isIn_t d1 d2 (by omega) (by omega), jb_s, jck_of (by omega) (by omega) (by omega) (by omega), if_pos (show (1 : Int) ≠ 0 by omega), eg, jb_s, jck_of (by omega) (by omega) (by omega) (by omega)]
  by_cases y : g < x1
  · rw [if_pos y]; exact eJ
  · rw [if_neg y, jck_of (by omega) (by omega) (by omega) (by omega), if_pos ?_]
    · exact eJ
    · rcases g3 with h | ⟨k, k0, k1, k2⟩
      · omega
      · have := hl k k0 k1
        omega
end Q66
