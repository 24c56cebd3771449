/-! the model's state: plain rows -/
def RLm (st se tr fi la sh ac : Int → Int) (no : Int) : Prop := (st 0 = se 0 ∧ st 1 = se 1 ∧ st 2 = se 2 ∧ st 3 = se 3) ∧ st 4 = no ∧ ∀ k, 0 ≤ k → k < no → st (5 + 5 * k + 0) = tr k ∧ st (5 + 5 * k + 1) = fi k ∧ st (5 + 5 * k + 2) = la k ∧ st (5 + 5 * k + 3) = sh k ∧ st (5 + 5 * k + 4) = ac k
def mvP (st : Int → Int) (a b i : Int) : Int → Int := fun q => if 5 + 5 * b ≤ q ∧ q < 5 + 5 * b + i then st (q - 5 * b + 5 * a) else st q
theorem mvP_0 (st : Int → Int) (a b : Int) : mvP st a b 0 = st := by funext q; unfold mvP; rw [if_neg (by omega)]
theorem mvP_in (st : Int → Int) {a b i q : Int} (h1 : 5 + 5 * b ≤ q) (h2 : q < 5 + 5 * b + i) : mvP st a b i q = st (q - 5 * b + 5 * a) := if_pos ⟨h1, h2⟩
theorem mvP_out (st : Int → Int) {a b i q : Int} (h : q < 5 + 5 * b ∨ 5 + 5 * b + i ≤ q) : mvP st a b i q = st q := if_neg (by omega)
section Q47
variable {fu : Nat} {st se tr fi la sh ac : Int → Int} {no : Int}
theorem RLm.n4 (h : RLm st se tr fi la sh ac no) : st 4 = no := h.2.1
theorem RLm.s0 (h : RLm st se tr fi la sh ac no) : st 0 = se 0 := h.1.1
theorem RLm.s1 (h : RLm st se tr fi la sh ac no) : st 1 = se 1 := h.1.2.1
theorem RLm.s2 (h : RLm st se tr fi la sh ac no) : st 2 = se 2 := h.1.2.2.1
theorem RLm.s3 (h : RLm st se tr fi la sh ac no) : st 3 = se 3 := h.1.2.2.2
theorem m_in_t {v a b : Int} (h1 : a ≤ v) (h2 : v ≤ b) (h3 : -2147483648 ≤ a) (h4 : b < 2147483648) : f_X5_within fu v a b = some 1 := by
  unfold f_X5_within
  simp (disch := omega) only [jck_of, jbo_of, if_neg]
theorem m_in_f {v a b : Int} (h : v < a ∨ b < v) (h1 : -2147483648 ≤ v) (h2 : v < 2147483648) (h3 : -2147483648 ≤ a) (h4 : a < 2147483648) (h5 : -2147483648 ≤ b) (h6 : b < 2147483648) : f_X5_within fu v a b = some 0 := by
  unfold f_X5_within
  by_cases c : v < a
  · simp (disch := omega) only [jck_of, jbo_of, if_pos]
  · simp (disch := omega) only [jck_of, jbo_of, if_pos, if_neg]
theorem m_isStep_t {v : Int} (h1 : 0 ≤ v) (h2 : v < 100) : f_X5_isStep fu v = some 1 := by
  unfold f_X5_isStep
  rw [m_in_t (by omega) (by omega) (by omega) (by omega), jb_s, jbo_of (by omega)]
theorem m_isStep_f {v : Int} (h : v < 0 ∨ 100 ≤ v) (h1 : -2147483648 ≤ v) (h2 : v < 2147483648) : f_X5_isStep fu v = some 0 := by
  unfold f_X5_isStep
  rw [m_in_f (by omega) (by omega) (by omega) (by omega) (by omega) (by omega) (by omega), jb_s, jbo_of (by omega)]
theorem m_isTrack_t {v : Int} (h1 : 0 ≤ v) (h2 : v < 12) : f_X5_isTrack fu v = some 1 := by
  unfold f_X5_isTrack
  rw [m_in_t (by omega) (by omega) (by omega) (by omega), jb_s, jbo_of (by omega)]
theorem m_isTrack_f {v : Int} (h : v < 0 ∨ 12 ≤ v) (h1 : -2147483648 ≤ v) (h2 : v < 2147483648) : f_X5_isTrack fu v = some 0 := by
  unfold f_X5_isTrack
  rw [m_in_f (by omega) (by omega) (by omega) (by omega) (by omega) (by omega) (by omega), jb_s, jbo_of (by omega)]
theorem m_isNote_t {x : Int} (hR : RLm st se tr fi la sh ac no) (h1 : 0 ≤ x) (h2 : x < no) (h3 : no ≤ 40) : f_X5_isNote fu st x = some 1 := by
  unfold f_X5_isNote
  rw [jix_of (by omega) (by omega), hR.n4, m_in_t (by omega) (by omega) (by omega) (by omega), jb_s, jbo_of (by omega)]
theorem m_isNote_f {x : Int} (hR : RLm st se tr fi la sh ac no) (h : x < 0 ∨ no ≤ x) (h0 : 0 ≤ no) (h3 : no ≤ 40) (h1 : -2147483648 ≤ x) (h2 : x < 2147483648) : f_X5_isNote fu st x = some 0 := by
  unfold f_X5_isNote
  rw [jix_of (by omega) (by omega), hR.n4, m_in_f (by omega) (by omega) (by omega) (by omega) (by omega) (by omega) (by omega), jb_s, jbo_of (by omega)]
theorem m_part {k p : Int} (h0 : 0 ≤ k) (h1 : k < 40) (p0 : 0 ≤ p) (p1 : p < 5) : f_X5_part fu st k p = some (st (5 + 5 * k + p)) := by
  unfold f_X5_part
  rw [jix_of (by omega) (by omega)]
theorem m_set {k p v : Int} (h0 : 0 ≤ k) (h1 : k < 40) (p0 : 0 ≤ p) (p1 : p < 5) : f_X5_setPart fu st k p v = some (uI st (5 + 5 * k + p) v) := by
  unfold f_X5_setPart
  rw [jix_of (by omega) (by omega)]
theorem m_p0 {k : Int} (hR : RLm st se tr fi la sh ac no) (h0 : 0 ≤ k) (h1 : k < no) (h3 : no ≤ 40) : f_X5_part fu st k 0 = some (tr k) := by
  rw [m_part h0 (by omega) (by omega) (by omega), (hR.2.2 k h0 h1).1]
theorem m_p1 {k : Int} (hR : RLm st se tr fi la sh ac no) (h0 : 0 ≤ k) (h1 : k < no) (h3 : no ≤ 40) : f_X5_part fu st k 1 = some (fi k) := by
  rw [m_part h0 (by omega) (by omega) (by omega), (hR.2.2 k h0 h1).2.1]
theorem m_p2 {k : Int} (hR : RLm st se tr fi la sh ac no) (h0 : 0 ≤ k) (h1 : k < no) (h3 : no ≤ 40) : f_X5_part fu st k 2 = some (la k) := by
  rw [m_part h0 (by omega) (by omega) (by omega), (hR.2.2 k h0 h1).2.2.1]
theorem m_p3 {k : Int} (hR : RLm st se tr fi la sh ac no) (h0 : 0 ≤ k) (h1 : k < no) (h3 : no ≤ 40) : f_X5_part fu st k 3 = some (sh k) := by
  rw [m_part h0 (by omega) (by omega) (by omega), (hR.2.2 k h0 h1).2.2.2.1]
theorem m_p4 {k : Int} (hR : RLm st se tr fi la sh ac no) (h0 : 0 ≤ k) (h1 : k < no) (h3 : no ≤ 40) : f_X5_part fu st k 4 = some (ac k) := by
  rw [m_part h0 (by omega) (by omega) (by omega), (hR.2.2 k h0 h1).2.2.2.2]
theorem RLm_1 {k v : Int} (hR : RLm st se tr fi la sh ac no) (h0 : 0 ≤ k) : RLm (uI st (5 + 5 * k + 1) v) se tr (uI fi k v) la sh ac no := by
  obtain ⟨⟨a0, a1, a2, a3⟩, a4, a5⟩ := hR
  refine ⟨⟨?_, ?_, ?_, ?_⟩, ?_, fun q q0 q1 => ?_⟩
  iterate 5 (rw [uI_n _ _ (by omega)]; assumption)
  obtain ⟨b0, b1, b2, b3, b4⟩ := a5 q q0 q1
  by_cases c : q = k
  · subst c
    refine ⟨?_, by rw [uI_s, uI_s], ?_, ?_, ?_⟩ <;> (rw [uI_n _ _ (by omega)]; assumption)
  · refine ⟨?_, by rw [uI_n _ _ (by omega), uI_n _ _ c]; assumption, ?_, ?_, ?_⟩ <;> (rw [uI_n _ _ (by omega)]; assumption)
theorem RLm_2 {k v : Int} (hR : RLm st se tr fi la sh ac no) (h0 : 0 ≤ k) : RLm (uI st (5 + 5 * k + 2) v) se tr fi (uI la k v) sh ac no := by
  obtain ⟨⟨a0, a1, a2, a3⟩, a4, a5⟩ := hR
  refine ⟨⟨?_, ?_, ?_, ?_⟩, ?_, fun q q0 q1 => ?_⟩
  iterate 5 (rw [uI_n _ _ (by omega)]; assumption)
  obtain ⟨b0, b1, b2, b3, b4⟩ := a5 q q0 q1
  by_cases c : q = k
  · subst c
    refine ⟨?_, ?_, by rw [uI_s, uI_s], ?_, ?_⟩ <;> (rw [uI_n _ _ (by omega)]; assumption)
  · refine ⟨?_, ?_, by rw [uI_n _ _ (by omega), uI_n _ _ c]; assumption, ?_, ?_⟩ <;> (rw [uI_n _ _ (by omega)]; assumption)
theorem RLm_3 {k v : Int} (hR : RLm st se tr fi la sh ac no) (h0 : 0 ≤ k) : RLm (uI st (5 + 5 * k + 3) v) se tr fi la (uI sh k v) ac no := by
  obtain ⟨⟨a0, a1, a2, a3⟩, a4, a5⟩ := hR
  refine ⟨⟨?_, ?_, ?_, ?_⟩, ?_, fun q q0 q1 => ?_⟩
  iterate 5 (rw [uI_n _ _ (by omega)]; assumption)
  obtain ⟨b0, b1, b2, b3, b4⟩ := a5 q q0 q1
  by_cases c : q = k
  · subst c
    refine ⟨?_, ?_, ?_, by rw [uI_s, uI_s], ?_⟩ <;> (rw [uI_n _ _ (by omega)]; assumption)
  · refine ⟨?_, ?_, ?_, by rw [uI_n _ _ (by omega), uI_n _ _ c]; assumption, ?_⟩ <;> (rw [uI_n _ _ (by omega)]; assumption)
theorem RLm_4 {k v : Int} (hR : RLm st se tr fi la sh ac no) (h0 : 0 ≤ k) : RLm (uI st (5 + 5 * k + 4) v) se tr fi la sh (uI ac k v) no := by
  obtain ⟨⟨a0, a1, a2, a3⟩, a4, a5⟩ := hR
  refine ⟨⟨?_, ?_, ?_, ?_⟩, ?_, fun q q0 q1 => ?_⟩
  iterate 5 (rw [uI_n _ _ (by omega)]; assumption)
  obtain ⟨b0, b1, b2, b3, b4⟩ := a5 q q0 q1
  by_cases c : q = k
  · subst c
    refine ⟨?_, ?_, ?_, ?_, by rw [uI_s, uI_s]⟩ <;> (rw [uI_n _ _ (by omega)]; assumption)
  · refine ⟨?_, ?_, ?_, ?_, by rw [uI_n _ _ (by omega), uI_n _ _ c]; assumption⟩ <;> (rw [uI_n _ _ (by omega)]; assumption)
theorem m_move {a b : Int} (h1 : 0 ≤ a) (h2 : a < 40) (h3 : 0 ≤ b) (h4 : b < 40) (hab : a ≠ b) (hf : 100 ≤ fu) : f_X5_move fu st a b = some (mvP st a b 5) := by
  unfold f_X5_move
  obtain ⟨p, e, i1, rfl⟩ := loop_upI (L := fun q (s : Int → Int) i => f_X5_move_L2 fu a b (f_X5_move_X25 fu) q s i) (f_X5_move_X25 fu)
    (fun i p => 0 ≤ i ∧ p = mvP st a b i) 5
    (fun q s hI => by
      show f_X5_move_L2_b fu a b _ _ s 5 = _
      unfold f_X5_move_L2_b
      rw [jck_of (by omega) (by omega) (by omega) (by omega), if_pos (by omega)])
    (fun q s i hi hI => by
      obtain ⟨i1, rfl⟩ := hI
      refine ⟨_, ?_, by omega, rfl⟩
      show f_X5_move_L2_b fu a b _ _ _ i = _
      unfold f_X5_move_L2_b
      rw [jck_of (by omega) (by omega) (by omega) (by omega), if_neg (by omega), m_part h1 h2 i1 hi, jb_s, m_set h3 h4 i1 hi, jb_s]
      congr 1
      funext q
      unfold uI
      by_cases c : q = 5 + 5 * b + i
      · subst c
        rw [if_pos rfl, mvP_out _ (by omega), mvP_in _ (by omega) (by omega)]
        congr 1
        omega
      · rw [if_neg c]
        unfold mvP
        by_cases d : 5 + 5 * b ≤ q ∧ q < 5 + 5 * b + i
        · rw [if_pos d, if_pos (by omega)]
        · rw [if_neg d, if_neg (by omega)])
    5 fu st 0 (by omega) (by omega) ⟨by omega, by rw [mvP_0]⟩
  exact e
theorem m_putIn {t a b s_ x p : Int} (hR : RLm st se tr fi la sh ac no) (hN : NT tr fi la sh no) (hno : no < 40) (ht : 0 ≤ t) (ht2 : t < 12) (ha : 0 ≤ a) (ha2 : a < 100) (hp : 0 ≤ p) (hp2 : p ≤ no) (hlo : ∀ k, 0 ≤ k → k < p → kO tr fi k < 12 * a + t) (hhi : ∀ k, p ≤ k → k < no → 12 * a + t < kO tr fi k) (hf : 100 ≤ fu) :
    ∃ st', f_X5_putIn fu st t a b s_ x = some (p, st') ∧ RLm st' se (ins tr p t no) (ins fi p a no) (ins la p b no) (ins sh p s_ no) (ins ac p x no) (no + 1) ∧ ∀ q, 10 + 5 * no ≤ q → st' q = st q := by
  have n0 := hN.1
  unfold f_X5_putIn
  rw [jix_of (by omega) (by omega), hR.n4]
  have key : ∀ (n fuel : Nat) (s : Int → Int) (i : Int), p + n = i → i ≤ no → n < fuel → (∀ q, q < 5 + 5 * i → s q = st q) → (∀ q, 10 + 5 * i ≤ q → q < 10 + 5 * no → s q = st (q - 5)) → (∀ q, 10 + 5 * no ≤ q → s q = st q) →
      ∃ s', f_X5_putIn_L8 fu t a (f_X5_putIn_X46 fu t a b s_ x) fuel s i = f_X5_putIn_X46 fu t a b s_ x s' p ∧ (∀ q, q < 5 + 5 * p → s' q = st q) ∧ (∀ q, 10 + 5 * p ≤ q → q < 10 + 5 * no → s' q = st (q - 5)) ∧ (∀ q, 10 + 5 * no ≤ q → s' q = st q) := by
    intro n
    induction n with
    | zero =>
      intro fuel s i h1 h2 h3 h4 h5 h6
      obtain ⟨q, rfl⟩ : ∃ q, fuel = q + 1 := ⟨fuel - 1, by omega⟩
      have e : i = p := by omega
      subst e
      refine ⟨s, ?_, h4, h5, h6⟩
      show f_X5_putIn_L8_b fu t a _ _ s i = _
      unfold f_X5_putIn_L8_b
      by_cases c : i = 0
      · rw [jck_of (by omega) (by omega) (by omega) (by omega), if_pos (by omega)]
      · obtain ⟨a1, a2, a3, a4, a5, -, -⟩ := hN.2.2 (i - 1) (by omega) (by omega)
        have hk := hlo (i - 1) (by omega) (by omega)
        have hr := hR.2.2 (i - 1) (by omega) (by omega)
        rw [jck_of (by omega) (by omega) (by omega) (by omega), if_neg (by omega)]
        unfold f_X5_orderOf
        rw [m_part (by omega) (by omega) (by omega) (by omega), jb_s, m_part (by omega) (by omega) (by omega) (by omega), jb_s, jb_s, h4 _ (by omega), h4 _ (by omega), hr.1, hr.2.1]
        unfold kO at hk
        rw [jck_of (by omega) (by omega) (by omega) (by omega), if_pos (by omega)]
    | succ n ih =>
      intro fuel s i h1 h2 h3 h4 h5 h6
      obtain ⟨q, rfl⟩ : ∃ q, fuel = q + 1 := ⟨fuel - 1, by omega⟩
      obtain ⟨a1, a2, a3, a4, a5, -, -⟩ := hN.2.2 (i - 1) (by omega) (by omega)
      have hk := hhi (i - 1) (by omega) (by omega)
      have hr := hR.2.2 (i - 1) (by omega) (by omega)
      obtain ⟨s', e, g1, g2, g3⟩ := ih q (mvP s (i - 1) i 5) (i + (-1)) (by omega) (by omega) (by omega)
        (fun q hq => by rw [mvP_out _ (by omega), h4 _ (by omega)])
        (fun q hq hq2 => by
          by_cases c : q < 10 + 5 * i
          · rw [mvP_in _ (by omega) (by omega), h4 _ (by omega)]
            congr 1
            omega
          · rw [mvP_out _ (by omega), h5 _ (by omega) (by omega)])
        (fun q hq => by rw [mvP_out _ (by omega), h6 _ (by omega)])
      refine ⟨s', ?_, g1, g2, g3⟩
      rw [← e]
      show f_X5_putIn_L8_b fu t a _ _ s i = _
      unfold f_X5_putIn_L8_b f_X5_orderOf
      rw [jck_of (by omega) (by omega) (by omega) (by omega), if_neg (by omega), m_part (by omega) (by omega) (by omega) (by omega), jb_s, m_part (by omega) (by omega) (by omega) (by omega), jb_s, jb_s, h4 _ (by omega), h4 _ (by omega), hr.1, hr.2.1]
      unfold kO at hk
      rw [jck_of (by omega) (by omega) (by omega) (by omega), if_neg (by omega), m_move (by omega) (by omega) (by omega) (by omega) (by omega) hf, jb_s]
  obtain ⟨s', e, g1, g2, g3⟩ := key (no - p).toNat fu st no (by omega) (by omega) (by omega) (fun _ _ => rfl) (fun q h1 h2 => by omega) (fun _ _ => rfl)
  rw [e]
  unfold f_X5_putIn_X46
  simp (disch := omega) only [m_set, jb_s, jix_of]
  refine ⟨_, rfl, ?_, fun q hq => ?_⟩
  · obtain ⟨⟨r0, r1, r2, r3⟩, r4, r5⟩ := hR
    refine ⟨⟨?_, ?_, ?_, ?_⟩, ?_, fun k k0 k1 => ?_⟩
    iterate 4 (simp (disch := omega) only [uI_n, g1]; assumption)
    · simp (disch := omega) only [uI_s, uI_n, g1, r4]
    · by_cases c : k < p
      · obtain ⟨b0, b1, b2, b3, b4⟩ := r5 k (by omega) (by omega)
        simp (disch := omega) only [uI_n, g1, ins_lt]
        exact ⟨b0, b1, b2, b3, b4⟩
      · by_cases d : k = p
        · subst d
          simp only [ins_eq]
          refine ⟨?_, ?_, ?_, ?_, ?_⟩ <;> simp (disch := omega) only [uI_n, uI_s]
        · obtain ⟨b0, b1, b2, b3, b4⟩ := r5 (k - 1) (by omega) (by omega)
          simp (disch := omega) only [uI_n, g2, ins_gt]
          rw [← b0, ← b1, ← b2, ← b3, ← b4]
          refine ⟨?_, ?_, ?_, ?_, ?_⟩ <;> (congr 1; omega)
  · simp (disch := omega) only [uI_n, g3]
theorem m_takeOut {x : Int} (hR : RLm st se tr fi la sh ac no) (h1 : 0 ≤ x) (h2 : x < no) (n1 : no ≤ 40) (hf : 100 ≤ fu) :
    ∃ st', f_X5_takeOut fu st x = some st' ∧ RLm st' se (shd tr x (no - 1)) (shd fi x (no - 1)) (shd la x (no - 1)) (shd sh x (no - 1)) (shd ac x (no - 1)) (no - 1) ∧ st' 4 = no - 1 := by
  unfold f_X5_takeOut
  obtain ⟨r0, r4, r5⟩ := hR
  obtain ⟨s', e, g0, g1, g2, g3⟩ := loop_upI (L := fun q (s : Int → Int) i => f_X5_takeOut_L2 fu (f_X5_takeOut_X28 fu) q s i) (f_X5_takeOut_X28 fu)
    (fun i s => x ≤ i ∧ (∀ q, q < 5 + 5 * x → s q = st q) ∧ (∀ q, 5 + 5 * x ≤ q → q < 5 + 5 * i → s q = st (q + 5)) ∧ (∀ q, 5 + 5 * i ≤ q → s q = st q)) (no - 1)
    (fun q s hI => by
      obtain ⟨g0, g1, g2, g3⟩ := hI
      show f_X5_takeOut_L2_b fu _ _ s (no - 1) = _
      unfold f_X5_takeOut_L2_b
      rw [g1 4 (by omega), r4, jix_of (by omega) (by omega), jck_of (by omega) (by omega) (by omega) (by omega), if_pos (by omega)])
    (fun q s i hi hI => by
      obtain ⟨g0, g1, g2, g3⟩ := hI
      refine ⟨mvP s (i + 1) i 5, ?_, by omega, fun q hq => ?_, fun q hq hq2 => ?_, fun q hq => ?_⟩
      · show f_X5_takeOut_L2_b fu _ _ s i = _
        unfold f_X5_takeOut_L2_b
        rw [g1 4 (by omega), r4, jix_of (by omega) (by omega), jck_of (by omega) (by omega) (by omega) (by omega), if_neg (by omega), m_move (by omega) (by omega) (by omega) (by omega) (by omega) hf, jb_s]
      · rw [mvP_out _ (by omega), g1 _ hq]
      · by_cases c : q < 5 + 5 * i
        · rw [mvP_out _ (by omega), g2 _ (by omega) (by omega)]
        · rw [mvP_in _ (by omega) (by omega), g3 _ (by omega)]
          congr 1
          omega
      · rw [mvP_out _ (by omega), g3 _ (by omega)])
    (no - 1 - x).toNat fu st x (by omega) (by omega) ⟨by omega, fun _ _ => rfl, fun q _ _ => by omega, fun _ _ => rfl⟩
  refine ⟨uI s' 4 (no - 1), ?_, ⟨?_, uI_s _ _ _, fun k k0 k1 => ?_⟩, uI_s _ _ _⟩
  · refine e.trans ?_
    unfold f_X5_takeOut_X28
    rw [jix_of (by omega) (by omega), jix_of (by omega) (by omega), g1 4 (by omega), r4]
  · simp (disch := omega) only [uI_n, g1]
    exact r0
  · unfold shd
    by_cases c : x ≤ k
    · obtain ⟨b0, b1, b2, b3, b4⟩ := r5 (k + 1) (by omega) (by omega)
      have c2 : x ≤ k ∧ k < no - 1 := ⟨c, k1⟩
      simp only [if_pos c2]
      simp (disch := omega) only [uI_n, g2]
      rw [← b0, ← b1, ← b2, ← b3, ← b4]
      refine ⟨?_, ?_, ?_, ?_, ?_⟩ <;> (congr 1; omega)
    · obtain ⟨b0, b1, b2, b3, b4⟩ := r5 k (by omega) (by omega)
      have c2 : ¬ (x ≤ k ∧ k < no - 1) := fun h => c h.1
      simp only [if_neg c2]
      simp (disch := omega) only [uI_n, g1]
      exact ⟨b0, b1, b2, b3, b4⟩
theorem m_isTaken {t a b : Int} (hR : RLm st se tr fi la sh ac no) (hN : NT tr fi la sh no) (ht : -2147483648 ≤ t) (ht2 : t < 2147483648) (ha : -2147483648 ≤ a) (ha2 : a < 2147483648) (hb : -2147483648 ≤ b) (hb2 : b < 2147483648) (hf : 100 ≤ fu) :
    ∃ r, f_X5_isTaken fu st t a b = some r ∧ (r = 0 ∨ r = 1) ∧ (r = 1 ↔ ∃ k, 0 ≤ k ∧ k < no ∧ (tr k = t ∧ fi k ≤ b ∧ a ≤ la k)) := by
  have n0 := hN.1
  have n1 := hN.2.1
  unfold f_X5_isTaken
  obtain ⟨r, e, i0, i1, i2⟩ := loop_upI (L := fun q (s : Int) i => f_X5_isTaken_L6 fu st t a b (f_X5_isTaken_X68 fu) q s i) (f_X5_isTaken_X68 fu)
    (fun i r => 0 ≤ i ∧ (r = 0 ∨ r = 1) ∧ (r = 1 ↔ ∃ k, 0 ≤ k ∧ k < i ∧ (tr k = t ∧ fi k ≤ b ∧ a ≤ la k))) no
    (fun q s hI => by
      show f_X5_isTaken_L6_b fu st t a b _ _ s no = _
      unfold f_X5_isTaken_L6_b
      rw [hR.n4, jix_of (by omega) (by omega), jck_of (by omega) (by omega) (by omega) (by omega), if_pos (by omega)])
    (fun q s i hi hI => by
      obtain ⟨i0, i1, i2⟩ := hI
      obtain ⟨a1, a2, a3, a4, a5, -, -⟩ := hN.2.2 i i0 hi
      have gen : ∀ r' : Int, (r' = 0 ∨ r' = 1) → (r' = 1 ↔ s = 1 ∨ (tr i = t ∧ fi i ≤ b ∧ a ≤ la i)) → (r' = 1 ↔ ∃ k, 0 ≤ k ∧ k < i + 1 ∧ (tr k = t ∧ fi k ≤ b ∧ a ≤ la k)) := by
        intro r' _ h
        rw [h, i2]
        constructor
        · rintro (⟨k, b1, b2, b3⟩ | b3)
          · exact ⟨k, b1, by omega, b3⟩
          · exact ⟨i, i0, by omega, b3⟩
        · rintro ⟨k, b1, b2, b3⟩
          by_cases d : k = i
          · subst d; exact Or.inr b3
          · exact Or.inl ⟨k, b1, by omega, b3⟩
      refine ⟨if s = 1 ∨ (tr i = t ∧ fi i ≤ b ∧ a ≤ la i) then 1 else 0, ?_, by omega, ?_, gen _ ?_ ?_⟩
      · show f_X5_isTaken_L6_b fu st t a b _ _ s i = _
        unfold f_X5_isTaken_L6_b
        rw [hR.n4, jix_of (by omega) (by omega), jck_of (by omega) (by omega) (by omega) (by omega), if_neg (by omega), jck_of (by omega) (by omega) (by omega) (by omega), m_p0 hR i0 hi n1, jb_s, m_p1 hR i0 hi n1, jb_s, m_p2 hR i0 hi n1, jb_s]
        simp (disch := omega) only [jck_of]
        by_cases c : s = 1
        · rw [if_pos (by omega), if_pos (Or.inl c)]
        · rw [if_neg (by omega)]
          by_cases c1 : tr i = t
          · by_cases c2 : b < fi i
            · rw [if_neg (by omega), if_pos c2, if_neg (by omega)]
            · by_cases c3 : la i < a
              · rw [if_neg (by omega), if_neg c2, if_pos c3, if_neg (by omega)]
              · rw [if_neg (by omega), if_neg c2, if_neg c3, if_pos (Or.inr ⟨c1, by omega, by omega⟩)]
          · rw [if_pos c1, if_neg (by omega)]
      all_goals
        by_cases c : s = 1 ∨ (tr i = t ∧ fi i ≤ b ∧ a ≤ la i)
        · simp only [if_pos c]; simp [c]
        · simp only [if_neg c]; simp [c])
    no.toNat fu 0 0 (by omega) (by omega) ⟨by omega, Or.inl rfl, by constructor; intro h; omega; rintro ⟨k, h1, h2, -⟩; omega⟩
  refine ⟨r, ?_, i1, i2⟩
  refine e.trans ?_
  unfold f_X5_isTaken_X68
  rw [jbo_of (by omega)]
theorem m_isHole {k s : Int} (hR : RLm st se tr fi la sh ac no) (hN : NT tr fi la sh no) (hE : SE se) (hk : 0 ≤ k) (hk2 : k < no) (h1 : fi k ≤ s) (h2 : s ≤ la k) :
    f_X5_isHole fu st k s = some (hol se fi la sh k s) := by
  have n1 := hN.2.1
  obtain ⟨a1, a2, a3, a4, a5, a6, a7⟩ := hN.2.2 k hk hk2
  obtain ⟨b1, b2, b3, b4, -⟩ := hE
  unfold f_X5_isHole hol
  rw [m_p1 hR hk hk2 n1, jb_s, jck_of (by omega) (by omega) (by omega) (by omega)]
  by_cases c1 : s = fi k
  · rw [if_pos c1, if_pos (Or.inl c1), jbo_of (by omega)]
  · rw [if_neg c1, m_p2 hR hk hk2 n1, jb_s, jck_of (by omega) (by omega) (by omega) (by omega)]
    by_cases c2 : s = la k
    · rw [if_pos c2, if_pos (Or.inr (Or.inl c2)), jbo_of (by omega)]
    · have m0 := Int.emod_nonneg (s - fi k + sh k) (show se 0 + se 1 ≠ 0 by omega)
      have m1 := Int.emod_lt_of_pos (s - fi k + sh k) (show 0 < se 0 + se 1 by omega)
      rw [if_neg c2, m_p3 hR hk hk2 n1, jb_s, hR.s0, hR.s1]
      simp (disch := omega) only [jix_of, jck_of, jre_of]
      by_cases c3 : (s - fi k + sh k) % (se 0 + se 1) < se 0
      · rw [if_neg (by omega), if_pos (Or.inr (Or.inr c3)), jbo_of (by omega)]
      · rw [if_pos (by omega), if_neg (by omega), jbo_of (by omega)]
end Q47
