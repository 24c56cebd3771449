/-! the class's Roll, its small methods -/
def NT (tr fi la sh : Int → Int) (no : Int) : Prop := 0 ≤ no ∧ no ≤ 40 ∧ ∀ k, 0 ≤ k → k < no → 0 ≤ tr k ∧ tr k < 12 ∧ 0 ≤ fi k ∧ fi k ≤ la k ∧ la k < 100 ∧ 0 ≤ sh k ∧ sh k ≤ 12
def AC (ac : Int → Int) : Prop := ∀ k, 0 ≤ k → k < 40 → ac k = 0 ∨ ac k = 1
def SE (se : Int → Int) : Prop := 1 ≤ se 0 ∧ se 0 ≤ 9 ∧ 1 ≤ se 1 ∧ se 1 ≤ 4 ∧ 0 ≤ se 2 ∧ se 2 ≤ 4 ∧ 2 ≤ se 3 ∧ se 3 ≤ 12
section Q41
variable {fu : Nat} {se tr fi la sh ac : Int → Int} {no : Int}
theorem q_isIn_t {v a b : Int} (h1 : a ≤ v) (h2 : v ≤ b) (h3 : -2147483648 ≤ a) (h4 : b < 2147483648) : f_X4_isIn fu v a b = some 1 := by
  unfold f_X4_isIn
  simp (disch := omega) only [jck_of, jbo_of, if_neg]
theorem q_isIn_f {v a b : Int} (h : v < a ∨ b < v) (h1 : -2147483648 ≤ v) (h2 : v < 2147483648) (h3 : -2147483648 ≤ a) (h4 : a < 2147483648) (h5 : -2147483648 ≤ b) (h6 : b < 2147483648) : f_X4_isIn fu v a b = some 0 := by
  unfold f_X4_isIn
  by_cases c : v < a
  · simp (disch := omega) only [jck_of, jbo_of, if_pos]
  · simp (disch := omega) only [jck_of, jbo_of, if_pos, if_neg]
theorem q_isStep_t {v : Int} (h1 : 0 ≤ v) (h2 : v < 100) : f_X4_isStep fu v = some 1 := by
  unfold f_X4_isStep
  rw [q_isIn_t (by omega) (by omega) (by omega) (by omega), jb_s, jbo_of (by omega)]
theorem q_isStep_f {v : Int} (h : v < 0 ∨ 100 ≤ v) (h1 : -2147483648 ≤ v) (h2 : v < 2147483648) : f_X4_isStep fu v = some 0 := by
  unfold f_X4_isStep
  rw [q_isIn_f (by omega) (by omega) (by omega) (by omega) (by omega) (by omega) (by omega), jb_s, jbo_of (by omega)]
theorem q_isTrack_t {v : Int} (h1 : 0 ≤ v) (h2 : v < 12) : f_X4_isTrack fu v = some 1 := by
  unfold f_X4_isTrack
  rw [q_isIn_t (by omega) (by omega) (by omega) (by omega), jb_s, jbo_of (by omega)]
theorem q_isTrack_f {v : Int} (h : v < 0 ∨ 12 ≤ v) (h1 : -2147483648 ≤ v) (h2 : v < 2147483648) : f_X4_isTrack fu v = some 0 := by
  unfold f_X4_isTrack
  rw [q_isIn_f (by omega) (by omega) (by omega) (by omega) (by omega) (by omega) (by omega), jb_s, jbo_of (by omega)]
theorem q_settingOf {i : Int} (h1 : 0 ≤ i) (h2 : i < 4) : f_X3_settingOf fu se i = some (se i) := by
  unfold f_X3_settingOf
  rw [q_isIn_t (by omega) (by omega) (by omega) (by omega), jb_s]
  simp (disch := omega) only [jck_of, jix_of, if_neg]
theorem q_giveSetting {i v : Int} (h1 : 0 ≤ i) (h2 : i < 4) : f_X3_giveSetting fu se i v = some (uI se i v) := by
  unfold f_X3_giveSetting
  rw [q_isIn_t (by omega) (by omega) (by omega) (by omega), jb_s]
  simp (disch := omega) only [jck_of, jix_of, if_neg]
theorem q_size : f_X3_size fu no = some no := rfl
theorem q_has_t {x : Int} (h1 : 0 ≤ x) (h2 : x < no) (h3 : no ≤ 40) : f_X3_has fu no x = some 1 := by
  unfold f_X3_has
  simp (disch := omega) only [jck_of, jbo_of, if_neg]
theorem q_has_f {x : Int} (h : x < 0 ∨ no ≤ x) (h0 : 0 ≤ no) (h3 : no ≤ 40) (h1 : -2147483648 ≤ x) (h2 : x < 2147483648) : f_X3_has fu no x = some 0 := by
  unfold f_X3_has
  by_cases c : x < 0
  · simp (disch := omega) only [jck_of, jbo_of, if_pos]
  · simp (disch := omega) only [jck_of, jbo_of, if_pos, if_neg]
theorem q_trackOf {x : Int} (h1 : 0 ≤ x) (h2 : x < no) (h3 : no ≤ 40) : f_X3_trackOf fu tr no x = some (tr x) := by
  unfold f_X3_trackOf
  rw [q_has_t h1 h2 h3, jb_s]
  simp (disch := omega) only [jck_of, jix_of, if_neg]
theorem q_firstOf {x : Int} (h1 : 0 ≤ x) (h2 : x < no) (h3 : no ≤ 40) : f_X3_firstOf fu fi no x = some (fi x) := by
  unfold f_X3_firstOf
  rw [q_has_t h1 h2 h3, jb_s]
  simp (disch := omega) only [jck_of, jix_of, if_neg]
theorem q_lastOf {x : Int} (h1 : 0 ≤ x) (h2 : x < no) (h3 : no ≤ 40) : f_X3_lastOf fu la no x = some (la x) := by
  unfold f_X3_lastOf
  rw [q_has_t h1 h2 h3, jb_s]
  simp (disch := omega) only [jck_of, jix_of, if_neg]
theorem q_shiftOf {x : Int} (h1 : 0 ≤ x) (h2 : x < no) (h3 : no ≤ 40) : f_X3_shiftOf fu sh no x = some (sh x) := by
  unfold f_X3_shiftOf
  rw [q_has_t h1 h2 h3, jb_s]
  simp (disch := omega) only [jck_of, jix_of, if_neg]
theorem q_hasAccent (hac : AC ac) {x : Int} (h1 : 0 ≤ x) (h2 : x < no) (h3 : no ≤ 40) : f_X3_hasAccent fu ac no x = some (ac x) := by
  unfold f_X3_hasAccent
  rw [q_has_t h1 h2 h3, jb_s]
  have := hac x h1 (by omega)
  by_cases c : ac x = 0
  · simp (disch := omega) only [jck_of, jix_of, jbo_of, if_neg, if_pos]
    rw [c]
  · simp (disch := omega) only [jck_of, jix_of, jbo_of, if_neg, if_pos]
    rw [show ac x = 1 by omega]
theorem q_giveShift {x v : Int} (h1 : 0 ≤ x) (h2 : x < no) (h3 : no ≤ 40) : f_X3_giveShift fu sh no x v = some (uI sh x v) := by
  unfold f_X3_giveShift
  rw [q_has_t h1 h2 h3, jb_s]
  simp (disch := omega) only [jck_of, jix_of, if_neg]
theorem q_giveAccent {x v : Int} (hv : v = 0 ∨ v = 1) (h1 : 0 ≤ x) (h2 : x < no) (h3 : no ≤ 40) : f_X3_giveAccent fu ac no x v = some (uI ac x v) := by
  unfold f_X3_giveAccent
  rw [q_has_t h1 h2 h3, jb_s]
  simp (disch := omega) only [jck_of, jix_of, jbo_of, if_neg]
theorem q_asNumber {v : Int} (hv : v = 0 ∨ v = 1) : f_X4_asNumber fu v = some v := by
  rcases hv with h | h <;> subst h <;> rfl
-- counting
def sTou (tr fi la : Int → Int) (t a b : Int) (i m : Int) : Int := if tr i = t ∧ fi i ≤ b ∧ a ≤ la i then m + 1 else m
theorem l_touching {t a b : Int} (hN : NT tr fi la sh no) (ht : -2147483648 ≤ t) (ht2 : t < 2147483648) (ha : -2147483648 ≤ a) (ha2 : a < 2147483648) (hb : -2147483648 ≤ b) (hb2 : b < 2147483648) (k : Int → Option Int) :
    ∀ (n fuel : Nat) (m i : Int), 0 ≤ i → i + n = no → n < fuel → f_X3_touching_L6 fu tr fi la no t a b k fuel m i = k (fo (sTou tr fi la t a b) n i m) := by
  intro n
  induction n with
  | zero =>
    intro fuel m i h1 h2 h3
    obtain ⟨q, rfl⟩ : ∃ q, fuel = q + 1 := ⟨fuel - 1, by omega⟩
    have := hN.1
    have := hN.2.1
    show f_X3_touching_L6_b fu tr fi la no t a b k _ m i = _
    unfold f_X3_touching_L6_b
    simp (disch := omega) only [jck_of, if_pos, fo_0]
  | succ n ih =>
    intro fuel m i h1 h2 h3
    obtain ⟨q, rfl⟩ : ∃ q, fuel = q + 1 := ⟨fuel - 1, by omega⟩
    have := hN.2.1
    obtain ⟨a1, a2, a3, a4, a5, -, -⟩ := hN.2.2 i h1 (by omega)
    show f_X3_touching_L6_b fu tr fi la no t a b k _ m i = _
    unfold f_X3_touching_L6_b
    simp (disch := omega) only [jck_of, if_neg, q_trackOf, q_firstOf, q_lastOf, jb_s, fo_s]
    have e : ∀ m', f_X3_touching_L6 fu tr fi la no t a b k q m' (i + 1) = k (fo (sTou tr fi la t a b) n (i + 1) m') := fun m' => ih q m' (i + 1) (by omega) (by omega) (by omega)
    rw [e, e]
    unfold sTou
    by_cases c1 : tr i = t
    · by_cases c2 : b < fi i
      · rw [if_neg (by omega), if_pos c2, if_neg (by omega)]
      · by_cases c3 : la i < a
        · rw [if_neg (by omega), if_neg c2, if_pos c3, if_neg (by omega)]
        · rw [if_neg (by omega), if_neg c2, if_neg c3, if_pos (by omega)]
    · rw [if_pos c1, if_neg (by omega)]
end Q41
