/-! the class's Roll: what changes it -/
def kO (tr fi : Int → Int) (k : Int) : Int := 12 * fi k + tr k
def SO (tr fi : Int → Int) (no : Int) : Prop := ∀ j k, 0 ≤ j → j < k → k < no → kO tr fi j < kO tr fi k
section Q42
variable {fu : Nat} {se tr fi la sh ac : Int → Int} {no : Int}
theorem AC_shu {p n : Int} (h : AC ac) (hp : 0 ≤ p) (hn : n < 40) : AC (shu ac p n) := by
  intro k h0 h1
  unfold shu
  by_cases c : p < k ∧ k ≤ n
  · rw [if_pos c]; exact h _ (by omega) (by omega)
  · rw [if_neg c]; exact h _ h0 h1
theorem AC_shd {p n : Int} (h : AC ac) (hp : 0 ≤ p) (hn : n < 40) : AC (shd ac p n) := by
  intro k h0 h1
  unfold shd
  by_cases c : p ≤ k ∧ k < n
  · rw [if_pos c]; exact h _ (by omega) (by omega)
  · rw [if_neg c]; exact h _ h0 h1
theorem AC_uI {i x : Int} (h : AC ac) (hx : x = 0 ∨ x = 1) : AC (uI ac i x) := by
  intro k h0 h1
  unfold uI
  by_cases c : k = i
  · rw [if_pos c]; exact hx
  · rw [if_neg c]; exact h k h0 h1
theorem AC_jcpy {f g : Int → Int} {n : Int} (hf : AC f) (hg : AC g) : AC (jcpy f g n) := by
  intro k h0 h1
  unfold jcpy
  by_cases c : 0 ≤ k ∧ k < n
  · rw [if_pos c]; exact hf k h0 h1
  · rw [if_neg c]; exact hg k h0 h1
theorem q_move {a b : Int} (hac : AC ac) (h1 : 0 ≤ a) (h2 : a < 40) (h3 : 0 ≤ b) (h4 : b < 40) : f_X3_move fu tr fi la sh ac a b = some (uI tr b (tr a), uI fi b (fi a), uI la b (la a), uI sh b (sh a), uI ac b (ac a)) := by
  have := hac a h1 h2
  unfold f_X3_move
  rw [q_isIn_t (by omega) (by omega) (by omega) (by omega), jb_s, jck_of (by omega) (by omega) (by omega) (by omega), if_neg (by omega), q_isIn_t (by omega) (by omega) (by omega) (by omega), jb_s, jck_of (by omega) (by omega) (by omega) (by omega), if_neg (by omega)]
  simp (disch := omega) only [jix_of, jbo_of]
theorem q_placeFor {t a : Int} (hN : NT tr fi la sh no) (hSO : SO tr fi no) (ht : 0 ≤ t) (ht2 : t < 12) (ha : 0 ≤ a) (ha2 : a < 100) (hf : 100 ≤ fu) :
    ∃ p, f_X3_placeFor fu tr fi no t a = some p ∧ 0 ≤ p ∧ p ≤ no ∧ (∀ k, 0 ≤ k → k < p → kO tr fi k < 12 * a + t) ∧ (∀ k, p ≤ k → k < no → 12 * a + t ≤ kO tr fi k) := by
  have n0 := hN.1
  have n1 := hN.2.1
  unfold f_X3_placeFor
  obtain ⟨p, e, i1, i2, i3, i4⟩ := loop_upI (L := fun q (s : Int) i => f_X3_placeFor_L5 fu tr fi no t a (f_X3_placeFor_X53 fu) q s i) (f_X3_placeFor_X53 fu)
    (fun i p => 0 ≤ p ∧ p ≤ i ∧ (∀ k, 0 ≤ k → k < p → kO tr fi k < 12 * a + t) ∧ (∀ k, p ≤ k → k < i → 12 * a + t ≤ kO tr fi k)) no
    (fun q s hI => by
      show f_X3_placeFor_L5_b fu tr fi no t a _ _ s no = _
      unfold f_X3_placeFor_L5_b
      rw [jck_of (by omega) (by omega) (by omega) (by omega), if_pos (by omega)])
    (fun q s i hi hI => by
      obtain ⟨i1, i2, i3, i4⟩ := hI
      obtain ⟨a1, a2, a3, a4, a5, -, -⟩ := hN.2.2 i (by omega) hi
      have ek : kO tr fi i = 12 * fi i + tr i := rfl
      by_cases c : 12 * fi i + tr i < 12 * a + t
      · have hp : s = i := by
          by_cases d : s = i
          · exact d
          · have h1 := i4 s (by omega) (by omega)
            have h2 := hSO s i i1 (by omega) hi
            omega
        refine ⟨s + 1, ?_, by omega, by omega, fun k h1 h2 => ?_, fun k h1 h2 => by omega⟩
        · show f_X3_placeFor_L5_b fu tr fi no t a _ _ s i = _
          unfold f_X3_placeFor_L5_b
          by_cases d : fi i < a
          · simp (disch := omega) only [jck_of, if_neg, if_pos, q_firstOf, jb_s]
          · simp (disch := omega) only [jck_of, if_neg, if_pos, q_firstOf, q_trackOf, jb_s]
        · by_cases d : k = i
          · subst d; omega
          · exact i3 k h1 (by omega)
      · refine ⟨s, ?_, i1, by omega, i3, fun k h1 h2 => ?_⟩
        · show f_X3_placeFor_L5_b fu tr fi no t a _ _ s i = _
          unfold f_X3_placeFor_L5_b
          by_cases d : fi i = a
          · simp (disch := omega) only [jck_of, if_neg, if_pos, q_firstOf, q_trackOf, jb_s]
          · simp (disch := omega) only [jck_of, if_neg, if_pos, q_firstOf, jb_s]
        · by_cases d : k = i
          · subst d; omega
          · exact i4 k h1 (by omega)) no.toNat fu 0 0 (by omega) (by omega) ⟨by omega, by omega, fun k h1 h2 => by omega, fun k h1 h2 => by omega⟩
  exact ⟨p, e, i1, i2, i3, i4⟩
theorem q_add {t a b s_ x : Int} (hN : NT tr fi la sh no) (hSO : SO tr fi no) (hAC : AC ac) (hno : no < 40) (ht : 0 ≤ t) (ht2 : t < 12) (ha : 0 ≤ a) (ha2 : a < 100) (hx : x = 0 ∨ x = 1) (hf : 100 ≤ fu) :
    ∃ p, f_X3_add fu tr fi la sh ac no t a b s_ x = some (p, ins tr p t no, ins fi p a no, ins la p b no, ins sh p s_ no, ins ac p x no, no + 1) ∧ 0 ≤ p ∧ p ≤ no ∧ (∀ k, 0 ≤ k → k < p → kO tr fi k < 12 * a + t) ∧ (∀ k, p ≤ k → k < no → 12 * a + t ≤ kO tr fi k) := by
  have n0 := hN.1
  obtain ⟨p, e, i1, i2, i3, i4⟩ := q_placeFor (fu := fu) hN hSO ht ht2 ha ha2 hf
  refine ⟨p, ?_, i1, i2, i3, i4⟩
  unfold f_X3_add
  rw [jck_of (by omega) (by omega) (by omega) (by omega), if_pos hno, e, jb_s]
  obtain ⟨st, e2, hst⟩ := loop_dn (L := fun q (s : (Int → Int) × (Int → Int) × (Int → Int) × (Int → Int) × (Int → Int)) i => f_X3_add_L26 fu p (f_X3_add_X49 fu t a b s_ x p) q s.1 s.2.1 s.2.2.1 s.2.2.2.1 s.2.2.2.2 no i)
    (fun i s => (uI s.1 i (s.1 (i - 1)), uI s.2.1 i (s.2.1 (i - 1)), uI s.2.2.1 i (s.2.2.1 (i - 1)), uI s.2.2.2.1 i (s.2.2.2.1 (i - 1)), uI s.2.2.2.2 i (s.2.2.2.2 (i - 1))))
    (fun s => f_X3_add_X49 fu t a b s_ x p s.1 s.2.1 s.2.2.1 s.2.2.2.1 s.2.2.2.2 no)
    (fun i s => i ≤ no ∧ s = (shu tr i no, shu fi i no, shu la i no, shu sh i no, shu ac i no)) p
    (fun q s hI => by
      show f_X3_add_L26_b fu p _ _ s.1 s.2.1 s.2.2.1 s.2.2.2.1 s.2.2.2.2 no p = _
      unfold f_X3_add_L26_b
      rw [jck_of (by omega) (by omega) (by omega) (by omega), if_pos (by omega)])
    (fun q s i hi hI => by
      obtain ⟨h1, rfl⟩ := hI
      refine ⟨?_, by omega, ?_⟩
      · show f_X3_add_L26_b fu p _ _ (shu tr i no) (shu fi i no) (shu la i no) (shu sh i no) (shu ac i no) no i = _
        unfold f_X3_add_L26_b
        rw [jck_of (by omega) (by omega) (by omega) (by omega), if_neg (by omega), q_move (AC_shu hAC (by omega) hno) (by omega) (by omega) (by omega) (by omega)]
        rfl
      · show (uI (shu tr i no) i (shu tr i no (i - 1)), _, _, _, _) = _
        rw [shu_s tr h1, shu_s fi h1, shu_s la h1, shu_s sh h1, shu_s ac h1])
    (no - p).toNat fu (tr, fi, la, sh, ac) no (by omega) (by omega) ⟨by omega, by rw [shu_0, shu_0, shu_0, shu_0, shu_0]⟩
  obtain ⟨-, rfl⟩ := hst
  refine e2.trans ?_
  show f_X3_add_X49 fu t a b s_ x p (shu tr p no) (shu fi p no) (shu la p no) (shu sh p no) (shu ac p no) no = _
  unfold f_X3_add_X49
  rw [q_isIn_t (by omega) (by omega) (by omega) (by omega), jb_s]
  simp (disch := omega) only [jck_of, jix_of, jbo_of, if_neg]
  rfl
theorem q_remove {x : Int} (hAC : AC ac) (n1 : no ≤ 40) (h1 : 0 ≤ x) (h2 : x < no) (hf : 100 ≤ fu) :
    f_X3_remove fu tr fi la sh ac no x = some (shd tr x (no - 1), shd fi x (no - 1), shd la x (no - 1), shd sh x (no - 1), shd ac x (no - 1), no - 1) := by
  unfold f_X3_remove
  rw [q_has_t h1 h2 n1, jb_s, jck_of (by omega) (by omega) (by omega) (by omega), if_neg (by omega)]
  obtain ⟨st, e2, hst⟩ := loop_upI (L := fun q (s : (Int → Int) × (Int → Int) × (Int → Int) × (Int → Int) × (Int → Int)) i => f_X3_remove_L12 fu (f_X3_remove_X34 fu) q s.1 s.2.1 s.2.2.1 s.2.2.2.1 s.2.2.2.2 no i)
    (fun s => f_X3_remove_X34 fu s.1 s.2.1 s.2.2.1 s.2.2.2.1 s.2.2.2.2 no)
    (fun i s => x + 1 ≤ i ∧ s = (shd tr x (i - 1), shd fi x (i - 1), shd la x (i - 1), shd sh x (i - 1), shd ac x (i - 1))) no
    (fun q s hI => by
      show f_X3_remove_L12_b fu _ _ s.1 s.2.1 s.2.2.1 s.2.2.2.1 s.2.2.2.2 no no = _
      unfold f_X3_remove_L12_b
      rw [jck_of (by omega) (by omega) (by omega) (by omega), if_pos (by omega)])
    (fun q s i hi hI => by
      obtain ⟨h3, rfl⟩ := hI
      refine ⟨(shd tr x i, shd fi x i, shd la x i, shd sh x i, shd ac x i), ?_, by omega, by rw [show i + 1 - 1 = i by omega]⟩
      show f_X3_remove_L12_b fu _ _ (shd tr x (i - 1)) (shd fi x (i - 1)) (shd la x (i - 1)) (shd sh x (i - 1)) (shd ac x (i - 1)) no i = _
      unfold f_X3_remove_L12_b
      rw [jck_of (by omega) (by omega) (by omega) (by omega), if_neg (by omega), q_move (AC_shd hAC (by omega) (by omega)) (by omega) (by omega) (by omega) (by omega)]
      have e : ∀ f : Int → Int, uI (shd f x (i - 1)) (i - 1) (shd f x (i - 1) i) = shd f x i := fun f => by
        have := shd_s f (p := x) (i := i - 1) (by omega)
        rw [show i - 1 + 1 = i by omega] at this
        exact this
      rw [e, e, e, e, e]
      rfl)
    (no - (x + 1)).toNat fu (tr, fi, la, sh, ac) (x + 1) (by omega) (by omega) ⟨by omega, by rw [show x + 1 - 1 = x by omega, shd_0, shd_0, shd_0, shd_0, shd_0]⟩
  obtain ⟨-, rfl⟩ := hst
  exact e2
theorem q_become {o_se o_tr o_fi o_la o_sh o_ac : Int → Int} {o_no : Int} (hAC : AC o_ac) (hf : 100 ≤ fu) :
    f_X3_become fu se tr fi la sh ac no o_se o_tr o_fi o_la o_sh o_ac o_no = some (jcpy o_se se 4, jcpy o_tr tr 40, jcpy o_fi fi 40, jcpy o_la la 40, jcpy o_sh sh 40, jcpy o_ac ac 40, o_no) := by
  unfold f_X3_become f_X3_takeSettings
  rw [jb_s]
  obtain ⟨st, e2, hst⟩ := loop_upI (L := fun q (s : (Int → Int) × (Int → Int) × (Int → Int) × (Int → Int) × (Int → Int)) i => f_X3_become_L15 fu o_tr o_fi o_la o_sh o_ac (f_X3_become_X87 fu) q (jcpy o_se se 4) s.1 s.2.1 s.2.2.1 s.2.2.2.1 s.2.2.2.2 o_no i)
    (fun s => f_X3_become_X87 fu (jcpy o_se se 4) s.1 s.2.1 s.2.2.1 s.2.2.2.1 s.2.2.2.2 o_no)
    (fun i s => 0 ≤ i ∧ s = (jcpy o_tr tr i, jcpy o_fi fi i, jcpy o_la la i, jcpy o_sh sh i, jcpy o_ac ac i)) 40
    (fun q s hI => by
      show f_X3_become_L15_b fu o_tr o_fi o_la o_sh o_ac _ _ (jcpy o_se se 4) s.1 s.2.1 s.2.2.1 s.2.2.2.1 s.2.2.2.2 o_no 40 = _
      unfold f_X3_become_L15_b
      rw [jck_of (by omega) (by omega) (by omega) (by omega), if_pos (by omega)])
    (fun q s i hi hI => by
      obtain ⟨h3, rfl⟩ := hI
      have := hAC i h3 hi
      refine ⟨(jcpy o_tr tr (i + 1), jcpy o_fi fi (i + 1), jcpy o_la la (i + 1), jcpy o_sh sh (i + 1), jcpy o_ac ac (i + 1)), ?_, by omega, rfl⟩
      show f_X3_become_L15_b fu o_tr o_fi o_la o_sh o_ac _ _ (jcpy o_se se 4) (jcpy o_tr tr i) (jcpy o_fi fi i) (jcpy o_la la i) (jcpy o_sh sh i) (jcpy o_ac ac i) o_no i = _
      unfold f_X3_become_L15_b
      simp (disch := omega) only [jck_of, jix_of, jbo_of, if_neg, jcpy_s])
    40 fu (tr, fi, la, sh, ac) 0 (by omega) (by omega) ⟨by omega, by rw [jcpy_0, jcpy_0, jcpy_0, jcpy_0, jcpy_0]⟩
  obtain ⟨-, rfl⟩ := hst
  exact e2
end Q42
