/-! the class's Roll: what it tells -/
def sWit (fi la : Int → Int) (a b : Int) (i m : Int) : Int := if a ≤ fi i ∧ la i ≤ b then m + 1 else m
def sLen (fi la : Int → Int) (st : Int) (i m : Int) : Int := if fi i < st ∧ st ≤ la i then m + 1 else m
def sFi (fi : Int → Int) (st many q : Int) : Int := if fi q < st then fi q else fi q + many
def sLa (la : Int → Int) (st many q : Int) : Int := if la q < st then la q else la q + many
def sTrk (tr fi la : Int → Int) (s : Int) (i m : Int) : Int := if fi i ≤ s ∧ s ≤ la i then jor m (jshl 1 (tr i)) else m
def hol (se fi la sh : Int → Int) (k s : Int) : Int := if s = fi k ∨ s = la k ∨ ((s - fi k) + sh k) % (se 0 + se 1) < se 0 then 1 else 0
theorem hol_01 (se fi la sh : Int → Int) (k s : Int) : hol se fi la sh k s = 0 ∨ hol se fi la sh k s = 1 := by
  unfold hol
  by_cases c : s = fi k ∨ s = la k ∨ ((s - fi k) + sh k) % (se 0 + se 1) < se 0
  · rw [if_pos c]; exact Or.inr rfl
  · rw [if_neg c]; exact Or.inl rfl
def sBri (se fi la sh : Int → Int) (k : Int) (s m : Int) : Int := if hol se fi la sh k s = 0 then m + 1 else m
def sLon (se fi la sh : Int → Int) (k : Int) (s : Int) (m : Int × Int) : Int × Int := if hol se fi la sh k s = 0 then (jmax m.1 (m.2 + 1), m.2 + 1) else (jmax m.1 0, 0)
theorem fdA_cnt {P : Int → Prop} [DecidablePred P] {a i : Int} (h : a ≤ i) : 0 ≤ fdA (fun j (m : Int) => if P j then m + 1 else m) 0 a i ∧ fdA (fun j (m : Int) => if P j then m + 1 else m) 0 a i ≤ i - a ∧ (0 < fdA (fun j (m : Int) => if P j then m + 1 else m) 0 a i ↔ ∃ k, a ≤ k ∧ k < i ∧ P k) := by
  refine fdA_inv (I := fun i m => 0 ≤ m ∧ m ≤ i - a ∧ (0 < m ↔ ∃ k, a ≤ k ∧ k < i ∧ P k)) h ⟨by omega, by omega, ?_⟩ ?_
  · constructor
    · intro h; omega
    · rintro ⟨k, h1, h2, -⟩; omega
  · intro j s h1 h2 h3
    by_cases c : P j
    · simp only [c, if_true]
      exact ⟨by omega, by omega, fun _ => ⟨j, h1, by omega, c⟩, fun _ => by omega⟩
    · simp only [c, if_false]
      refine ⟨by omega, by omega, fun h => ?_, fun h => ?_⟩
      · obtain ⟨k, a1, a2, a3⟩ := h3.2.2.mp h
        exact ⟨k, a1, by omega, a3⟩
      · obtain ⟨k, a1, a2, a3⟩ := h
        refine h3.2.2.mpr ⟨k, a1, ?_, a3⟩
        by_cases d : k = j
        · subst d; exact absurd a3 c
        · omega
theorem jmax_l {a b : Int} : a ≤ jmax a b := by unfold jmax; by_cases c : a < b <;> simp only [c, if_true, if_false] <;> omega
theorem jmax_r {a b : Int} : b ≤ jmax a b := by unfold jmax; by_cases c : a < b <;> simp only [c, if_true, if_false] <;> omega
theorem jmax_or {a b : Int} : jmax a b = a ∨ jmax a b = b := by
  unfold jmax
  by_cases c : a < b
  · rw [if_pos c]; exact Or.inr rfl
  · rw [if_neg c]; exact Or.inl rfl
section Q43
variable {fu : Nat} {se tr fi la sh ac : Int → Int} {no : Int}
theorem q_touching {t a b : Int} (hN : NT tr fi la sh no) (ht : -2147483648 ≤ t) (ht2 : t < 2147483648) (ha : -2147483648 ≤ a) (ha2 : a < 2147483648) (hb : -2147483648 ≤ b) (hb2 : b < 2147483648) (hf : 100 ≤ fu) :
    f_X3_touching fu tr fi la no t a b = some (fdA (sTou tr fi la t a b) 0 0 no) := by
  have := hN.1
  have := hN.2.1
  unfold f_X3_touching fdA
  rw [l_touching hN ht ht2 ha ha2 hb hb2 _ no.toNat fu 0 0 (by omega) (by omega) (by omega), show (no - 0).toNat = no.toNat by omega]
  rfl
theorem tou_pos {t a b : Int} (h0 : 0 ≤ no) : 0 ≤ fdA (sTou tr fi la t a b) 0 0 no ∧ fdA (sTou tr fi la t a b) 0 0 no ≤ no ∧ (0 < fdA (sTou tr fi la t a b) 0 0 no ↔ ∃ k, 0 ≤ k ∧ k < no ∧ (tr k = t ∧ fi k ≤ b ∧ a ≤ la k)) := by
  have := fdA_cnt (P := fun k => tr k = t ∧ fi k ≤ b ∧ a ≤ la k) h0
  rw [show no - 0 = no by omega] at this
  exact this
theorem q_isTaken_t {t a b : Int} (hN : NT tr fi la sh no) (ht : -2147483648 ≤ t) (ht2 : t < 2147483648) (ha : -2147483648 ≤ a) (ha2 : a < 2147483648) (hb : -2147483648 ≤ b) (hb2 : b < 2147483648) (hf : 100 ≤ fu) (h : ∃ k, 0 ≤ k ∧ k < no ∧ (tr k = t ∧ fi k ≤ b ∧ a ≤ la k)) :
    f_X3_isTaken fu tr fi la no t a b = some 1 := by
  have h1 := hN.2.1
  have h0 := tou_pos (tr := tr) (fi := fi) (la := la) (t := t) (a := a) (b := b) hN.1
  have h2 := h0.2.2.mpr h
  unfold f_X3_isTaken
  rw [q_touching hN ht ht2 ha ha2 hb hb2 hf, jb_s, jck_of (by omega) (by omega) (by omega) (by omega), if_neg (by omega), jbo_of (by omega)]
theorem q_isTaken_f {t a b : Int} (hN : NT tr fi la sh no) (ht : -2147483648 ≤ t) (ht2 : t < 2147483648) (ha : -2147483648 ≤ a) (ha2 : a < 2147483648) (hb : -2147483648 ≤ b) (hb2 : b < 2147483648) (hf : 100 ≤ fu) (h : ¬ ∃ k, 0 ≤ k ∧ k < no ∧ (tr k = t ∧ fi k ≤ b ∧ a ≤ la k)) :
    f_X3_isTaken fu tr fi la no t a b = some 0 := by
  have h1 := hN.2.1
  have h0 := tou_pos (tr := tr) (fi := fi) (la := la) (t := t) (a := a) (b := b) hN.1
  have h2 : ¬ 0 < fdA (sTou tr fi la t a b) 0 0 no := fun q => h (h0.2.2.mp q)
  unfold f_X3_isTaken
  rw [q_touching hN ht ht2 ha ha2 hb hb2 hf, jb_s, jck_of (by omega) (by omega) (by omega) (by omega), if_pos (by omega), jbo_of (by omega)]
theorem q_liesWithin {k a b : Int} (hN : NT tr fi la sh no) (hk : 0 ≤ k) (hk2 : k < no) (ha : -2147483648 ≤ a) (ha2 : a < 2147483648) (hb : -2147483648 ≤ b) (hb2 : b < 2147483648) :
    f_X3_liesWithin fu fi la no k a b = some (if a ≤ fi k ∧ la k ≤ b then 1 else 0) := by
  have n1 := hN.2.1
  obtain ⟨a1, a2, a3, a4, a5, -, -⟩ := hN.2.2 k hk hk2
  unfold f_X3_liesWithin
  rw [q_has_t hk hk2 n1, jb_s, jck_of (by omega) (by omega) (by omega) (by omega), if_neg (by omega), q_firstOf hk hk2 n1, jb_s, jck_of (by omega) (by omega) (by omega) (by omega)]
  by_cases c : fi k < a
  · rw [if_pos c, if_neg (by omega), jbo_of (by omega)]
  · rw [if_neg c, q_lastOf hk hk2 n1, jb_s, jck_of (by omega) (by omega) (by omega) (by omega)]
    by_cases d : b < la k
    · rw [if_pos d, if_neg (by omega), jbo_of (by omega)]
    · rw [if_neg d, if_pos (by omega), jbo_of (by omega)]
theorem q_within {a b : Int} (hN : NT tr fi la sh no) (ha : -2147483648 ≤ a) (ha2 : a < 2147483648) (hb : -2147483648 ≤ b) (hb2 : b < 2147483648) (hf : 100 ≤ fu) :
    f_X3_within fu fi la no a b = some (fdA (sWit fi la a b) 0 0 no) := by
  have n0 := hN.1
  have n1 := hN.2.1
  unfold f_X3_within
  obtain ⟨p, e, i1, rfl⟩ := loop_upI (L := fun q (s : Int) i => f_X3_within_L5 fu fi la no a b (f_X3_within_X34 fu) q s i) (f_X3_within_X34 fu)
    (fun i p => 0 ≤ i ∧ p = fdA (sWit fi la a b) 0 0 i) no
    (fun q s hI => by
      show f_X3_within_L5_b fu fi la no a b _ _ s no = _
      unfold f_X3_within_L5_b
      rw [jck_of (by omega) (by omega) (by omega) (by omega), if_pos (by omega)])
    (fun q s i hi hI => by
      obtain ⟨i1, rfl⟩ := hI
      refine ⟨_, ?_, by omega, rfl⟩
      show f_X3_within_L5_b fu fi la no a b _ _ _ i = _
      unfold f_X3_within_L5_b
      rw [jck_of (by omega) (by omega) (by omega) (by omega), if_neg (by omega), q_liesWithin hN i1 hi ha ha2 hb hb2, jb_s, fdA_s _ _ i1]
      unfold sWit
      by_cases c : a ≤ fi i ∧ la i ≤ b
      · rw [if_pos c, if_pos c, jck_of (by omega) (by omega) (by omega) (by omega), if_neg (by omega)]
      · rw [if_neg c, if_neg c, jck_of (by omega) (by omega) (by omega) (by omega), if_pos (by omega)])
    no.toNat fu 0 0 (by omega) (by omega) ⟨by omega, by rw [fdA_0]⟩
  exact e
theorem q_greatestLast (hN : NT tr fi la sh no) (hf : 100 ≤ fu) :
    ∃ g, f_X3_greatestLast fu la no = some g ∧ -1 ≤ g ∧ g < 100 ∧ (∀ k, 0 ≤ k → k < no → la k ≤ g) ∧ (g = -1 ∨ ∃ k, 0 ≤ k ∧ k < no ∧ la k = g) := by
  have n0 := hN.1
  have n1 := hN.2.1
  unfold f_X3_greatestLast
  obtain ⟨p, e, i1, i2, i3, i4⟩ := loop_upI (L := fun q (s : Int) i => f_X3_greatestLast_L4 fu la no (f_X3_greatestLast_X28 fu) q s i) (f_X3_greatestLast_X28 fu)
    (fun i g => (0 ≤ i ∧ -1 ≤ g ∧ g < 100) ∧ (∀ k, 0 ≤ k → k < i → la k ≤ g) ∧ (g = -1 ∨ ∃ k, 0 ≤ k ∧ k < i ∧ la k = g) ∧ True) no
    (fun q s hI => by
      show f_X3_greatestLast_L4_b fu la no _ _ s no = _
      unfold f_X3_greatestLast_L4_b
      rw [jck_of (by omega) (by omega) (by omega) (by omega), if_pos (by omega)])
    (fun q s i hi hI => by
      obtain ⟨⟨i1, i2, i3⟩, i4, i5, -⟩ := hI
      obtain ⟨a1, a2, a3, a4, a5, -, -⟩ := hN.2.2 i i1 hi
      have m1 := jmax_l (a := s) (b := la i)
      have m2 := jmax_r (a := s) (b := la i)
      have m3 := jmax_or (a := s) (b := la i)
      refine ⟨jmax s (la i), ?_, ⟨by omega, by omega, by omega⟩, fun k h1 h2 => ?_, ?_, trivial⟩
      · show f_X3_greatestLast_L4_b fu la no _ _ s i = _
        unfold f_X3_greatestLast_L4_b
        simp (disch := omega) only [jck_of, if_neg, q_lastOf, jb_s]
      · by_cases d : k = i
        · subst d; exact m2
        · have := i4 k h1 (by omega)
          omega
      · rcases m3 with m | m
        · rcases i5 with h | ⟨k, h1, h2, h3⟩
          · left; omega
          · exact Or.inr ⟨k, h1, by omega, by omega⟩
        · exact Or.inr ⟨i, i1, by omega, by omega⟩)
    no.toNat fu (-1) 0 (by omega) (by omega) ⟨⟨by omega, by omega, by omega⟩, fun k h1 h2 => by omega, Or.inl rfl, trivial⟩
  exact ⟨p, e, i1.2.1, i1.2.2, i2, i3⟩
theorem q_lengthen {st many : Int} (hN : NT tr fi la sh no) (hs : 0 ≤ st) (hs2 : st < 100) (hf : 100 ≤ fu) :
    f_X3_lengthen fu fi la no st many = some (fdA (sLen fi la st) 0 0 no, jcpy (sFi fi st many) fi no, jcpy (sLa la st many) la no) := by
  have n0 := hN.1
  have n1 := hN.2.1
  unfold f_X3_lengthen
  obtain ⟨p, e, i1, rfl⟩ := loop_upI (L := fun q (s : (Int → Int) × (Int → Int) × Int) i => f_X3_lengthen_L5 fu no st many (f_X3_lengthen_X88 fu) q s.1 s.2.1 s.2.2 i) (fun s => f_X3_lengthen_X88 fu s.1 s.2.1 s.2.2)
    (fun i s => 0 ≤ i ∧ s = (jcpy (sFi fi st many) fi i, jcpy (sLa la st many) la i, fdA (sLen fi la st) 0 0 i)) no
    (fun q s hI => by
      show f_X3_lengthen_L5_b fu no st many _ _ s.1 s.2.1 s.2.2 no = _
      unfold f_X3_lengthen_L5_b
      rw [jck_of (by omega) (by omega) (by omega) (by omega), if_pos (by omega)])
    (fun q s i hi hI => by
      obtain ⟨i1, rfl⟩ := hI
      obtain ⟨a1, a2, a3, a4, a5, -, -⟩ := hN.2.2 i i1 hi
      refine ⟨_, ?_, by omega, rfl⟩
      show f_X3_lengthen_L5_b fu no st many _ _ (jcpy (sFi fi st many) fi i) (jcpy (sLa la st many) la i) (fdA (sLen fi la st) 0 0 i) i = _
      unfold f_X3_lengthen_L5_b
      rw [jcpy_at, jcpy_at]
      have e1 := jcpy_s (sFi fi st many) fi i1
      have e2 := jcpy_s (sLa la st many) la i1
      have e3 := fdA_s (sLen fi la st) 0 i1
      by_cases c : fi i < st
      · have f1 : sFi fi st many i = fi i := if_pos c
        have g1 : jcpy (sFi fi st many) fi (i + 1) = jcpy (sFi fi st many) fi i := by
          rw [← e1]
          funext q
          unfold uI
          by_cases d : q = i
          · subst d; rw [if_pos rfl, f1, jcpy_at]
          · rw [if_neg d]
        by_cases d : la i < st
        · have f2 : sLa la st many i = la i := if_pos d
          have g2 : jcpy (sLa la st many) la (i + 1) = jcpy (sLa la st many) la i := by
            rw [← e2]
            funext q
            unfold uI
            by_cases d : q = i
            · subst d; rw [if_pos rfl, f2, jcpy_at]
            · rw [if_neg d]
          have f3 : sLen fi la st i (fdA (sLen fi la st) 0 0 i) = fdA (sLen fi la st) 0 0 i := if_neg (by omega)
          simp (disch := omega) only [jck_of, jix_of, if_neg, if_pos]
          rw [g1, g2, e3, f3]
        · have f2 : sLa la st many i = la i + many := if_neg d
          have f3 : sLen fi la st i (fdA (sLen fi la st) 0 0 i) = fdA (sLen fi la st) 0 0 i + 1 := if_pos (by omega)
          simp (disch := omega) only [jck_of, jix_of, if_neg, if_pos]
          rw [g1, ← e2, f2, e3, f3]
      · have f1 : sFi fi st many i = fi i + many := if_neg c
        have f2 : sLa la st many i = la i + many := if_neg (by omega)
        have f3 : sLen fi la st i (fdA (sLen fi la st) 0 0 i) = fdA (sLen fi la st) 0 0 i := if_neg (by omega)
        simp (disch := omega) only [jck_of, jix_of, if_neg, if_pos]
        rw [← e1, ← e2, f1, f2, e3, f3])
    no.toNat fu (fi, la, 0) 0 (by omega) (by omega) ⟨by omega, by rw [jcpy_0, jcpy_0, fdA_0]⟩
  exact e
theorem q_tracksAt {s0 : Int} (hN : NT tr fi la sh no) (h1 : -2147483648 ≤ s0) (h2 : s0 < 2147483648) (hf : 100 ≤ fu) :
    f_X3_tracksAt fu tr fi la no s0 = some (fdA (sTrk tr fi la s0) 0 0 no) := by
  have n0 := hN.1
  have n1 := hN.2.1
  unfold f_X3_tracksAt
  obtain ⟨p, e, i1, rfl⟩ := loop_upI (L := fun q (s : Int) i => f_X3_tracksAt_L4 fu tr fi la no s0 (f_X3_tracksAt_X46 fu) q s i) (f_X3_tracksAt_X46 fu)
    (fun i p => 0 ≤ i ∧ p = fdA (sTrk tr fi la s0) 0 0 i) no
    (fun q s hI => by
      show f_X3_tracksAt_L4_b fu tr fi la no s0 _ _ s no = _
      unfold f_X3_tracksAt_L4_b
      rw [jck_of (by omega) (by omega) (by omega) (by omega), if_pos (by omega)])
    (fun q s i hi hI => by
      obtain ⟨i1, rfl⟩ := hI
      obtain ⟨a1, a2, a3, a4, a5, -, -⟩ := hN.2.2 i i1 hi
      refine ⟨_, ?_, by omega, rfl⟩
      show f_X3_tracksAt_L4_b fu tr fi la no s0 _ _ _ i = _
      unfold f_X3_tracksAt_L4_b
      rw [fdA_s _ _ i1]
      simp (disch := omega) only [jck_of, if_neg, q_firstOf, q_lastOf, q_trackOf, jb_s]
      unfold sTrk
      by_cases c : s0 < fi i
      · rw [if_pos c, if_neg (by omega)]
      · rw [if_neg c]
        by_cases d : la i < s0
        · rw [if_pos d, if_neg (by omega)]
        · rw [if_neg d, if_pos (by omega)])
    no.toNat fu 0 0 (by omega) (by omega) ⟨by omega, by rw [fdA_0]⟩
  exact e
theorem q_isHole {k s : Int} (hN : NT tr fi la sh no) (hE : SE se) (hk : 0 ≤ k) (hk2 : k < no) (h1 : fi k ≤ s) (h2 : s ≤ la k) :
    f_X3_isHole fu se fi la sh no k s = some (hol se fi la sh k s) := by
  have n1 := hN.2.1
  obtain ⟨a1, a2, a3, a4, a5, a6, a7⟩ := hN.2.2 k hk hk2
  obtain ⟨b1, b2, b3, b4, -⟩ := hE
  unfold f_X3_isHole hol
  rw [q_firstOf hk hk2 n1, jb_s, jck_of (by omega) (by omega) (by omega) (by omega)]
  by_cases c1 : s = fi k
  · rw [if_pos c1, if_pos (Or.inl c1), jbo_of (by omega)]
  · rw [if_neg c1, q_lastOf hk hk2 n1, jb_s, jck_of (by omega) (by omega) (by omega) (by omega)]
    by_cases c2 : s = la k
    · rw [if_neg (by omega), if_pos (Or.inr (Or.inl c2)), jbo_of (by omega)]
    · have m0 := Int.emod_nonneg (s - fi k + sh k) (show se 0 + se 1 ≠ 0 by omega)
      have m1 := Int.emod_lt_of_pos (s - fi k + sh k) (show 0 < se 0 + se 1 by omega)
      rw [if_pos c2]
      simp (disch := omega) only [jix_of, jck_of, jre_of, if_neg, q_firstOf, q_shiftOf, jb_s]
      by_cases c3 : (s - fi k + sh k) % (se 0 + se 1) < se 0
      · rw [if_neg (by omega), if_pos (Or.inr (Or.inr c3)), jbo_of (by omega)]
      · rw [if_pos (by omega), if_neg (by omega), jbo_of (by omega)]
theorem q_bridges {k : Int} (hN : NT tr fi la sh no) (hE : SE se) (hk : 0 ≤ k) (hk2 : k < no) (hf : 200 ≤ fu) :
    f_X3_bridges fu se fi la sh no k = some (fdA (sBri se fi la sh k) 0 (fi k) (la k + 1)) := by
  have n1 := hN.2.1
  obtain ⟨a1, a2, a3, a4, a5, a6, a7⟩ := hN.2.2 k hk hk2
  unfold f_X3_bridges
  rw [q_firstOf hk hk2 n1, jb_s]
  obtain ⟨p, e, i1, rfl⟩ := loop_upI (L := fun q (s : Int) i => f_X3_bridges_L8 fu se fi la sh no k (f_X3_bridges_X35 fu) q s i) (f_X3_bridges_X35 fu)
    (fun i p => fi k ≤ i ∧ p = fdA (sBri se fi la sh k) 0 (fi k) i) (la k + 1)
    (fun q s hI => by
      show f_X3_bridges_L8_b fu se fi la sh no k _ _ s (la k + 1) = _
      unfold f_X3_bridges_L8_b
      rw [q_lastOf hk hk2 n1, jb_s, jck_of (by omega) (by omega) (by omega) (by omega), if_pos (by omega)])
    (fun q s i hi hI => by
      obtain ⟨i1, rfl⟩ := hI
      refine ⟨_, ?_, by omega, rfl⟩
      show f_X3_bridges_L8_b fu se fi la sh no k _ _ _ i = _
      unfold f_X3_bridges_L8_b
      rw [q_lastOf hk hk2 n1, jb_s, jck_of (by omega) (by omega) (by omega) (by omega), if_neg (by omega), q_isHole hN hE hk hk2 i1 (by omega), jb_s, fdA_s _ _ i1]
      have := hol_01 se fi la sh k i
      rw [jck_of (by omega) (by omega) (by omega) (by omega)]
      unfold sBri
      by_cases c : hol se fi la sh k i = 0
      · rw [if_neg (by omega), if_pos c]
      · rw [if_pos c, if_neg c])
    (la k + 1 - fi k).toNat fu 0 (fi k) (by omega) (by omega) ⟨by omega, by rw [fdA_0]⟩
  exact e
theorem q_longest {k : Int} (hN : NT tr fi la sh no) (hE : SE se) (hk : 0 ≤ k) (hk2 : k < no) (hf : 200 ≤ fu) :
    f_X3_longestBridge fu se fi la sh no k = some (fdA (sLon se fi la sh k) (0, 0) (fi k) (la k + 1)).1 := by
  have n1 := hN.2.1
  obtain ⟨a1, a2, a3, a4, a5, a6, a7⟩ := hN.2.2 k hk hk2
  unfold f_X3_longestBridge
  rw [q_firstOf hk hk2 n1, jb_s]
  obtain ⟨p, e, i1, rfl, -⟩ := loop_upI (L := fun q (s : Int × Int) i => f_X3_longestBridge_L11 fu se fi la sh no k (f_X3_longestBridge_X51 fu) q s.1 s.2 i) (fun s => f_X3_longestBridge_X51 fu s.1)
    (fun i p => fi k ≤ i ∧ p = fdA (sLon se fi la sh k) (0, 0) (fi k) i ∧ (0 ≤ p.1 ∧ p.1 ≤ i ∧ 0 ≤ p.2 ∧ p.2 ≤ i)) (la k + 1)
    (fun q s hI => by
      show f_X3_longestBridge_L11_b fu se fi la sh no k _ _ s.1 s.2 (la k + 1) = _
      unfold f_X3_longestBridge_L11_b
      rw [q_lastOf hk hk2 n1, jb_s, jck_of (by omega) (by omega) (by omega) (by omega), if_pos (by omega)])
    (fun q s i hi hI => by
      obtain ⟨i1, i2, i3⟩ := hI
      refine ⟨fdA (sLon se fi la sh k) (0, 0) (fi k) (i + 1), ?_, by omega, rfl, ?_⟩
      · show f_X3_longestBridge_L11_b fu se fi la sh no k _ _ s.1 s.2 i = _
        unfold f_X3_longestBridge_L11_b f_X3_longestBridge_J38
        rw [q_lastOf hk hk2 n1, jb_s, jck_of (by omega) (by omega) (by omega) (by omega), if_neg (by omega), q_isHole hN hE hk hk2 i1 (by omega), jb_s, fdA_s _ _ i1, ← i2]
        have := hol_01 se fi la sh k i
        rw [jck_of (by omega) (by omega) (by omega) (by omega)]
        unfold sLon
        by_cases c : hol se fi la sh k i = 0
        · rw [if_pos c, if_pos c, jck_of (by omega) (by omega) (by omega) (by omega)]
        · rw [if_neg c, if_neg c, jck_of (by omega) (by omega) (by omega) (by omega)]
      · rw [fdA_s _ _ i1, ← i2]
        unfold sLon
        by_cases c : hol se fi la sh k i = 0
        · rw [if_pos c]
          have := jmax_or (a := s.1) (b := s.2 + 1)
          have := jmax_l (a := s.1) (b := s.2 + 1)
          exact ⟨by show 0 ≤ jmax _ _; omega, by show jmax _ _ ≤ _; omega, by show 0 ≤ s.2 + 1; omega, by show s.2 + 1 ≤ _; omega⟩
        · rw [if_neg c]
          have := jmax_or (a := s.1) (b := 0)
          have := jmax_l (a := s.1) (b := 0)
          exact ⟨by show 0 ≤ jmax _ _; omega, by show jmax _ _ ≤ _; omega, by show (0:Int) ≤ 0; omega, by show (0:Int) ≤ _; omega⟩)
    (la k + 1 - fi k).toNat fu (0, 0) (fi k) (by omega) (by omega) ⟨by omega, by rw [fdA_0], by show (0:Int) ≤ 0; omega, by show (0:Int) ≤ _; omega, by show (0:Int) ≤ 0; omega, by show (0:Int) ≤ _; omega⟩
  exact e
end Q43
