/-! the model: holes and what is heard -/
def E1r (f : Int → Int) : Prop := ∀ s, 0 ≤ s → s < 100 → rg (f s)
theorem jor_00 {a : Int} (h : rg a) : jor a 0 = a := jor_0 h
theorem HO_ST {se tr fi la sh ac : Int → Int} {no : Int} (hN : NT tr fi la sh no) : ∀ s, ST (HO se tr fi la sh ac no s) := by
  have pn : ∀ (g : Int → Int) t s, 0 ≤ t → t < 12 → (∀ q, ST (g q)) → ∀ q, ST (pnS t g s q) := by
    intro g t s h1 h2 h q
    unfold pnS uI
    by_cases c : q = s
    · rw [if_pos c]; exact ST_or (h s) (ST_shl h1 h2)
    · rw [if_neg c]; exact h q
  unfold HO
  refine fdA_inv (I := fun _ (g : Int → Int) => ∀ s, ST (g s)) hN.1 (fun _ => ST_0) (fun j g h1 h2 h3 => ?_)
  obtain ⟨a1, a2, a3, a4, a5, -, -⟩ := hN.2.2 j h1 h2
  have e : ∀ s, ST (fdA (rowS se tr fi la sh j) g (fi j) (la j + 1) s) := by
    refine fdA_inv (I := fun _ (g : Int → Int) => ∀ s, ST (g s)) (by omega) h3 (fun s g' k1 k2 k3 => ?_)
    unfold rowS
    by_cases c : hol se fi la sh j s = 0
    · rw [if_pos c]; exact k3
    · rw [if_neg c]; exact pn _ _ _ a1 a2 k3
  unfold notS
  by_cases c : ac j = 0
  · rw [if_pos c]; exact e
  · rw [if_neg c]
    refine pn _ _ _ ?_ ?_ e
    · unfold accT; by_cases d : tr j = 11
      · rw [if_pos d]; omega
      · rw [if_neg d]; omega
    · unfold accT; by_cases d : tr j = 11
      · rw [if_pos d]; omega
      · rw [if_neg d]; omega
theorem EHs_ST {ho : Int → Int} {h s : Int} (hs : 0 ≤ s) (hh : 0 ≤ h) (hst : ∀ q, ST (ho q)) : ST (EHs ho h s) := by
  unfold EHs
  have m := jmax_or (a := 0) (b := s - h)
  exact fdA_inv (I := fun _ v => ST v) (by omega) ST_0 (fun j v _ _ hv => ST_or hv (hst j))
theorem ST.rg {v : Int} (h : ST v) : rg v := ⟨by have := h.1; omega, by have := h.2; omega⟩
/-- the fold of ors from another start -/
theorem or_fold {ho : Int → Int} : ∀ (n : Nat) (a v : Int), rg v → fo (fun a v => jor v (ho a)) n a v = jor v (fo (fun a v => jor v (ho a)) n a 0)
  | 0, a, v, hv => by rw [fo_0, fo_0, jor_0 hv]
  | n + 1, a, v, hv => by
    rw [fo_s, fo_s, or_fold n (a + 1) (jor v (ho a)) (rg_jor _ _), or_fold n (a + 1) (jor 0 (ho a)) (rg_jor _ _), jor_assoc v (ho a), ← jor_assoc v (jor 0 (ho a)), ← jor_assoc v 0, jor_0 hv, jor_assoc]
theorem or_front {ho : Int → Int} {a b : Int} (h : a < b) (hr : rg (ho a)) : fdA (fun a v => jor v (ho a)) 0 a b = jor (fdA (fun a v => jor v (ho a)) 0 (a + 1) b) (ho a) := by
  unfold fdA
  obtain ⟨n, e⟩ : ∃ n : Nat, (b - a).toNat = n + 1 := ⟨(b - a).toNat - 1, by omega⟩
  rw [e, show (b - (a + 1)).toNat = n by omega, fo_s, or_fold n (a + 1) _ (rg_jor _ _), jor_0l hr, jor_comm]
section Q48
variable {fu : Nat} {st se tr fi la sh ac : Int → Int} {no : Int}
theorem m_findHoles {ho : Int → Int} (hR : RLm st se tr fi la sh ac no) (hN : NT tr fi la sh no) (hE : SE se) (hA : AC ac) (hf : 300 ≤ fu) :
    ∃ ho1, f_X5_findHoles fu ho st = some ho1 ∧ E1 ho1 (HO se tr fi la sh ac no) := by
  have n0 := hN.1
  have n1 := hN.2.1
  unfold f_X5_findHoles
  obtain ⟨p, e, i1, rfl⟩ := loop_upI (L := fun q (s : Int → Int) i => f_X5_findHoles_L2 fu (f_X5_findHoles_X21 fu st) q s i) (f_X5_findHoles_X21 fu st)
    (fun i p => 0 ≤ i ∧ p = jcpy (fun _ => 0) ho i) 100
    (fun q s hI => by
      show f_X5_findHoles_L2_b fu _ _ s 100 = _
      unfold f_X5_findHoles_L2_b
      rw [jck_of (by omega) (by omega) (by omega) (by omega), if_pos (by omega)])
    (fun q s i hi hI => by
      obtain ⟨i1, rfl⟩ := hI
      refine ⟨_, ?_, by omega, rfl⟩
      show f_X5_findHoles_L2_b fu _ _ _ i = _
      unfold f_X5_findHoles_L2_b
      rw [jck_of (by omega) (by omega) (by omega) (by omega), if_neg (by omega), jix_of (by omega) (by omega), ← jcpy_s _ _ i1])
    100 fu ho 0 (by omega) (by omega) ⟨by omega, by rw [jcpy_0]⟩
  have e' : f_X5_findHoles_L2 fu (f_X5_findHoles_X21 fu st) fu ho 0 = f_X5_findHoles_X21 fu st (jcpy (fun _ => 0) ho 100) := e
  rw [e']
  unfold f_X5_findHoles_X21
  obtain ⟨p, e, i1, i2, i3⟩ := loop_upI (L := fun q (s : Int → Int) i => f_X5_findHoles_L23 fu st (f_X5_findHoles_X140 fu) q s i) (f_X5_findHoles_X140 fu)
    (fun i p => 0 ≤ i ∧ E1 p (fdA (notS se tr fi la sh ac) (fun _ => 0) 0 i) ∧ E1r p) no
    (fun q s hI => by
      show f_X5_findHoles_L23_b fu st _ _ s no = _
      unfold f_X5_findHoles_L23_b
      rw [hR.n4, jix_of (by omega) (by omega), jck_of (by omega) (by omega) (by omega) (by omega), if_pos (by omega)])
    (fun q s i hi hI => by
      obtain ⟨i1, i2, i3⟩ := hI
      obtain ⟨a1, a2, a3, a4, a5, -, -⟩ := hN.2.2 i i1 hi
      obtain ⟨g, e, k0, k1, k2⟩ := loop_upI (L := fun r (g : Int → Int) a => f_X5_findHoles_L47 fu st i (tr i) (f_X5_findHoles_X88 fu st i (tr i) (f_X5_findHoles_L23 fu st (f_X5_findHoles_X140 fu) q)) r g a) (f_X5_findHoles_X88 fu st i (tr i) (f_X5_findHoles_L23 fu st (f_X5_findHoles_X140 fu) q))
        (fun a g => fi i ≤ a ∧ E1 g (fdA (rowS se tr fi la sh i) s (fi i) a) ∧ E1r g) (la i + 1)
        (fun r g hI => by
          show f_X5_findHoles_L47_b fu st i (tr i) _ _ g (la i + 1) = _
          unfold f_X5_findHoles_L47_b
          rw [m_p2 hR i1 hi n1, jb_s, jck_of (by omega) (by omega) (by omega) (by omega), if_pos (by omega)])
        (fun r g a ha hI => by
          obtain ⟨k0, k1, k2⟩ := hI
          have := hol_01 se fi la sh i a
          refine ⟨uI g a (jor (g a) (if hol se fi la sh i a = 0 then 0 else jshl 1 (tr i))), ?_, by omega, fun x x0 x1 => ?_, fun x x0 x1 => ?_⟩
          · show f_X5_findHoles_L47_b fu st i (tr i) _ _ g a = _
            unfold f_X5_findHoles_L47_b f_X5_findHoles_J80
            rw [m_p2 hR i1 hi n1, jb_s, jck_of (by omega) (by omega) (by omega) (by omega), if_neg (by omega), jix_of (by omega) (by omega), m_isHole hR hN hE i1 hi k0 (by omega), jb_s, jck_of (by omega) (by omega) (by omega) (by omega)]
            by_cases c : hol se fi la sh i a = 0
            · rw [if_pos c, if_pos c, jix_of (by omega) (by omega)]
            · rw [if_neg c, if_neg c, jix_of (by omega) (by omega)]
          · rw [fdA_s _ _ k0]
            unfold rowS
            by_cases c : hol se fi la sh i a = 0
            · rw [if_pos c, if_pos c]
              unfold uI
              by_cases d : x = a
              · rw [if_pos d, jor_0 (k2 a (by omega) (by omega))]; exact (congrArg g d.symm).trans (k1 x x0 x1)
              · rw [if_neg d]; exact k1 x x0 x1
            · rw [if_neg c, if_neg c]
              exact E1_pnS k1 (by omega) (by omega) x x0 x1
          · unfold uI
            by_cases d : x = a
            · rw [if_pos d]; exact rg_jor _ _
            · rw [if_neg d]; exact k2 x x0 x1)
        (la i + 1 - fi i).toNat fu s (fi i) (by omega) (by omega) ⟨by omega, by rw [fdA_0]; exact E1.rf, i3⟩
      have hb := hA i i1 (by omega)
      refine ⟨uI g (fi i) (jor (g (fi i)) (if ac i = 0 then 0 else jshl 1 (accT (tr i)))), ?_, by omega, fun x x0 x1 => ?_, fun x x0 x1 => ?_⟩
      · show f_X5_findHoles_L23_b fu st _ _ s i = _
        unfold f_X5_findHoles_L23_b
        rw [hR.n4, jix_of (by omega) (by omega), jck_of (by omega) (by omega) (by omega) (by omega), if_neg (by omega), m_p0 hR i1 hi n1, jb_s, m_p1 hR i1 hi n1, jb_s]
        refine e.trans ?_
        unfold f_X5_findHoles_X88 f_X5_findHoles_J132
        rw [m_p1 hR i1 hi n1, jb_s, jix_of (by omega) (by omega), m_p4 hR i1 hi n1, jb_s, jck_of (by omega) (by omega) (by omega) (by omega), jck_of (by omega) (by omega) (by omega) (by omega)]
        by_cases c : ac i = 0
        · rw [if_neg (by omega), if_pos c, jix_of (by omega) (by omega)]
        · rw [if_pos c, if_neg c]
          unfold accT
          by_cases d : tr i = 11
          · rw [if_neg (by omega), if_pos d, jix_of (by omega) (by omega)]
          · rw [if_pos d, if_neg d, jix_of (by omega) (by omega)]
      · rw [fdA_s _ _ i1]
        have e2 : E1 (fdA (rowS se tr fi la sh i) s (fi i) (la i + 1)) (fdA (rowS se tr fi la sh i) (fdA (notS se tr fi la sh ac) (fun _ => 0) 0 i) (fi i) (la i + 1)) :=
          fdA_rel (I := fun _ f g => E1 f g) (by omega) i2 (fun j s t h1 h2 h3 => E1_row h3 (by omega) (by omega))
        have e3 := k1.tr e2
        unfold notS
        by_cases c : ac i = 0
        · rw [if_pos c, if_pos c]
          unfold uI
          by_cases d : x = fi i
          · rw [if_pos d, jor_0 (k2 _ (by omega) (by omega))]; exact (congrArg g d.symm).trans (e3 x x0 x1)
          · rw [if_neg d]; exact e3 x x0 x1
        · rw [if_neg c, if_neg c]
          exact E1_pnS e3 (by omega) (by omega) x x0 x1
      · unfold uI
        by_cases d : x = fi i
        · rw [if_pos d]; exact rg_jor _ _
        · rw [if_neg d]; exact k2 x x0 x1)
    no.toNat fu (jcpy (fun _ => 0) ho 100) 0 (by omega) (by omega) ⟨by omega, by rw [fdA_0]; exact fun s h1 h2 => jcpy_in _ _ h1 h2, fun s h1 h2 => by rw [jcpy_in _ _ h1 h2]; exact rg_0⟩
  exact ⟨p, e, i2⟩
theorem m_findHeard {ho eh : Int → Int} (hR : RLm st se tr fi la sh ac no) (hN : NT tr fi la sh no) (hE : SE se) (hA : AC ac) (hf : 300 ≤ fu) :
    ∃ ho1 eh1, f_X5_findHeard fu ho eh st = some (ho1, eh1) ∧ E1 ho1 (HO se tr fi la sh ac no) ∧ E1 eh1 (EHs (HO se tr fi la sh ac no) (se 2)) := by
  have n0 := hN.1
  have n1 := hN.2.1
  obtain ⟨ho1, e, h1⟩ := m_findHoles (ho := ho) hR hN hE hA hf
  obtain ⟨-, -, -, -, s1, s2, -⟩ := hE
  unfold f_X5_findHeard
  rw [e, jb_s]
  have hST := HO_ST (se := se) (ac := ac) hN
  obtain ⟨p, e, i1, i2⟩ := loop_upI (L := fun q (s : Int → Int) i => f_X5_findHeard_L6 fu st (f_X5_findHeard_X65 fu) q ho1 s i) (f_X5_findHeard_X65 fu ho1)
    (fun i p => 0 ≤ i ∧ ∀ s, 0 ≤ s → s < i → p s = EHs (HO se tr fi la sh ac no) (se 2) s) 100
    (fun q s hI => by
      show f_X5_findHeard_L6_b fu st _ _ ho1 s 100 = _
      unfold f_X5_findHeard_L6_b
      rw [jck_of (by omega) (by omega) (by omega) (by omega), if_pos (by omega)])
    (fun q s i hi hI => by
      obtain ⟨i1, i2⟩ := hI
      have m1 := jmax_l (a := 0) (b := i - se 2)
      have m2 := jmax_or (a := 0) (b := i - se 2)
      have m3 := jmax_r (a := 0) (b := i - se 2)
      obtain ⟨g, e, k0, k1, k2⟩ := loop_upI (L := fun r (g : Int → Int) a => f_X5_findHeard_L21 fu st i (f_X5_findHeard_X59 fu i (f_X5_findHeard_L6 fu st (f_X5_findHeard_X65 fu) q)) r ho1 g a) (f_X5_findHeard_X59 fu i (f_X5_findHeard_L6 fu st (f_X5_findHeard_X65 fu) q) ho1)
        (fun a g => 0 ≤ a ∧ g i = fdA (fun a v => jor v (HO se tr fi la sh ac no a)) 0 (i + 1 - a) (i + 1) ∧ ∀ x, x ≠ i → g x = s x) (i + 1 - jmax 0 (i - se 2))
        (fun r g hI => by
          show f_X5_findHeard_L21_b fu st i _ _ ho1 g (i + 1 - jmax 0 (i - se 2)) = _
          unfold f_X5_findHeard_L21_b
          rw [hR.s2, jix_of (by omega) (by omega), jck_of (by omega) (by omega) (by omega) (by omega), jck_of (by omega) (by omega) (by omega) (by omega)]
          by_cases c : se 2 < i + 1 - jmax 0 (i - se 2)
          · rw [if_pos c]
          · rw [if_neg c, if_pos (by omega)])
        (fun r g a ha hI => by
          obtain ⟨k0, k1, k2⟩ := hI
          refine ⟨uI g i (jor (g i) (ho1 (i - a))), ?_, by omega, ?_, fun x hx => ?_⟩
          · show f_X5_findHeard_L21_b fu st i _ _ ho1 g a = _
            unfold f_X5_findHeard_L21_b
            rw [hR.s2]
            simp (disch := omega) only [jix_of, jck_of, if_neg]
          · rw [uI_s, k1, h1 _ (by omega) (by omega), or_front (a := i + 1 - (a + 1)) (b := i + 1) (by omega) (hST _).rg, show i + 1 - (a + 1) + 1 = i + 1 - a by omega, show i + 1 - (a + 1) = i - a by omega]
          · rw [uI_n _ _ hx, k2 x hx])
        (i + 1 - jmax 0 (i - se 2)).toNat fu (uI s i 0) 0 (by omega) (by omega) ⟨by omega, by rw [uI_s, show i + 1 - 0 = i + 1 by omega, fdA_0], fun x hx => uI_n _ _ hx⟩
      refine ⟨g, ?_, by omega, fun x x0 x1 => ?_⟩
      · show f_X5_findHeard_L6_b fu st _ _ ho1 s i = _
        unfold f_X5_findHeard_L6_b
        rw [jck_of (by omega) (by omega) (by omega) (by omega), if_neg (by omega), jix_of (by omega) (by omega)]
        exact e
      · by_cases d : x = i
        · subst d
          rw [k1]
          unfold EHs
          rw [show x + 1 - (x + 1 - jmax 0 (x - se 2)) = jmax 0 (x - se 2) by omega]
        · rw [k2 x d, i2 x x0 (by omega)])
    100 fu eh 0 (by omega) (by omega) ⟨by omega, fun s h1 h2 => by omega⟩
  exact ⟨ho1, p, e, h1, i2⟩
theorem m_sideBySide {v : Int} (hf : 100 ≤ fu) : f_X5_sideBySide fu v = some (sbs v) := by
  unfold f_X5_sideBySide
  obtain ⟨p, e, i1, rfl⟩ := loop_upI (L := fun q (s : Int × Int) i => f_X5_sideBySide_L6 fu v (f_X5_sideBySide_X46 fu) q s.1 s.2 i) (fun s => f_X5_sideBySide_X46 fu s.1)
    (fun i p => 0 ≤ i ∧ p = fdA (sbS v) (0, 0) 0 i) 12
    (fun q s hI => by
      show f_X5_sideBySide_L6_b fu v _ _ s.1 s.2 12 = _
      unfold f_X5_sideBySide_L6_b
      rw [jck_of (by omega) (by omega) (by omega) (by omega), if_pos (by omega)])
    (fun q s i hi hI => by
      obtain ⟨i1, i2⟩ := hI
      have b := sb_in v i1
      rw [← i2] at b
      refine ⟨fdA (sbS v) (0, 0) 0 (i + 1), ?_, by omega, rfl⟩
      show f_X5_sideBySide_L6_b fu v _ _ s.1 s.2 i = _
      unfold f_X5_sideBySide_L6_b f_X5_sideBySide_J28
      rw [jck_of (by omega) (by omega) (by omega) (by omega), if_neg (by omega), jck_rg (rg_jand _ _) rg_1, fdA_s _ _ i1, ← i2]
      unfold sbS jmax
      by_cases c : jand (jshr v i) 1 = 1
      · rw [if_neg (by omega), if_pos c, jck_of (by omega) (by omega) (by omega) (by omega)]
        by_cases d : s.2 + 1 ≤ s.1
        · rw [if_pos d, if_neg (by omega)]
        · rw [if_neg d, if_pos (by omega)]
      · rw [if_pos c, if_neg c, jck_of (by omega) (by omega) (by omega) (by omega)]
        by_cases d : (0 : Int) ≤ s.1
        · rw [if_pos d, if_neg (by omega)]
        · rw [if_neg d, if_pos (by omega)])
    12 fu (0, 0) 0 (by omega) (by omega) ⟨by omega, by rw [fdA_0]⟩
  exact e
theorem m_isWeak {g : Int → Int} {s : Int} (hR : RLm st se tr fi la sh ac no) (hE : SE se) (h1 : 0 ≤ s) (h2 : s < 100) (hf : 100 ≤ fu) : f_X5_isWeak fu g st s = some (if se 3 ≤ sbs (g s) then 1 else 0) := by
  have b := sbs_in (g s)
  obtain ⟨-, -, -, -, -, -, b1, b2⟩ := hE
  unfold f_X5_isWeak
  rw [jix_of h1 h2, m_sideBySide hf, jb_s, jix_of (by omega) (by omega), hR.s3, jck_of (by omega) (by omega) (by omega) (by omega)]
  by_cases c : se 3 ≤ sbs (g s)
  · rw [if_neg (by omega), if_pos c, jbo_of (by omega)]
  · rw [if_pos (by omega), if_neg c, jbo_of (by omega)]
theorem m_weakMany {ho : Int → Int} (hR : RLm st se tr fi la sh ac no) (hN : NT tr fi la sh no) (hE : SE se) (hA : AC ac) (hf : 300 ≤ fu) :
    ∃ ho1, f_X5_weakMany fu ho st = some (wkN (HO se tr fi la sh ac no) (se 3), ho1) := by
  obtain ⟨ho1, e, h1⟩ := m_findHoles (ho := ho) hR hN hE hA hf
  unfold f_X5_weakMany
  rw [e, jb_s, ← wkN_congr h1]
  refine ⟨ho1, ?_⟩
  obtain ⟨p, e, i1, rfl⟩ := loop_upI (L := fun q (s : Int) i => f_X5_weakMany_L8 fu st ho1 (f_X5_weakMany_X36 fu ho1) q s i) (f_X5_weakMany_X36 fu ho1)
    (fun i p => 0 ≤ i ∧ p = fdA (fun s m => if se 3 ≤ sbs (ho1 s) then m + 1 else m) 0 0 i) 100
    (fun q s hI => by
      show f_X5_weakMany_L8_b fu st ho1 _ _ s 100 = _
      unfold f_X5_weakMany_L8_b
      rw [jck_of (by omega) (by omega) (by omega) (by omega), if_pos (by omega)])
    (fun q s i hi hI => by
      obtain ⟨i1, rfl⟩ := hI
      refine ⟨_, ?_, by omega, rfl⟩
      show f_X5_weakMany_L8_b fu st ho1 _ _ _ i = _
      unfold f_X5_weakMany_L8_b
      rw [jck_of (by omega) (by omega) (by omega) (by omega), if_neg (by omega), m_isWeak hR hE i1 hi (by omega), jb_s, fdA_s _ _ i1]
      by_cases c : se 3 ≤ sbs (ho1 i)
      · rw [if_pos c, if_pos c, jck_of (by omega) (by omega) (by omega) (by omega), if_neg (by omega)]
      · rw [if_neg c, if_neg c, jck_of (by omega) (by omega) (by omega) (by omega), if_pos (by omega), Int.add_zero])
    100 fu 0 0 (by omega) (by omega) ⟨by omega, by rw [fdA_0]⟩
  exact e
theorem m_firstWeak {ho : Int → Int} (hR : RLm st se tr fi la sh ac no) (hN : NT tr fi la sh no) (hE : SE se) (hA : AC ac) (hf : 300 ≤ fu) :
    ∃ ho1 r, f_X5_firstWeak fu ho st = some (r, ho1) ∧ ((r = -6 ∧ ∀ s, 0 ≤ s → s < 100 → ¬ se 3 ≤ sbs (HO se tr fi la sh ac no s)) ∨ (0 ≤ r ∧ r < 100 ∧ se 3 ≤ sbs (HO se tr fi la sh ac no r) ∧ ∀ s, 0 ≤ s → s < r → ¬ se 3 ≤ sbs (HO se tr fi la sh ac no s))) := by
  obtain ⟨ho1, e, h1⟩ := m_findHoles (ho := ho) hR hN hE hA hf
  unfold f_X5_firstWeak
  rw [e, jb_s]
  refine ⟨ho1, ?_⟩
  obtain ⟨r, e, i1⟩ := loop_dn (L := fun q (s : Int) i => f_X5_firstWeak_L10 fu st ho1 (f_X5_firstWeak_X34 fu ho1) q s i) (fun i s => if se 3 ≤ sbs (ho1 i) then i else s) (f_X5_firstWeak_X34 fu ho1)
    (fun i r => -1 ≤ i ∧ i < 100 ∧ ((r = -6 ∧ ∀ s, i < s → s < 100 → ¬ se 3 ≤ sbs (HO se tr fi la sh ac no s)) ∨ (i < r ∧ r < 100 ∧ se 3 ≤ sbs (HO se tr fi la sh ac no r) ∧ ∀ s, i < s → s < r → ¬ se 3 ≤ sbs (HO se tr fi la sh ac no s)))) (-1)
    (fun q s hI => by
      show f_X5_firstWeak_L10_b fu st ho1 _ _ s (-1) = _
      unfold f_X5_firstWeak_L10_b
      rw [jck_of (by omega) (by omega) (by omega) (by omega), if_pos (by omega)])
    (fun q s i hi hI => by
      obtain ⟨i1, i2, i3⟩ := hI
      constructor
      · show f_X5_firstWeak_L10_b fu st ho1 _ _ s i = _
        unfold f_X5_firstWeak_L10_b
        rw [jck_of (by omega) (by omega) (by omega) (by omega), if_neg (by omega), m_isWeak hR hE (by omega) i2 (by omega), jb_s]
        by_cases c : se 3 ≤ sbs (ho1 i)
        · rw [if_pos c, if_pos c, jck_of (by omega) (by omega) (by omega) (by omega), if_neg (by omega)]
        · rw [if_neg c, if_neg c, jck_of (by omega) (by omega) (by omega) (by omega), if_pos (by omega)]
      · refine ⟨by omega, by omega, ?_⟩
        have eh := h1 i (by omega) i2
        by_cases c : se 3 ≤ sbs (ho1 i)
        · rw [if_pos c]
          right
          refine ⟨by omega, i2, by rw [← eh]; exact c, fun s h1 h2 => by omega⟩
        · rw [if_neg c]
          rw [eh] at c
          rcases i3 with ⟨j1, j2⟩ | ⟨j1, j2, j3, j4⟩
          · left
            refine ⟨j1, fun x x0 x1 => ?_⟩
            by_cases d : x = i
            · subst d; exact c
            · exact j2 x (by omega) x1
          · right
            refine ⟨by omega, j2, j3, fun x x0 x1 => ?_⟩
            by_cases d : x = i
            · subst d; exact c
            · exact j4 x (by omega) x1)
    100 fu (-6) 99 (by omega) (by omega) ⟨by omega, by omega, Or.inl ⟨rfl, fun s h1 h2 => by omega⟩⟩
  obtain ⟨-, -, h⟩ := i1
  refine ⟨r, e, ?_⟩
  rcases h with ⟨j1, j2⟩ | ⟨j1, j2, j3, j4⟩
  · exact Or.inl ⟨j1, fun s h1 h2 => j2 s (by omega) h2⟩
  · exact Or.inr ⟨by omega, j2, j3, fun s h1 h2 => j4 s (by omega) h2⟩
theorem m_isHeard {eh : Int → Int} {t s : Int} (h3 : 0 ≤ s) (h4 : s < 100) : f_X5_isHeard fu eh t s = some (if jand (jshr (eh s) t) 1 = 1 then 1 else 0) := by
  unfold f_X5_isHeard
  rw [jix_of h3 h4, jck_rg (rg_jand _ _) rg_1]
  by_cases c : jand (jshr (eh s) t) 1 = 1
  · rw [if_neg (by omega), if_pos c, jbo_of (by omega)]
  · rw [if_pos c, if_neg c, jbo_of (by omega)]
theorem m_begins {eh : Int → Int} {t s : Int} (h3 : 0 ≤ s) (h4 : s < 100) : f_X5_begins fu eh t s = some (if jand (jshr (eh s) t) 1 = 1 ∧ (s = 0 ∨ ¬ jand (jshr (eh (s - 1)) t) 1 = 1) then 1 else 0) := by
  unfold f_X5_begins
  rw [m_isHeard h3 h4, jb_s]
  by_cases c : jand (jshr (eh s) t) 1 = 1
  · rw [if_pos c, jck_of (by omega) (by omega) (by omega) (by omega), if_neg (by omega), jck_of (by omega) (by omega) (by omega) (by omega)]
    by_cases d : s = 0
    · rw [if_pos d, jbo_of (by omega), if_pos ⟨c, Or.inl d⟩]
    · rw [if_neg d, m_isHeard (by omega) (by omega), jb_s]
      by_cases e : jand (jshr (eh (s - 1)) t) 1 = 1
      · rw [if_pos e, jck_of (by omega) (by omega) (by omega) (by omega), if_pos (by omega), jbo_of (by omega), if_neg (fun h => h.2.elim d (fun q => q e))]
      · rw [if_neg e, jck_of (by omega) (by omega) (by omega) (by omega), if_neg (by omega), jbo_of (by omega), if_pos ⟨c, Or.inr e⟩]
  · rw [if_neg c, jck_of (by omega) (by omega) (by omega) (by omega), if_pos (by omega), jbo_of (by omega), if_neg (fun h => c h.1)]
end Q48
