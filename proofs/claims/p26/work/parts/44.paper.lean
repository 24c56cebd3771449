/-! the class's Paper -/
theorem jck_rg {α : Type} {a b : Int} {X : Option α} (ha : rg a) (hb : rg b) : jck a b X = X := if_pos ⟨ha, hb⟩
theorem rg_jand (a b : Int) : rg (jand a b) := rg_of _
theorem rg_jor (a b : Int) : rg (jor a b) := rg_of _
theorem rg_1 : rg 1 := ⟨by omega, by omega⟩
theorem rg_0 : rg 0 := ⟨by omega, by omega⟩
def bitP (v t : Int) : Prop := jand (jshr v t) 1 = 1
def pnS (t : Int) (g : Int → Int) (s : Int) : Int → Int := uI g s (jor (g s) (jshl 1 t))
def rowS (se tr fi la sh : Int → Int) (k : Int) (s : Int) (g : Int → Int) : Int → Int := if hol se fi la sh k s = 0 then g else pnS (tr k) g s
def accT (t : Int) : Int := if t = 11 then t - 1 else t + 1
def notS (se tr fi la sh ac : Int → Int) (k : Int) (g : Int → Int) : Int → Int := if ac k = 0 then fdA (rowS se tr fi la sh k) g (fi k) (la k + 1) else pnS (accT (tr k)) (fdA (rowS se tr fi la sh k) g (fi k) (la k + 1)) (fi k)
def HO (se tr fi la sh ac : Int → Int) (no : Int) : Int → Int := fdA (notS se tr fi la sh ac) (fun _ => 0) 0 no
def EHs (ho : Int → Int) (h s : Int) : Int := fdA (fun a v => jor v (ho a)) 0 (jmax 0 (s - h)) (s + 1)
def E1 (f g : Int → Int) : Prop := ∀ s, 0 ≤ s → s < 100 → f s = g s
theorem E1.rf {f : Int → Int} : E1 f f := fun _ _ _ => rfl
theorem E1.tr {f g h : Int → Int} (a : E1 f g) (b : E1 g h) : E1 f h := fun s h1 h2 => (a s h1 h2).trans (b s h1 h2)
theorem E1.sy {f g : Int → Int} (a : E1 f g) : E1 g f := fun s h1 h2 => (a s h1 h2).symm
theorem E1_pnS {f g : Int → Int} {t s : Int} (h : E1 f g) (h1 : 0 ≤ s) (h2 : s < 100) : E1 (pnS t f s) (pnS t g s) := by
  intro q h3 h4
  unfold pnS uI
  by_cases c : q = s
  · rw [if_pos c, if_pos c, h s h1 h2]
  · rw [if_neg c, if_neg c, h q h3 h4]
theorem E1_row {se tr fi la sh : Int → Int} {k s : Int} {f g : Int → Int} (h : E1 f g) (h1 : 0 ≤ s) (h2 : s < 100) : E1 (rowS se tr fi la sh k s f) (rowS se tr fi la sh k s g) := by
  unfold rowS
  by_cases c : hol se fi la sh k s = 0
  · rw [if_pos c, if_pos c]; exact h
  · rw [if_neg c, if_neg c]; exact E1_pnS h h1 h2
theorem E1_not {se tr fi la sh ac : Int → Int} {no k : Int} {f g : Int → Int} (hN : NT tr fi la sh no) (hk : 0 ≤ k) (hk2 : k < no) (h : E1 f g) : E1 (notS se tr fi la sh ac k f) (notS se tr fi la sh ac k g) := by
  obtain ⟨a1, a2, a3, a4, a5, -, -⟩ := hN.2.2 k hk hk2
  have e : E1 (fdA (rowS se tr fi la sh k) f (fi k) (la k + 1)) (fdA (rowS se tr fi la sh k) g (fi k) (la k + 1)) :=
    fdA_rel (I := fun _ f g => E1 f g) (by omega) h (fun j s t h1 h2 h3 => E1_row h3 (by omega) (by omega))
  unfold notS
  by_cases c : ac k = 0
  · rw [if_pos c, if_pos c]; exact e
  · rw [if_neg c, if_neg c]; exact E1_pnS e (by omega) (by omega)
section Q44
variable {fu : Nat} {se tr fi la sh ac : Int → Int} {no : Int}
theorem q_fill {g : Int → Int} {v : Int} (hf : 200 ≤ fu) : f_J7_fill_53178 fu 100 g v = some (jcpy (fun _ => v) g 100) := by
  unfold f_J7_fill_53178
  obtain ⟨p, e, i1, rfl⟩ := loop_upI (L := fun q (s : Int → Int) i => f_J7_fill_53178_L5 fu 100 v (f_J7_fill_53178_X20 fu) q s i ((100 : Nat) : Int)) (f_J7_fill_53178_X20 fu)
    (fun i p => 0 ≤ i ∧ p = jcpy (fun _ => v) g i) 100
    (fun q s hI => by
      show f_J7_fill_53178_L5_b fu 100 v _ _ s 100 ((100 : Nat) : Int) = _
      unfold f_J7_fill_53178_L5_b
      rw [jck_of (by omega) (by omega) (by omega) (by omega), if_pos (by omega)])
    (fun q s i hi hI => by
      obtain ⟨i1, rfl⟩ := hI
      refine ⟨_, ?_, by omega, rfl⟩
      show f_J7_fill_53178_L5_b fu 100 v _ _ _ i ((100 : Nat) : Int) = _
      unfold f_J7_fill_53178_L5_b
      rw [jck_of (by omega) (by omega) (by omega) (by omega), if_neg (by omega), jix_of (by omega) (by omega), ← jcpy_s _ _ i1])
    100 fu g 0 (by omega) (by omega) ⟨by omega, by rw [jcpy_0]⟩
  exact e
theorem q_punch {g : Int → Int} {t s : Int} (h1 : 0 ≤ t) (h2 : t < 12) (h3 : 0 ≤ s) (h4 : s < 100) : f_X2_punch fu g t s = some (pnS t g s) := by
  unfold f_X2_punch
  rw [q_isTrack_t h1 h2, jb_s, jck_of (by omega) (by omega) (by omega) (by omega), if_neg (by omega), q_isStep_t h3 h4, jb_s, jck_of (by omega) (by omega) (by omega) (by omega), if_neg (by omega), jix_of h3 h4, jix_of h3 h4]
  rfl
theorem q_holesAt {g : Int → Int} {s : Int} (h3 : 0 ≤ s) (h4 : s < 100) : f_X2_holesAt fu g s = some (g s) := by
  unfold f_X2_holesAt
  rw [q_isStep_t h3 h4, jb_s, jck_of (by omega) (by omega) (by omega) (by omega), if_neg (by omega), jix_of h3 h4]
theorem q_heardAt {g : Int → Int} {s : Int} (h3 : 0 ≤ s) (h4 : s < 100) : f_X2_heardAt fu g s = some (g s) := by
  unfold f_X2_heardAt
  rw [q_isStep_t h3 h4, jb_s, jck_of (by omega) (by omega) (by omega) (by omega), if_neg (by omega), jix_of h3 h4]
theorem q_listen {eh ho : Int → Int} {h : Int} (h0 : 0 ≤ h) (h4 : h ≤ 4) (hf : 200 ≤ fu) : f_X2_listen fu eh ho h = some (jcpy (EHs ho h) eh 100) := by
  unfold f_X2_listen
  obtain ⟨p, e, i1, rfl⟩ := loop_upI (L := fun q (s : Int → Int) i => f_X2_listen_L2 fu ho h (f_X2_listen_X53 fu) q s i) (f_X2_listen_X53 fu)
    (fun i p => 0 ≤ i ∧ p = jcpy (EHs ho h) eh i) 100
    (fun q s hI => by
      show f_X2_listen_L2_b fu ho h _ _ s 100 = _
      unfold f_X2_listen_L2_b
      rw [jck_of (by omega) (by omega) (by omega) (by omega), if_pos (by omega)])
    (fun q s i hi hI => by
      obtain ⟨i1, rfl⟩ := hI
      refine ⟨_, ?_, by omega, rfl⟩
      show f_X2_listen_L2_b fu ho h _ _ _ i = _
      unfold f_X2_listen_L2_b
      have m1 := jmax_l (a := 0) (b := i - h)
      have m2 := jmax_or (a := 0) (b := i - h)
      rw [jck_of (by omega) (by omega) (by omega) (by omega), if_neg (by omega), jck_of (by omega) (by omega) (by omega) (by omega)]
      obtain ⟨v, e, j1, rfl⟩ := loop_upI (L := fun r (s : Int) a => f_X2_listen_L19 fu ho i (f_X2_listen_X40 fu (jcpy (EHs ho h) eh i) i (f_X2_listen_L2 fu ho h (f_X2_listen_X53 fu) q)) r s a) (f_X2_listen_X40 fu (jcpy (EHs ho h) eh i) i (f_X2_listen_L2 fu ho h (f_X2_listen_X53 fu) q))
        (fun a v => jmax 0 (i - h) ≤ a ∧ v = fdA (fun a v => jor v (ho a)) 0 (jmax 0 (i - h)) a) (i + 1)
        (fun r s hI => by
          show f_X2_listen_L19_b fu ho i _ _ s (i + 1) = _
          unfold f_X2_listen_L19_b
          rw [jck_of (by omega) (by omega) (by omega) (by omega), if_pos (by omega)])
        (fun r s a ha hI => by
          obtain ⟨k1, rfl⟩ := hI
          refine ⟨_, ?_, by omega, rfl⟩
          show f_X2_listen_L19_b fu ho i _ _ _ a = _
          unfold f_X2_listen_L19_b
          rw [jck_of (by omega) (by omega) (by omega) (by omega), if_neg (by omega), q_holesAt (by omega) (by omega), jb_s, fdA_s _ _ k1])
        (i + 1 - jmax 0 (i - h)).toNat fu 0 (jmax 0 (i - h)) (by omega) (by omega) ⟨by omega, by rw [fdA_0]⟩
      refine e.trans ?_
      unfold f_X2_listen_X40
      rw [jix_of (by omega) (by omega), ← jcpy_s (EHs ho h) eh i1]
      rfl)
    100 fu eh 0 (by omega) (by omega) ⟨by omega, by rw [jcpy_0]⟩
  exact e
theorem q_perforate {eh ho : Int → Int} {we : Int} (hN : NT tr fi la sh no) (hE : SE se) (hA : AC ac) (hf : 300 ≤ fu) :
    ∃ eh1 ho1, f_X2_perforate fu eh we ho se tr fi la sh ac no = some (eh1, se 3, ho1) ∧ E1 ho1 (HO se tr fi la sh ac no) ∧ E1 eh1 (EHs (HO se tr fi la sh ac no) (se 2)) := by
  have n0 := hN.1
  have n1 := hN.2.1
  unfold f_X2_perforate
  rw [q_settingOf (by omega) (by omega), jb_s, q_fill (by omega), jb_s]
  have key : ∀ g0 : Int → Int, E1 g0 (fun _ => 0) → ∃ ho1, f_X2_perforate_L19 fu se tr fi la sh ac no (f_X2_perforate_X112 fu se) fu eh (se 3) g0 0 = f_X2_perforate_X112 fu se eh (se 3) ho1 ∧ E1 ho1 (HO se tr fi la sh ac no) := by
    intro g0 hg
    obtain ⟨p, e, i1, i2⟩ := loop_upI (L := fun q (s : Int → Int) i => f_X2_perforate_L19 fu se tr fi la sh ac no (f_X2_perforate_X112 fu se) q eh (se 3) s i) (fun s => f_X2_perforate_X112 fu se eh (se 3) s)
      (fun i p => 0 ≤ i ∧ E1 p (fdA (notS se tr fi la sh ac) (fun _ => 0) 0 i)) no
      (fun q s hI => by
        show f_X2_perforate_L19_b fu se tr fi la sh ac no _ _ eh (se 3) s no = _
        unfold f_X2_perforate_L19_b
        rw [q_size, jb_s, jck_of (by omega) (by omega) (by omega) (by omega), if_pos (by omega)])
      (fun q s i hi hI => by
        obtain ⟨i1, i2⟩ := hI
        obtain ⟨a1, a2, a3, a4, a5, -, -⟩ := hN.2.2 i i1 hi
        refine ⟨notS se tr fi la sh ac i s, ?_, by omega, by rw [fdA_s _ _ i1]; exact E1_not hN i1 hi i2⟩
        show f_X2_perforate_L19_b fu se tr fi la sh ac no _ _ eh (se 3) s i = _
        unfold f_X2_perforate_L19_b
        rw [q_size, jb_s, jck_of (by omega) (by omega) (by omega) (by omega), if_neg (by omega), q_trackOf i1 hi n1, jb_s, q_firstOf i1 hi n1, jb_s]
        obtain ⟨v, e, j1, rfl⟩ := loop_upI (L := fun r (g : Int → Int) a => f_X2_perforate_L44 fu se fi la sh no i (tr i) (f_X2_perforate_X77 fu ac no i (tr i) (fi i) (f_X2_perforate_L19 fu se tr fi la sh ac no (f_X2_perforate_X112 fu se) q)) r eh (se 3) g a) (fun g => f_X2_perforate_X77 fu ac no i (tr i) (fi i) (f_X2_perforate_L19 fu se tr fi la sh ac no (f_X2_perforate_X112 fu se) q) eh (se 3) g)
          (fun a g => fi i ≤ a ∧ g = fdA (rowS se tr fi la sh i) s (fi i) a) (la i + 1)
          (fun r g hI => by
            show f_X2_perforate_L44_b fu se fi la sh no i (tr i) _ _ eh (se 3) g (la i + 1) = _
            unfold f_X2_perforate_L44_b
            rw [q_lastOf i1 hi n1, jb_s, jck_of (by omega) (by omega) (by omega) (by omega), if_pos (by omega)])
          (fun r g a ha hI => by
            obtain ⟨k1, rfl⟩ := hI
            refine ⟨_, ?_, by omega, rfl⟩
            show f_X2_perforate_L44_b fu se fi la sh no i (tr i) _ _ eh (se 3) _ a = _
            unfold f_X2_perforate_L44_b
            have := hol_01 se fi la sh i a
            rw [q_lastOf i1 hi n1, jb_s, jck_of (by omega) (by omega) (by omega) (by omega), if_neg (by omega), q_isHole hN hE i1 hi k1 (by omega), jb_s, jck_of (by omega) (by omega) (by omega) (by omega), fdA_s _ _ k1]
            by_cases c : hol se fi la sh i a = 0
            · have e9 : rowS se tr fi la sh i a (fdA (rowS se tr fi la sh i) s (fi i) a) = fdA (rowS se tr fi la sh i) s (fi i) a := if_pos c
              rw [if_pos c, e9]
            · have e9 : rowS se tr fi la sh i a (fdA (rowS se tr fi la sh i) s (fi i) a) = pnS (tr i) (fdA (rowS se tr fi la sh i) s (fi i) a) a := if_neg c
              rw [if_neg c, q_punch a1 a2 (by omega) (by omega), jb_s, e9])
          (la i + 1 - fi i).toNat fu s (fi i) (by omega) (by omega) ⟨by omega, by rw [fdA_0]⟩
        refine e.trans ?_
        have hb := hA i i1 (by omega)
        unfold f_X2_perforate_X77 f_X2_perforate_J101
        rw [q_hasAccent hA i1 hi n1, jb_s, jck_of (by omega) (by omega) (by omega) (by omega)]
        by_cases c : ac i = 0
        · have e9 : notS se tr fi la sh ac i s = fdA (rowS se tr fi la sh i) s (fi i) (la i + 1) := if_pos c
          rw [if_pos c, e9]
        · have e9 : notS se tr fi la sh ac i s = pnS (accT (tr i)) (fdA (rowS se tr fi la sh i) s (fi i) (la i + 1)) (fi i) := if_neg c
          rw [if_neg c, e9, jck_of (by omega) (by omega) (by omega) (by omega)]
          by_cases d : tr i = 11
          · have e8 : accT (tr i) = tr i - 1 := if_pos d
            rw [if_neg (by omega), q_punch (by omega) (by omega) (by omega) (by omega), jb_s, e8]
          · have e8 : accT (tr i) = tr i + 1 := if_neg d
            rw [if_pos d, q_punch (by omega) (by omega) (by omega) (by omega), jb_s, e8])
      no.toNat fu g0 0 (by omega) (by omega) ⟨by omega, by rw [fdA_0]; exact hg⟩
    exact ⟨p, e, i2⟩
  obtain ⟨ho1, e, h1⟩ := key (jcpy (fun _ => 0) ho 100) (fun s h1 h2 => jcpy_in _ _ h1 h2)
  obtain ⟨-, -, -, -, s1, s2, -⟩ := hE
  refine ⟨jcpy (EHs ho1 (se 2)) eh 100, ho1, ?_, h1, fun s h2 h3 => ?_⟩
  · rw [e]
    unfold f_X2_perforate_X112
    rw [q_settingOf (by omega) (by omega), jb_s, q_listen s1 s2 (by omega), jb_s]
  · rw [jcpy_in _ _ h2 h3]
    unfold EHs
    have m1 := jmax_l (a := 0) (b := s - se 2)
    refine fdA_congr (fun j v j1 j2 => ?_)
    show jor v (ho1 j) = jor v (HO se tr fi la sh ac no j)
    rw [h1 j (by omega) (by omega)]
end Q44
