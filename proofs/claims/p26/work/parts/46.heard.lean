/-! the class's Paper: what it tells -/
def sbS (v : Int) (t : Int) (m : Int × Int) : Int × Int := if jand (jshr v t) 1 = 1 then (jmax m.1 (m.2 + 1), m.2 + 1) else (jmax m.1 0, 0)
def sbs (v : Int) : Int := (fdA (sbS v) (0, 0) 0 12).1
theorem sb_in (v : Int) {i : Int} (hi : 0 ≤ i) : 0 ≤ (fdA (sbS v) (0, 0) 0 i).1 ∧ (fdA (sbS v) (0, 0) 0 i).1 ≤ i ∧ 0 ≤ (fdA (sbS v) (0, 0) 0 i).2 ∧ (fdA (sbS v) (0, 0) 0 i).2 ≤ i := by
  refine fdA_inv (I := fun (i : Int) (p : Int × Int) => 0 ≤ p.1 ∧ p.1 ≤ i ∧ 0 ≤ p.2 ∧ p.2 ≤ i) hi ⟨by show (0:Int) ≤ 0; omega, by show (0:Int) ≤ 0; omega, by show (0:Int) ≤ 0; omega, by show (0:Int) ≤ 0; omega⟩ ?_
  intro j s h1 h2 h3
  unfold sbS
  by_cases c : jand (jshr v j) 1 = 1
  · rw [if_pos c]
    have := jmax_or (a := s.1) (b := s.2 + 1)
    have := jmax_l (a := s.1) (b := s.2 + 1)
    exact ⟨by show 0 ≤ jmax _ _; omega, by show jmax _ _ ≤ _; omega, by show 0 ≤ s.2 + 1; omega, by show s.2 + 1 ≤ _; omega⟩
  · rw [if_neg c]
    have := jmax_or (a := s.1) (b := 0)
    have := jmax_l (a := s.1) (b := 0)
    exact ⟨by show 0 ≤ jmax _ _; omega, by show jmax _ _ ≤ _; omega, by show (0:Int) ≤ 0; omega, by show (0:Int) ≤ _; omega⟩
theorem sbs_in (v : Int) : 0 ≤ sbs v ∧ sbs v ≤ 12 := ⟨(sb_in v (by omega)).1, (sb_in v (by omega)).2.1⟩
def wkN (ho : Int → Int) (we : Int) : Int := fdA (fun s m => if we ≤ sbs (ho s) then m + 1 else m) 0 0 100
theorem wkN_in (ho : Int → Int) (we : Int) : 0 ≤ wkN ho we ∧ wkN ho we ≤ 100 := by
  have := fdA_cnt (P := fun s => we ≤ sbs (ho s)) (a := 0) (i := 100) (by omega)
  unfold wkN
  omega
theorem wkN_congr {f g : Int → Int} {we : Int} (h : E1 f g) : wkN f we = wkN g we := by
  unfold wkN
  refine fdA_congr (fun j s h1 h2 => ?_)
  show (if we ≤ sbs (f j) then s + 1 else s) = _
  rw [h j h1 h2]
def stP (eh : Int → Int) (t s : Int) : Prop := jand (jshr (eh s) t) 1 = 1 ∧ (s = 0 ∨ ¬ jand (jshr (eh (s - 1)) t) 1 = 1)
def stN (eh : Int → Int) (t i : Int) : Int := fdA (fun s m => if jand (jshr (eh s) t) 1 = 1 ∧ (s = 0 ∨ ¬ jand (jshr (eh (s - 1)) t) 1 = 1) then m + 1 else m) 0 0 i
theorem stN_in (eh : Int → Int) (t : Int) {i : Int} (h : 0 ≤ i) : 0 ≤ stN eh t i ∧ stN eh t i ≤ i := by
  have := fdA_cnt (P := fun s => jand (jshr (eh s) t) 1 = 1 ∧ (s = 0 ∨ ¬ jand (jshr (eh (s - 1)) t) 1 = 1)) (a := 0) (i := i) h
  unfold stN
  omega
theorem stN_s (eh : Int → Int) (t : Int) {i : Int} (h : 0 ≤ i) : stN eh t (i + 1) = if jand (jshr (eh i) t) 1 = 1 ∧ (i = 0 ∨ ¬ jand (jshr (eh (i - 1)) t) 1 = 1) then stN eh t i + 1 else stN eh t i := by
  unfold stN
  rw [fdA_s _ _ h]
def whS (eh : Int → Int) (t : Int) (s v : Int) : Int := if v = 1 ∧ jand (jshr (eh s) t) 1 = 1 then 1 else 0
def whO (eh : Int → Int) (tr fi la : Int → Int) (k : Int) : Int := fdA (whS eh (tr k)) 1 (fi k) (la k + 1)
theorem whO_0 (eh : Int → Int) (t a : Int) : ∀ n : Nat, fo (whS eh t) n a 0 = 0
  | 0 => rfl
  | n + 1 => by
    rw [fo_s, show whS eh t a 0 = 0 from if_neg (by omega)]
    exact whO_0 eh t (a + 1) n
theorem whO_01 (eh : Int → Int) (t : Int) {a i : Int} (h : a ≤ i) : fdA (whS eh t) 1 a i = 0 ∨ fdA (whS eh t) 1 a i = 1 := by
  refine fdA_inv (I := fun _ v => v = 0 ∨ v = 1) h (Or.inr rfl) (fun j s _ _ _ => ?_)
  unfold whS
  by_cases c : s = 1 ∧ jand (jshr (eh j) t) 1 = 1
  · rw [if_pos c]; exact Or.inr rfl
  · rw [if_neg c]; exact Or.inl rfl
def gapN (eh : Int → Int) (tr fi la : Int → Int) (no : Int) : Int := fdA (fun k m => if whO eh tr fi la k = 0 then m + 1 else m) 0 0 no
def sndN (eh : Int → Int) : Int := fdA (fun t m => m + stN eh t 100) 0 0 12
section Q46
variable {fu : Nat} {se tr fi la sh ac : Int → Int} {no : Int}
theorem q_sideBySide {g : Int → Int} {s : Int} (h1 : 0 ≤ s) (h2 : s < 100) (hf : 100 ≤ fu) : f_X2_sideBySide fu g s = some (sbs (g s)) := by
  unfold f_X2_sideBySide
  rw [q_holesAt h1 h2, jb_s]
  generalize g s = v
  obtain ⟨p, e, i1, rfl⟩ := loop_upI (L := fun q (s : Int × Int) i => f_X2_sideBySide_L14 fu v (f_X2_sideBySide_X54 fu) q s.1 s.2 i) (fun s => f_X2_sideBySide_X54 fu s.1)
    (fun i p => 0 ≤ i ∧ p = fdA (sbS v) (0, 0) 0 i) 12
    (fun q s hI => by
      show f_X2_sideBySide_L14_b fu v _ _ s.1 s.2 12 = _
      unfold f_X2_sideBySide_L14_b
      rw [jck_of (by omega) (by omega) (by omega) (by omega), if_pos (by omega)])
    (fun q s i hi hI => by
      obtain ⟨i1, i2⟩ := hI
      have b := sb_in v i1
      rw [← i2] at b
      refine ⟨fdA (sbS v) (0, 0) 0 (i + 1), ?_, by omega, rfl⟩
      show f_X2_sideBySide_L14_b fu v _ _ s.1 s.2 i = _
      unfold f_X2_sideBySide_L14_b f_X2_sideBySide_J39
      rw [jck_of (by omega) (by omega) (by omega) (by omega), if_neg (by omega), jck_rg (rg_jand _ _) rg_1, fdA_s _ _ i1, ← i2]
      unfold sbS
      by_cases c : jand (jshr v i) 1 = 1
      · rw [if_neg (by omega), if_pos c, jck_of (by omega) (by omega) (by omega) (by omega)]
      · rw [if_pos c, if_neg c, jck_of (by omega) (by omega) (by omega) (by omega)])
    12 fu (0, 0) 0 (by omega) (by omega) ⟨by omega, by rw [fdA_0]⟩
  exact e
theorem q_isWeak {g : Int → Int} {s we : Int} (h1 : 0 ≤ s) (h2 : s < 100) (hw : 0 ≤ we) (hw2 : we ≤ 12) (hf : 100 ≤ fu) : f_X2_isWeak fu we g s = some (if we ≤ sbs (g s) then 1 else 0) := by
  have b := sbs_in (g s)
  unfold f_X2_isWeak
  rw [q_sideBySide h1 h2 hf, jb_s, jck_of (by omega) (by omega) (by omega) (by omega)]
  by_cases c : we ≤ sbs (g s)
  · rw [if_neg (by omega), if_pos c, jbo_of (by omega)]
  · rw [if_pos (by omega), if_neg c, jbo_of (by omega)]
theorem q_weakSteps {g : Int → Int} {we : Int} (hw : 0 ≤ we) (hw2 : we ≤ 12) (hf : 200 ≤ fu) : f_X2_weakSteps fu we g = some (wkN g we) := by
  unfold f_X2_weakSteps
  obtain ⟨p, e, i1, rfl⟩ := loop_upI (L := fun q (s : Int) i => f_X2_weakSteps_L4 fu we g (f_X2_weakSteps_X27 fu) q s i) (f_X2_weakSteps_X27 fu)
    (fun i p => 0 ≤ i ∧ p = fdA (fun s m => if we ≤ sbs (g s) then m + 1 else m) 0 0 i) 100
    (fun q s hI => by
      show f_X2_weakSteps_L4_b fu we g _ _ s 100 = _
      unfold f_X2_weakSteps_L4_b
      rw [jck_of (by omega) (by omega) (by omega) (by omega), if_pos (by omega)])
    (fun q s i hi hI => by
      obtain ⟨i1, rfl⟩ := hI
      refine ⟨_, ?_, by omega, rfl⟩
      show f_X2_weakSteps_L4_b fu we g _ _ _ i = _
      unfold f_X2_weakSteps_L4_b
      rw [jck_of (by omega) (by omega) (by omega) (by omega), if_neg (by omega), q_isWeak i1 hi hw hw2 (by omega), jb_s, fdA_s _ _ i1]
      by_cases c : we ≤ sbs (g i)
      · rw [if_pos c, if_pos c, jck_of (by omega) (by omega) (by omega) (by omega), if_neg (by omega)]
      · rw [if_neg c, if_neg c, jck_of (by omega) (by omega) (by omega) (by omega), if_pos (by omega)])
    100 fu 0 0 (by omega) (by omega) ⟨by omega, by rw [fdA_0]⟩
  exact e
theorem q_firstWeak {g : Int → Int} {we : Int} (hw : 0 ≤ we) (hw2 : we ≤ 12) (hf : 200 ≤ fu) :
    ∃ r, f_X2_firstWeakStep fu we g = some r ∧ ((r = -1 ∧ ∀ s, 0 ≤ s → s < 100 → ¬ we ≤ sbs (g s)) ∨ (0 ≤ r ∧ r < 100 ∧ we ≤ sbs (g r) ∧ ∀ s, 0 ≤ s → s < r → ¬ we ≤ sbs (g s))) := by
  unfold f_X2_firstWeakStep
  have key : ∀ (n fuel : Nat) (i : Int), 0 ≤ i → i + n = 100 → n < fuel → (∀ s, 0 ≤ s → s < i → ¬ we ≤ sbs (g s)) → ∃ r, f_X2_firstWeakStep_L2 fu we g (f_X2_firstWeakStep_X24 fu) fuel i = some r ∧ ((r = -1 ∧ ∀ s, 0 ≤ s → s < 100 → ¬ we ≤ sbs (g s)) ∨ (0 ≤ r ∧ r < 100 ∧ we ≤ sbs (g r) ∧ ∀ s, 0 ≤ s → s < r → ¬ we ≤ sbs (g s))) := by
    intro n
    induction n with
    | zero =>
      intro fuel i h0 h1 h2 h3
      obtain ⟨q, rfl⟩ : ∃ q, fuel = q + 1 := ⟨fuel - 1, by omega⟩
      have e : i = 100 := by omega
      subst e
      refine ⟨-1, ?_, Or.inl ⟨rfl, h3⟩⟩
      show f_X2_firstWeakStep_L2_b fu we g _ _ 100 = _
      unfold f_X2_firstWeakStep_L2_b
      rw [jck_of (by omega) (by omega) (by omega) (by omega), if_pos (by omega)]
      rfl
    | succ n ih =>
      intro fuel i h0 h1 h2 h3
      obtain ⟨q, rfl⟩ : ∃ q, fuel = q + 1 := ⟨fuel - 1, by omega⟩
      by_cases c : we ≤ sbs (g i)
      · refine ⟨i, ?_, Or.inr ⟨h0, by omega, c, h3⟩⟩
        show f_X2_firstWeakStep_L2_b fu we g _ _ i = _
        unfold f_X2_firstWeakStep_L2_b
        rw [jck_of (by omega) (by omega) (by omega) (by omega), if_neg (by omega), q_isWeak h0 (by omega) hw hw2 (by omega), jb_s, if_pos c, jck_of (by omega) (by omega) (by omega) (by omega), if_neg (by omega)]
      · obtain ⟨r, e, h⟩ := ih q (i + 1) (by omega) (by omega) (by omega) (fun s s1 s2 => by
          by_cases d : s = i
          · subst d; exact c
          · exact h3 s s1 (by omega))
        refine ⟨r, ?_, h⟩
        rw [← e]
        show f_X2_firstWeakStep_L2_b fu we g _ _ i = _
        unfold f_X2_firstWeakStep_L2_b
        rw [jck_of (by omega) (by omega) (by omega) (by omega), if_neg (by omega), q_isWeak h0 (by omega) hw hw2 (by omega), jb_s, if_neg c, jck_of (by omega) (by omega) (by omega) (by omega), if_pos (by omega)]
  exact key 100 fu 0 (by omega) (by omega) (by omega) (fun s h1 h2 => by omega)
theorem q_isHeard {eh : Int → Int} {t s : Int} (h1 : 0 ≤ t) (h2 : t < 12) (h3 : 0 ≤ s) (h4 : s < 100) : f_X2_isHeard fu eh t s = some (if jand (jshr (eh s) t) 1 = 1 then 1 else 0) := by
  unfold f_X2_isHeard
  rw [q_isTrack_t h1 h2, jb_s, jck_of (by omega) (by omega) (by omega) (by omega), if_neg (by omega), q_heardAt h3 h4, jb_s, jck_rg (rg_jand _ _) rg_1]
  by_cases c : jand (jshr (eh s) t) 1 = 1
  · rw [if_neg (by omega), if_pos c, jbo_of (by omega)]
  · rw [if_pos c, if_neg c, jbo_of (by omega)]
theorem q_isHeard_m1 {eh : Int → Int} {t : Int} (h1 : 0 ≤ t) (h2 : t < 12) : f_X2_isHeard fu eh t (0 - 1) = some 0 := by
  unfold f_X2_isHeard f_X2_heardAt
  rw [q_isTrack_t h1 h2, jb_s, jck_of (by omega) (by omega) (by omega) (by omega), if_neg (by omega), q_isStep_f (by omega) (by omega) (by omega), jb_s, jck_of (by omega) (by omega) (by omega) (by omega), if_pos (by omega), jb_s, jck_rg (rg_jand _ _) rg_1, bit_0 h1 h2, if_pos (by omega), jbo_of (by omega)]
theorem q_starts {eh : Int → Int} {t s : Int} (h1 : 0 ≤ t) (h2 : t < 12) (h3 : 0 ≤ s) (h4 : s < 100) : f_X2_startsSound fu eh t s = some (if jand (jshr (eh s) t) 1 = 1 ∧ (s = 0 ∨ ¬ jand (jshr (eh (s - 1)) t) 1 = 1) then 1 else 0) := by
  unfold f_X2_startsSound
  rw [q_isHeard h1 h2 h3 h4, jb_s]
  by_cases c : jand (jshr (eh s) t) 1 = 1
  · rw [if_pos c, jck_of (by omega) (by omega) (by omega) (by omega), if_neg (by omega)]
    by_cases d : s = 0
    · subst d
      rw [q_isHeard_m1 h1 h2, jb_s, jck_of (by omega) (by omega) (by omega) (by omega), if_neg (by omega), jbo_of (by omega), if_pos ⟨c, Or.inl rfl⟩]
    · rw [q_isHeard h1 h2 (by omega) (by omega), jb_s]
      by_cases e : jand (jshr (eh (s - 1)) t) 1 = 1
      · rw [if_pos e, jck_of (by omega) (by omega) (by omega) (by omega), if_pos (by omega), jbo_of (by omega), if_neg (fun h => h.2.elim d (fun q => q e))]
      · rw [if_neg e, jck_of (by omega) (by omega) (by omega) (by omega), if_neg (by omega), jbo_of (by omega), if_pos ⟨c, Or.inr e⟩]
  · rw [if_neg c, jck_of (by omega) (by omega) (by omega) (by omega), if_pos (by omega), jbo_of (by omega), if_neg (fun h => c h.1)]
theorem q_sounds {eh : Int → Int} {t : Int} (h1 : 0 ≤ t) (h2 : t < 12) (hf : 200 ≤ fu) : f_X2_sounds fu eh t = some (stN eh t 100) := by
  unfold f_X2_sounds
  obtain ⟨p, e, i1, rfl⟩ := loop_upI (L := fun q (s : Int) i => f_X2_sounds_L4 fu eh t (f_X2_sounds_X28 fu) q s i) (f_X2_sounds_X28 fu)
    (fun i p => 0 ≤ i ∧ p = stN eh t i) 100
    (fun q s hI => by
      show f_X2_sounds_L4_b fu eh t _ _ s 100 = _
      unfold f_X2_sounds_L4_b
      rw [jck_of (by omega) (by omega) (by omega) (by omega), if_pos (by omega)])
    (fun q s i hi hI => by
      obtain ⟨i1, rfl⟩ := hI
      refine ⟨_, ?_, by omega, rfl⟩
      show f_X2_sounds_L4_b fu eh t _ _ _ i = _
      unfold f_X2_sounds_L4_b
      rw [jck_of (by omega) (by omega) (by omega) (by omega), if_neg (by omega), q_starts h1 h2 i1 hi, jb_s, stN_s _ _ i1]
      by_cases c : jand (jshr (eh i) t) 1 = 1 ∧ (i = 0 ∨ ¬ jand (jshr (eh (i - 1)) t) 1 = 1)
      · rw [if_pos c, if_pos c, jck_of (by omega) (by omega) (by omega) (by omega), if_neg (by omega)]
      · rw [if_neg c, if_neg c, jck_of (by omega) (by omega) (by omega) (by omega), if_pos (by omega)])
    100 fu 0 0 (by omega) (by omega) ⟨by omega, by unfold stN; rw [fdA_0]⟩
  exact e
theorem q_allSounds {eh : Int → Int} (hf : 200 ≤ fu) : f_X4_allSounds fu eh = some (sndN eh) := by
  unfold f_X4_allSounds
  obtain ⟨p, e, i1, rfl⟩ := loop_upI (L := fun q (s : Int) i => f_X4_allSounds_L4 fu eh (f_X4_allSounds_X27 fu) q s i) (f_X4_allSounds_X27 fu)
    (fun i p => 0 ≤ i ∧ p = fdA (fun t m => m + stN eh t 100) 0 0 i) 12
    (fun q s hI => by
      show f_X4_allSounds_L4_b fu eh _ _ s 12 = _
      unfold f_X4_allSounds_L4_b
      rw [jck_of (by omega) (by omega) (by omega) (by omega), if_pos (by omega)])
    (fun q s i hi hI => by
      obtain ⟨i1, rfl⟩ := hI
      refine ⟨_, ?_, by omega, rfl⟩
      show f_X4_allSounds_L4_b fu eh _ _ _ i = _
      unfold f_X4_allSounds_L4_b
      rw [jck_of (by omega) (by omega) (by omega) (by omega), if_neg (by omega), q_sounds i1 hi hf, jb_s, fdA_s _ _ i1])
    12 fu 0 0 (by omega) (by omega) ⟨by omega, by rw [fdA_0]⟩
  exact e
theorem q_soundStart {eh : Int → Int} {t x : Int} (h1 : 0 ≤ t) (h2 : t < 12) (hx : -2147483648 ≤ x) (hx2 : x < 2147483648) (hf : 200 ≤ fu) :
    ∃ r, f_X2_soundStart fu eh t x = some r ∧ ((r = -1 ∧ ∀ s, 0 ≤ s → s < 100 → (jand (jshr (eh s) t) 1 = 1 ∧ (s = 0 ∨ ¬ jand (jshr (eh (s - 1)) t) 1 = 1)) → stN eh t s ≠ x) ∨ (0 ≤ r ∧ r < 100 ∧ (jand (jshr (eh r) t) 1 = 1 ∧ (r = 0 ∨ ¬ jand (jshr (eh (r - 1)) t) 1 = 1)) ∧ stN eh t r = x)) := by
  unfold f_X2_soundStart
  have key : ∀ (n fuel : Nat) (i : Int), 0 ≤ i → i + n = 100 → n < fuel → (∀ s, 0 ≤ s → s < i → (jand (jshr (eh s) t) 1 = 1 ∧ (s = 0 ∨ ¬ jand (jshr (eh (s - 1)) t) 1 = 1)) → stN eh t s ≠ x) → ∃ r, f_X2_soundStart_L5 fu eh t x (f_X2_soundStart_X39 fu) fuel (stN eh t i) i = some r ∧ ((r = -1 ∧ ∀ s, 0 ≤ s → s < 100 → (jand (jshr (eh s) t) 1 = 1 ∧ (s = 0 ∨ ¬ jand (jshr (eh (s - 1)) t) 1 = 1)) → stN eh t s ≠ x) ∨ (0 ≤ r ∧ r < 100 ∧ (jand (jshr (eh r) t) 1 = 1 ∧ (r = 0 ∨ ¬ jand (jshr (eh (r - 1)) t) 1 = 1)) ∧ stN eh t r = x)) := by
    intro n
    induction n with
    | zero =>
      intro fuel i h0 h3 h4 h5
      obtain ⟨q, rfl⟩ : ∃ q, fuel = q + 1 := ⟨fuel - 1, by omega⟩
      have e : i = 100 := by omega
      subst e
      refine ⟨-1, ?_, Or.inl ⟨rfl, h5⟩⟩
      show f_X2_soundStart_L5_b fu eh t x _ _ _ 100 = _
      unfold f_X2_soundStart_L5_b
      rw [jck_of (by omega) (by omega) (by omega) (by omega), if_pos (by omega)]
      rfl
    | succ n ih =>
      intro fuel i h0 h3 h4 h5
      obtain ⟨q, rfl⟩ : ∃ q, fuel = q + 1 := ⟨fuel - 1, by omega⟩
      have b := stN_in eh t h0
      by_cases c : jand (jshr (eh i) t) 1 = 1 ∧ (i = 0 ∨ ¬ jand (jshr (eh (i - 1)) t) 1 = 1)
      · by_cases d : stN eh t i = x
        · refine ⟨i, ?_, Or.inr ⟨h0, by omega, c, d⟩⟩
          show f_X2_soundStart_L5_b fu eh t x _ _ _ i = _
          unfold f_X2_soundStart_L5_b
          rw [jck_of (by omega) (by omega) (by omega) (by omega), if_neg (by omega), q_starts h1 h2 h0 (by omega), jb_s, if_pos c, jck_of (by omega) (by omega) (by omega) (by omega), if_neg (by omega), jck_of (by omega) (by omega) (by omega) (by omega), if_neg (by omega)]
        · obtain ⟨r, e, h⟩ := ih q (i + 1) (by omega) (by omega) (by omega) (fun s s1 s2 s3 => by
            by_cases g : s = i
            · subst g; exact d
            · exact h5 s s1 (by omega) s3)
          refine ⟨r, ?_, h⟩
          rw [← e, stN_s _ _ h0, if_pos c]
          show f_X2_soundStart_L5_b fu eh t x _ _ _ i = _
          unfold f_X2_soundStart_L5_b
          rw [jck_of (by omega) (by omega) (by omega) (by omega), if_neg (by omega), q_starts h1 h2 h0 (by omega), jb_s, if_pos c, jck_of (by omega) (by omega) (by omega) (by omega), if_neg (by omega), jck_of (by omega) (by omega) (by omega) (by omega), if_pos d]
      · obtain ⟨r, e, h⟩ := ih q (i + 1) (by omega) (by omega) (by omega) (fun s s1 s2 s3 => by
          by_cases g : s = i
          · subst g; exact absurd s3 c
          · exact h5 s s1 (by omega) s3)
        refine ⟨r, ?_, h⟩
        rw [← e, stN_s _ _ h0, if_neg c]
        show f_X2_soundStart_L5_b fu eh t x _ _ _ i = _
        unfold f_X2_soundStart_L5_b
        rw [jck_of (by omega) (by omega) (by omega) (by omega), if_neg (by omega), q_starts h1 h2 h0 (by omega), jb_s, if_neg c, jck_of (by omega) (by omega) (by omega) (by omega), if_pos (by omega)]
  have h := key 100 fu 0 (by omega) (by omega) (by omega) (fun s h1 h2 => by omega)
  have e0 : stN eh t 0 = 0 := by unfold stN; rw [fdA_0]
  rw [e0] at h
  exact h
theorem q_soundEnd {eh : Int → Int} {t a : Int} (h1 : 0 ≤ t) (h2 : t < 12) (ha : 0 ≤ a) (ha2 : a < 100) (hh : jand (jshr (eh a) t) 1 = 1) (hf : 200 ≤ fu) :
    ∃ r, f_X2_soundEnd fu eh t a = some r ∧ a ≤ r ∧ r < 100 ∧ (∀ s, a ≤ s → s ≤ r → jand (jshr (eh s) t) 1 = 1) ∧ (r = 99 ∨ ¬ jand (jshr (eh (r + 1)) t) 1 = 1) := by
  unfold f_X2_soundEnd
  have key : ∀ (n fuel : Nat) (i : Int), a < i → i + n = 100 → n < fuel → (∀ s, a ≤ s → s < i → jand (jshr (eh s) t) 1 = 1) → ∃ r, f_X2_soundEnd_L5 fu eh t (f_X2_soundEnd_X31 fu) fuel (i - 1) i = some r ∧ a ≤ r ∧ r < 100 ∧ (∀ s, a ≤ s → s ≤ r → jand (jshr (eh s) t) 1 = 1) ∧ (r = 99 ∨ ¬ jand (jshr (eh (r + 1)) t) 1 = 1) := by
    intro n
    induction n with
    | zero =>
      intro fuel i h0 h3 h4 h5
      obtain ⟨q, rfl⟩ : ∃ q, fuel = q + 1 := ⟨fuel - 1, by omega⟩
      refine ⟨i - 1, ?_, by omega, by omega, fun s s1 s2 => h5 s s1 (by omega), by omega⟩
      show f_X2_soundEnd_L5_b fu eh t _ _ (i - 1) i = _
      unfold f_X2_soundEnd_L5_b
      rw [jck_of (by omega) (by omega) (by omega) (by omega), if_pos (by omega)]
      rfl
    | succ n ih =>
      intro fuel i h0 h3 h4 h5
      obtain ⟨q, rfl⟩ : ∃ q, fuel = q + 1 := ⟨fuel - 1, by omega⟩
      by_cases c : jand (jshr (eh i) t) 1 = 1
      · obtain ⟨r, e, h⟩ := ih q (i + 1) (by omega) (by omega) (by omega) (fun s s1 s2 => by
          by_cases g : s = i
          · subst g; exact c
          · exact h5 s s1 (by omega))
        refine ⟨r, ?_, h⟩
        rw [← e, show i + 1 - 1 = i by omega]
        show f_X2_soundEnd_L5_b fu eh t _ _ (i - 1) i = _
        unfold f_X2_soundEnd_L5_b
        rw [jck_of (by omega) (by omega) (by omega) (by omega), if_neg (by omega), q_isHeard h1 h2 (by omega) (by omega), jb_s, if_pos c, jck_of (by omega) (by omega) (by omega) (by omega), if_neg (by omega)]
      · refine ⟨i - 1, ?_, by omega, by omega, fun s s1 s2 => h5 s s1 (by omega), Or.inr (by rw [show i - 1 + 1 = i by omega]; exact c)⟩
        show f_X2_soundEnd_L5_b fu eh t _ _ (i - 1) i = _
        unfold f_X2_soundEnd_L5_b
        rw [jck_of (by omega) (by omega) (by omega) (by omega), if_neg (by omega), q_isHeard h1 h2 (by omega) (by omega), jb_s, if_neg c, jck_of (by omega) (by omega) (by omega) (by omega), if_pos (by omega)]
        rfl
  obtain ⟨q, rfl⟩ : ∃ q, fu = q + 1 := ⟨fu - 1, by omega⟩
  obtain ⟨r, e, h⟩ := key (99 - a).toNat q (a + 1) (by omega) (by omega) (by omega) (fun s s1 s2 => by rw [show s = a by omega]; exact hh)
  refine ⟨r, ?_, h⟩
  rw [← e, show a + 1 - 1 = a by omega]
  show f_X2_soundEnd_L5_b (q + 1) eh t _ _ a a = _
  unfold f_X2_soundEnd_L5_b
  rw [jck_of (by omega) (by omega) (by omega) (by omega), if_neg (by omega), q_isHeard h1 h2 (by omega) (by omega), jb_s, if_pos hh, jck_of (by omega) (by omega) (by omega) (by omega), if_neg (by omega)]
theorem q_isHeardWhole {eh : Int → Int} {k : Int} (hN : NT tr fi la sh no) (hk : 0 ≤ k) (hk2 : k < no) (hf : 200 ≤ fu) : f_X4_isHeardWhole fu tr fi la no eh k = some (whO eh tr fi la k) := by
  have n1 := hN.2.1
  obtain ⟨a1, a2, a3, a4, a5, -, -⟩ := hN.2.2 k hk hk2
  unfold f_X4_isHeardWhole whO fdA
  rw [q_firstOf hk hk2 n1, jb_s]
  have key : ∀ (n fuel : Nat) (i : Int), fi k ≤ i → i + n = la k + 1 → n < fuel → f_X4_isHeardWhole_L9 fu tr la no eh k (f_X4_isHeardWhole_X48 fu) fuel i = some (fo (whS eh (tr k)) n i 1) := by
    intro n
    induction n with
    | zero =>
      intro fuel i h0 h3 h4
      obtain ⟨q, rfl⟩ : ∃ q, fuel = q + 1 := ⟨fuel - 1, by omega⟩
      show f_X4_isHeardWhole_L9_b fu tr la no eh k _ _ i = _
      unfold f_X4_isHeardWhole_L9_b f_X4_isHeardWhole_X48
      rw [q_lastOf hk hk2 n1, jb_s, jck_of (by omega) (by omega) (by omega) (by omega), if_pos (by omega), jbo_of (by omega)]
      rfl
    | succ n ih =>
      intro fuel i h0 h3 h4
      obtain ⟨q, rfl⟩ : ∃ q, fuel = q + 1 := ⟨fuel - 1, by omega⟩
      show f_X4_isHeardWhole_L9_b fu tr la no eh k _ _ i = _
      unfold f_X4_isHeardWhole_L9_b
      rw [q_lastOf hk hk2 n1, jb_s, jck_of (by omega) (by omega) (by omega) (by omega), if_neg (by omega), q_trackOf hk hk2 n1, jb_s, q_isHeard a1 a2 (by omega) (by omega), jb_s, fo_s]
      by_cases c : jand (jshr (eh i) (tr k)) 1 = 1
      · rw [if_pos c, jck_of (by omega) (by omega) (by omega) (by omega), if_pos (by omega), show whS eh (tr k) i 1 = 1 from if_pos ⟨rfl, c⟩]
        exact ih q (i + 1) (by omega) (by omega) (by omega)
      · rw [if_neg c, jck_of (by omega) (by omega) (by omega) (by omega), if_neg (by omega), show whS eh (tr k) i 1 = 0 from if_neg (fun h => c h.2), whO_0, jbo_of (by omega)]
  exact key (la k + 1 - fi k).toNat fu (fi k) (by omega) (by omega) (by omega)
theorem q_notesWithGap {eh : Int → Int} (hN : NT tr fi la sh no) (hf : 200 ≤ fu) : f_X4_notesWithGap fu tr fi la no eh = some (gapN eh tr fi la no) := by
  have n0 := hN.1
  have n1 := hN.2.1
  unfold f_X4_notesWithGap
  obtain ⟨p, e, i1, rfl⟩ := loop_upI (L := fun q (s : Int) i => f_X4_notesWithGap_L4 fu tr fi la no eh (f_X4_notesWithGap_X32 fu) q s i) (f_X4_notesWithGap_X32 fu)
    (fun i p => 0 ≤ i ∧ p = fdA (fun k m => if whO eh tr fi la k = 0 then m + 1 else m) 0 0 i) no
    (fun q s hI => by
      show f_X4_notesWithGap_L4_b fu tr fi la no eh _ _ s no = _
      unfold f_X4_notesWithGap_L4_b
      rw [q_size, jb_s, jck_of (by omega) (by omega) (by omega) (by omega), if_pos (by omega)])
    (fun q s i hi hI => by
      obtain ⟨i1, rfl⟩ := hI
      obtain ⟨a1, a2, a3, a4, a5, -, -⟩ := hN.2.2 i i1 hi
      have b := whO_01 eh (tr i) (a := fi i) (i := la i + 1) (by omega)
      refine ⟨_, ?_, by omega, rfl⟩
      show f_X4_notesWithGap_L4_b fu tr fi la no eh _ _ _ i = _
      unfold f_X4_notesWithGap_L4_b
      have b2 : whO eh tr fi la i = 0 ∨ whO eh tr fi la i = 1 := b
      rw [q_size, jb_s, jck_of (by omega) (by omega) (by omega) (by omega), if_neg (by omega), q_isHeardWhole hN i1 hi hf, jb_s, jck_of (by omega) (by omega) (by omega) (by omega), fdA_s _ _ i1]
      by_cases c : whO eh tr fi la i = 0
      · rw [if_neg (by omega), if_pos c]
      · rw [if_pos c, if_neg c])
    no.toNat fu 0 0 (by omega) (by omega) ⟨by omega, by rw [fdA_0]⟩
  exact e
end Q46
