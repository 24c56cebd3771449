/-! the model: what it tells -/
def sndAcc (eh : Int → Int) (t s m : Int) : Int := if jand (jshr (eh s) t) 1 = 1 ∧ (s = 0 ∨ ¬ jand (jshr (eh (s - 1)) t) 1 = 1) then m + 1 else m
theorem st_acc (eh : Int → Int) (t v : Int) {i : Int} (h : 0 ≤ i) : fdA (sndAcc eh t) v 0 i = v + stN eh t i := by
  unfold stN
  refine fdA_rel (f := sndAcc eh t) (I := fun _ a b => a = v + b) h (by omega) (fun j s t' h1 h2 h3 => ?_)
  unfold sndAcc
  split <;> omega
theorem E1_bit {f g : Int → Int} (h : E1 f g) {t s : Int} (h1 : 0 ≤ s) (h2 : s < 100) : jand (jshr (f s) t) 1 = jand (jshr (g s) t) 1 := by rw [h s h1 h2]
theorem E1_st {f g : Int → Int} (h : E1 f g) {t s : Int} (h1 : 0 ≤ s) (h2 : s < 100) : (jand (jshr (f s) t) 1 = 1 ∧ (s = 0 ∨ ¬ jand (jshr (f (s - 1)) t) 1 = 1)) = (jand (jshr (g s) t) 1 = 1 ∧ (s = 0 ∨ ¬ jand (jshr (g (s - 1)) t) 1 = 1)) := by
  rw [h s h1 h2]
  by_cases c : s = 0
  · simp [c]
  · rw [h (s - 1) (by omega) (by omega)]
theorem E1_stN {f g : Int → Int} (h : E1 f g) {t i : Int} (hi : i ≤ 100) : stN f t i = stN g t i := by
  unfold stN
  refine fdA_congr (fun j s h1 h2 => ?_)
  simp only [E1_st h h1 (by omega : j < 100)]
theorem E1_snd {f g : Int → Int} (h : E1 f g) : sndN f = sndN g := by
  unfold sndN
  refine fdA_congr (fun j s h1 h2 => ?_)
  show s + stN f j 100 = s + stN g j 100
  rw [E1_stN h (by omega)]
theorem E1_whO {f g tr fi la : Int → Int} {k : Int} (h : E1 f g) (h0 : 0 ≤ fi k) (h1 : la k < 100) : whO f tr fi la k = whO g tr fi la k := by
  unfold whO
  refine fdA_congr (fun j s k1 k2 => ?_)
  unfold whS
  rw [h j (by omega) (by omega)]
theorem E1_gap {f g tr fi la sh : Int → Int} {no : Int} (hN : NT tr fi la sh no) (h : E1 f g) : gapN f tr fi la no = gapN g tr fi la no := by
  unfold gapN
  refine fdA_congr (fun j s k1 k2 => ?_)
  obtain ⟨a1, a2, a3, a4, a5, -, -⟩ := hN.2.2 j k1 k2
  show (if whO f tr fi la j = 0 then s + 1 else s) = _
  rw [E1_whO h a3 a5]
section Q49
variable {fu : Nat} {st se tr fi la sh ac : Int → Int} {no : Int}
theorem m_soundsMany {ho eh : Int → Int} (hR : RLm st se tr fi la sh ac no) (hN : NT tr fi la sh no) (hE : SE se) (hA : AC ac) (hf : 300 ≤ fu) :
    ∃ ho1 eh1, f_X5_soundsMany fu ho eh st = some (sndN (EHs (HO se tr fi la sh ac no) (se 2)), ho1, eh1) := by
  obtain ⟨ho1, eh1, e, h1, h2⟩ := m_findHeard (ho := ho) (eh := eh) hR hN hE hA hf
  unfold f_X5_soundsMany
  rw [e, jb2_s, ← E1_snd h2]
  refine ⟨ho1, eh1, ?_⟩
  obtain ⟨p, e, i1, i2, rfl⟩ := loop_upI (L := fun q (s : Int) i => f_X5_soundsMany_L8 fu eh1 (f_X5_soundsMany_X51 fu ho1 eh1) q s i) (f_X5_soundsMany_X51 fu ho1 eh1)
    (fun i p => 0 ≤ i ∧ (0 ≤ p ∧ p ≤ 100 * i) ∧ p = fdA (fun t m => m + stN eh1 t 100) 0 0 i) 12
    (fun q s hI => by
      show f_X5_soundsMany_L8_b fu eh1 _ _ s 12 = _
      unfold f_X5_soundsMany_L8_b
      rw [jck_of (by omega) (by omega) (by omega) (by omega), if_pos (by omega)])
    (fun q s i hi hI => by
      obtain ⟨i1, i2, i3⟩ := hI
      have b := stN_in eh1 i (i := 100) (by omega)
      obtain ⟨g, e, k0, rfl⟩ := loop_upI (L := fun r (g : Int) a => f_X5_soundsMany_L16 fu eh1 i (f_X5_soundsMany_X45 fu i (f_X5_soundsMany_L8 fu eh1 (f_X5_soundsMany_X51 fu ho1 eh1) q)) r g a) (f_X5_soundsMany_X45 fu i (f_X5_soundsMany_L8 fu eh1 (f_X5_soundsMany_X51 fu ho1 eh1) q))
        (fun a g => 0 ≤ a ∧ g = fdA (sndAcc eh1 i) s 0 a) 100
        (fun r g hI => by
          show f_X5_soundsMany_L16_b fu eh1 i _ _ g 100 = _
          unfold f_X5_soundsMany_L16_b
          rw [jck_of (by omega) (by omega) (by omega) (by omega), if_pos (by omega)])
        (fun r g a ha hI => by
          obtain ⟨k0, rfl⟩ := hI
          refine ⟨_, ?_, by omega, rfl⟩
          show f_X5_soundsMany_L16_b fu eh1 i _ _ _ a = _
          unfold f_X5_soundsMany_L16_b
          rw [jck_of (by omega) (by omega) (by omega) (by omega), if_neg (by omega), m_begins k0 ha, jb_s, fdA_s _ _ k0]
          unfold sndAcc
          by_cases c : jand (jshr (eh1 a) i) 1 = 1 ∧ (a = 0 ∨ ¬ jand (jshr (eh1 (a - 1)) i) 1 = 1)
          · rw [if_pos c, if_pos c, jck_of (by omega) (by omega) (by omega) (by omega), if_neg (by omega)]
          · rw [if_neg c, if_neg c, jck_of (by omega) (by omega) (by omega) (by omega), if_pos (by omega), Int.add_zero])
        100 fu s 0 (by omega) (by omega) ⟨by omega, by rw [fdA_0]⟩
      rw [st_acc _ _ _ (by omega)] at e
      refine ⟨s + stN eh1 i 100, ?_, by omega, by omega, ?_⟩
      · show f_X5_soundsMany_L8_b fu eh1 _ _ s i = _
        unfold f_X5_soundsMany_L8_b
        rw [jck_of (by omega) (by omega) (by omega) (by omega), if_neg (by omega)]
        exact e
      · rw [fdA_s _ _ i1, ← i3])
    12 fu 0 0 (by omega) (by omega) ⟨by omega, by omega, by rw [fdA_0]⟩
  exact e
theorem m_beginOf {eh : Int → Int} {t x : Int} (hx : 0 ≤ x) (hx2 : x < 2147483648) (hf : 200 ≤ fu) :
    ∃ r, f_X5_beginOf fu eh t x = some r ∧ ((r = -6 ∧ ∀ s, 0 ≤ s → s < 100 → (jand (jshr (eh s) t) 1 = 1 ∧ (s = 0 ∨ ¬ jand (jshr (eh (s - 1)) t) 1 = 1)) → stN eh t s ≠ x) ∨ (0 ≤ r ∧ r < 100 ∧ (jand (jshr (eh r) t) 1 = 1 ∧ (r = 0 ∨ ¬ jand (jshr (eh (r - 1)) t) 1 = 1)) ∧ stN eh t r = x)) := by
  unfold f_X5_beginOf
  obtain ⟨p, e, i1, i2, i3⟩ := loop_upI (L := fun q (s : Int × Int) i => f_X5_beginOf_L9 fu eh t (f_X5_beginOf_X63 fu) q s.1 s.2 i) (fun s => f_X5_beginOf_X63 fu s.2)
    (fun i p => 0 ≤ i ∧ p.1 = x - stN eh t i ∧ ((p.2 = -6 ∧ ∀ s, 0 ≤ s → s < i → (jand (jshr (eh s) t) 1 = 1 ∧ (s = 0 ∨ ¬ jand (jshr (eh (s - 1)) t) 1 = 1)) → stN eh t s ≠ x) ∨ (0 ≤ p.2 ∧ p.2 < i ∧ (jand (jshr (eh p.2) t) 1 = 1 ∧ (p.2 = 0 ∨ ¬ jand (jshr (eh (p.2 - 1)) t) 1 = 1)) ∧ stN eh t p.2 = x ∧ x < stN eh t i))) 100
    (fun q s hI => by
      show f_X5_beginOf_L9_b fu eh t _ _ s.1 s.2 100 = _
      unfold f_X5_beginOf_L9_b
      rw [jck_of (by omega) (by omega) (by omega) (by omega), if_pos (by omega)])
    (fun q s i hi hI => by
      obtain ⟨i1, i2, i3⟩ := hI
      have b := stN_in eh t i1
      by_cases c : jand (jshr (eh i) t) 1 = 1 ∧ (i = 0 ∨ ¬ jand (jshr (eh (i - 1)) t) 1 = 1)
      · by_cases d : s.1 = 0
        · refine ⟨(s.1 - 1, i), ?_, by omega, ?_, Or.inr ⟨i1, by show i < i + 1; omega, c, by show stN eh t i = x; omega, ?_⟩⟩
          · show f_X5_beginOf_L9_b fu eh t _ _ s.1 s.2 i = _
            unfold f_X5_beginOf_L9_b f_X5_beginOf_J37
            simp only [m_begins i1 hi, jb_s, if_pos c]
            rw [jck_of (by omega) (by omega) (by omega) (by omega), if_neg (by omega), jck_of (by omega) (by omega) (by omega) (by omega), if_neg (by omega), jck_of (by omega) (by omega) (by omega) (by omega), if_neg (by omega), jck_of (by omega) (by omega) (by omega) (by omega), if_neg (by omega)]
          · show s.1 - 1 = _
            rw [stN_s _ _ i1, if_pos c]; omega
          · rw [stN_s _ _ i1, if_pos c]; omega
        · refine ⟨(s.1 - 1, s.2), ?_, by omega, ?_, ?_⟩
          · show f_X5_beginOf_L9_b fu eh t _ _ s.1 s.2 i = _
            unfold f_X5_beginOf_L9_b f_X5_beginOf_J35 f_X5_beginOf_J37
            simp only [m_begins i1 hi, jb_s, if_pos c]
            rw [jck_of (by omega) (by omega) (by omega) (by omega), if_neg (by omega), jck_of (by omega) (by omega) (by omega) (by omega), if_neg (by omega), jck_of (by omega) (by omega) (by omega) (by omega), if_pos (by omega), jck_of (by omega) (by omega) (by omega) (by omega), if_neg (by omega)]
          · show s.1 - 1 = _
            rw [stN_s _ _ i1, if_pos c]; omega
          · rcases i3 with ⟨j1, j2⟩ | ⟨j1, j2, j3, j4, j5⟩
            · left
              refine ⟨j1, fun y y0 y1 y2 => ?_⟩
              by_cases g : y = i
              · subst g; omega
              · exact j2 y y0 (by omega) y2
            · right
              refine ⟨j1, by show s.2 < _; omega, j3, j4, ?_⟩
              rw [stN_s _ _ i1, if_pos c]; omega
      · refine ⟨(s.1, s.2), ?_, by omega, ?_, ?_⟩
        · show f_X5_beginOf_L9_b fu eh t _ _ s.1 s.2 i = _
          unfold f_X5_beginOf_L9_b f_X5_beginOf_J35 f_X5_beginOf_J37
          rw [jck_of (by omega) (by omega) (by omega) (by omega), if_neg (by omega), m_begins i1 hi, jb_s, if_neg c, jck_of (by omega) (by omega) (by omega) (by omega), if_pos rfl, jb_s, jck_of (by omega) (by omega) (by omega) (by omega), if_pos rfl, Int.sub_zero]
        · show s.1 = _
          rw [stN_s _ _ i1, if_neg c]; omega
        · rcases i3 with ⟨j1, j2⟩ | ⟨j1, j2, j3, j4, j5⟩
          · left
            refine ⟨j1, fun y y0 y1 y2 => ?_⟩
            by_cases g : y = i
            · subst g; exact absurd y2 c
            · exact j2 y y0 (by omega) y2
          · right
            refine ⟨j1, by show s.2 < _; omega, j3, j4, ?_⟩
            rw [stN_s _ _ i1, if_neg c]; omega)
    100 fu (x, -6) 0 (by omega) (by omega) ⟨by omega, by show x = _; unfold stN; rw [fdA_0]; omega, Or.inl ⟨rfl, fun s h1 h2 => by omega⟩⟩
  refine ⟨p.2, e, ?_⟩
  rcases i3 with h | ⟨j1, j2, j3, j4, -⟩
  · exact Or.inl h
  · exact Or.inr ⟨j1, j2, j3, j4⟩
theorem m_endOf {eh : Int → Int} {t a : Int} (ha : 0 ≤ a) (ha2 : a < 100) (hh : jand (jshr (eh a) t) 1 = 1) (hf : 200 ≤ fu) :
    ∃ r, f_X5_endOf fu eh t a = some r ∧ a ≤ r ∧ r < 100 ∧ (∀ s, a ≤ s → s ≤ r → jand (jshr (eh s) t) 1 = 1) ∧ (r = 99 ∨ ¬ jand (jshr (eh (r + 1)) t) 1 = 1) := by
  unfold f_X5_endOf
  have key : ∀ (n fuel : Nat) (i : Int), a ≤ i → i + n = 99 → n < fuel → (∀ s, a ≤ s → s ≤ i → jand (jshr (eh s) t) 1 = 1) → ∃ r, f_X5_endOf_L2 fu eh t (f_X5_endOf_X27 fu) fuel i = some r ∧ a ≤ r ∧ r < 100 ∧ (∀ s, a ≤ s → s ≤ r → jand (jshr (eh s) t) 1 = 1) ∧ (r = 99 ∨ ¬ jand (jshr (eh (r + 1)) t) 1 = 1) := by
    intro n
    induction n with
    | zero =>
      intro fuel i h0 h3 h4 h5
      obtain ⟨q, rfl⟩ : ∃ q, fuel = q + 1 := ⟨fuel - 1, by omega⟩
      refine ⟨i, ?_, h0, by omega, h5, by omega⟩
      show f_X5_endOf_L2_b fu eh t _ _ i = _
      unfold f_X5_endOf_L2_b
      rw [jck_of (by omega) (by omega) (by omega) (by omega), if_pos (by omega)]
      rfl
    | succ n ih =>
      intro fuel i h0 h3 h4 h5
      obtain ⟨q, rfl⟩ : ∃ q, fuel = q + 1 := ⟨fuel - 1, by omega⟩
      by_cases c : jand (jshr (eh (i + 1)) t) 1 = 1
      · obtain ⟨r, e, h⟩ := ih q (i + 1) (by omega) (by omega) (by omega) (fun s s1 s2 => by
          by_cases g : s = i + 1
          · subst g; exact c
          · exact h5 s s1 (by omega))
        refine ⟨r, ?_, h⟩
        rw [← e]
        show f_X5_endOf_L2_b fu eh t _ _ i = _
        unfold f_X5_endOf_L2_b
        rw [jck_of (by omega) (by omega) (by omega) (by omega), if_neg (by omega), m_isHeard (by omega) (by omega), jb_s, if_pos c, jck_of (by omega) (by omega) (by omega) (by omega), if_neg (by omega)]
      · refine ⟨i, ?_, h0, by omega, h5, Or.inr c⟩
        show f_X5_endOf_L2_b fu eh t _ _ i = _
        unfold f_X5_endOf_L2_b
        rw [jck_of (by omega) (by omega) (by omega) (by omega), if_neg (by omega), m_isHeard (by omega) (by omega), jb_s, if_neg c, jck_of (by omega) (by omega) (by omega) (by omega), if_pos (by omega)]
        rfl
  exact key (99 - a).toNat fu a (by omega) (by omega) (by omega) (fun s s1 s2 => by rw [show s = a by omega]; exact hh)
/-- the end of a sound is one -/
theorem end_one {eh : Int → Int} {t a r r' : Int} (h1 : a ≤ r ∧ r < 100 ∧ (∀ s, a ≤ s → s ≤ r → jand (jshr (eh s) t) 1 = 1) ∧ (r = 99 ∨ ¬ jand (jshr (eh (r + 1)) t) 1 = 1)) (h2 : a ≤ r' ∧ r' < 100 ∧ (∀ s, a ≤ s → s ≤ r' → jand (jshr (eh s) t) 1 = 1) ∧ (r' = 99 ∨ ¬ jand (jshr (eh (r' + 1)) t) 1 = 1)) : r = r' := by
  obtain ⟨a1, a2, a3, a4⟩ := h1
  obtain ⟨b1, b2, b3, b4⟩ := h2
  rcases Int.lt_trichotomy r r' with h | h | h
  · rcases a4 with h4 | h4
    · omega
    · exact absurd (b3 (r + 1) (by omega) (by omega)) h4
  · exact h
  · rcases b4 with h4 | h4
    · omega
    · exact absurd (a3 (r' + 1) (by omega) (by omega)) h4
theorem stN_mono (eh : Int → Int) (t : Int) : ∀ (n : Nat) (i : Int), 0 ≤ i → stN eh t i ≤ stN eh t (i + n)
  | 0, i, _ => by simp
  | n + 1, i, h => by
    have := stN_mono eh t n i h
    rw [show i + ((n + 1 : Nat) : Int) = i + n + 1 by omega, stN_s _ _ (by omega)]
    split <;> omega
theorem start_one {eh : Int → Int} {t r r' x : Int} (h1 : 0 ≤ r ∧ r < 100 ∧ (jand (jshr (eh r) t) 1 = 1 ∧ (r = 0 ∨ ¬ jand (jshr (eh (r - 1)) t) 1 = 1)) ∧ stN eh t r = x) (h2 : 0 ≤ r' ∧ r' < 100 ∧ (jand (jshr (eh r') t) 1 = 1 ∧ (r' = 0 ∨ ¬ jand (jshr (eh (r' - 1)) t) 1 = 1)) ∧ stN eh t r' = x) : r = r' := by
  obtain ⟨a1, a2, a3, a4⟩ := h1
  obtain ⟨b1, b2, b3, b4⟩ := h2
  rcases Int.lt_trichotomy r r' with h | h | h
  · have m := stN_mono eh t (r' - (r + 1)).toNat (r + 1) (by omega)
    rw [show r + 1 + ((r' - (r + 1)).toNat : Int) = r' by omega, stN_s _ _ a1, if_pos a3] at m
    omega
  · exact h
  · have m := stN_mono eh t (r - (r' + 1)).toNat (r' + 1) (by omega)
    rw [show r' + 1 + ((r - (r' + 1)).toNat : Int) = r by omega, stN_s _ _ b1, if_pos b3] at m
    omega
theorem m_isWholeHeard {eh : Int → Int} {k : Int} (hR : RLm st se tr fi la sh ac no) (hN : NT tr fi la sh no) (hk : 0 ≤ k) (hk2 : k < no) (hf : 200 ≤ fu) : f_X5_isWholeHeard fu eh st k = some (whO eh tr fi la k) := by
  have n1 := hN.2.1
  obtain ⟨a1, a2, a3, a4, a5, -, -⟩ := hN.2.2 k hk hk2
  unfold f_X5_isWholeHeard whO
  rw [m_p1 hR hk hk2 n1, jb_s]
  obtain ⟨p, e, i1, i2, rfl⟩ := loop_upI (L := fun q (s : Int) i => f_X5_isWholeHeard_L9 fu eh st k (f_X5_isWholeHeard_X49 fu) q s i) (f_X5_isWholeHeard_X49 fu)
    (fun i p => fi k ≤ i ∧ (p = 0 ∨ p = 1) ∧ p = fdA (whS eh (tr k)) 1 (fi k) i) (la k + 1)
    (fun q s hI => by
      show f_X5_isWholeHeard_L9_b fu eh st k _ _ s (la k + 1) = _
      unfold f_X5_isWholeHeard_L9_b
      rw [m_p2 hR hk hk2 n1, jb_s, jck_of (by omega) (by omega) (by omega) (by omega), if_pos (by omega)])
    (fun q s i hi hI => by
      obtain ⟨i1, i2, i3⟩ := hI
      refine ⟨fdA (whS eh (tr k)) 1 (fi k) (i + 1), ?_, by omega, whO_01 _ _ (by omega), rfl⟩
      show f_X5_isWholeHeard_L9_b fu eh st k _ _ s i = _
      unfold f_X5_isWholeHeard_L9_b
      rw [m_p2 hR hk hk2 n1, jb_s, jck_of (by omega) (by omega) (by omega) (by omega), if_neg (by omega), jck_of (by omega) (by omega) (by omega) (by omega), m_p0 hR hk hk2 n1, jb_s, m_isHeard (by omega) (by omega), jb_s, fdA_s _ _ i1, ← i3]
      unfold whS
      rcases i2 with d | d
      · rw [if_pos d, if_neg (by omega)]
      · rw [if_neg (by omega)]
        by_cases c : jand (jshr (eh i) (tr k)) 1 = 1
        · rw [if_pos c, jck_of (by omega) (by omega) (by omega) (by omega), if_neg (by omega), if_pos ⟨d, c⟩]
        · rw [if_neg c, jck_of (by omega) (by omega) (by omega) (by omega), if_pos (by omega), if_neg (fun h => c h.2)])
    (la k + 1 - fi k).toNat fu 1 (fi k) (by omega) (by omega) ⟨by omega, Or.inr rfl, by rw [fdA_0]⟩
  refine e.trans ?_
  unfold f_X5_isWholeHeard_X49
  rw [jbo_of i2]
theorem m_withGap {ho eh : Int → Int} (hR : RLm st se tr fi la sh ac no) (hN : NT tr fi la sh no) (hE : SE se) (hA : AC ac) (hf : 300 ≤ fu) :
    ∃ ho1 eh1, f_X5_withGap fu ho eh st = some (gapN (EHs (HO se tr fi la sh ac no) (se 2)) tr fi la no, ho1, eh1) := by
  have n0 := hN.1
  have n1 := hN.2.1
  obtain ⟨ho1, eh1, e, h1, h2⟩ := m_findHeard (ho := ho) (eh := eh) hR hN hE hA hf
  unfold f_X5_withGap
  rw [e, jb2_s, ← E1_gap hN h2]
  refine ⟨ho1, eh1, ?_⟩
  obtain ⟨p, e, i1, rfl⟩ := loop_upI (L := fun q (s : Int) i => f_X5_withGap_L8 fu st eh1 (f_X5_withGap_X40 fu ho1 eh1) q s i) (f_X5_withGap_X40 fu ho1 eh1)
    (fun i p => 0 ≤ i ∧ p = fdA (fun k m => if whO eh1 tr fi la k = 0 then m + 1 else m) 0 0 i) no
    (fun q s hI => by
      show f_X5_withGap_L8_b fu st eh1 _ _ s no = _
      unfold f_X5_withGap_L8_b
      rw [hR.n4, jix_of (by omega) (by omega), jck_of (by omega) (by omega) (by omega) (by omega), if_pos (by omega)])
    (fun q s i hi hI => by
      obtain ⟨i1, rfl⟩ := hI
      obtain ⟨a1, a2, a3, a4, a5, -, -⟩ := hN.2.2 i i1 hi
      have b := whO_01 eh1 (tr i) (a := fi i) (i := la i + 1) (by omega)
      have b2 : whO eh1 tr fi la i = 0 ∨ whO eh1 tr fi la i = 1 := b
      refine ⟨_, ?_, by omega, rfl⟩
      show f_X5_withGap_L8_b fu st eh1 _ _ _ i = _
      unfold f_X5_withGap_L8_b
      rw [hR.n4, jix_of (by omega) (by omega), jck_of (by omega) (by omega) (by omega) (by omega), if_neg (by omega), m_isWholeHeard hR hN i1 hi (by omega), jb_s, jck_of (by omega) (by omega) (by omega) (by omega), fdA_s _ _ i1]
      by_cases c : whO eh1 tr fi la i = 0
      · rw [if_pos c, if_pos c]
      · rw [if_neg c, if_neg c, Int.add_zero])
    no.toNat fu 0 0 (by omega) (by omega) ⟨by omega, by rw [fdA_0]⟩
  exact e
theorem m_greatestLast (hR : RLm st se tr fi la sh ac no) (hN : NT tr fi la sh no) (hf : 100 ≤ fu) :
    ∃ g, f_X5_greatestLast fu st = some g ∧ (∀ k, 0 ≤ k → k < no → la k ≤ g) ∧ (g = -6 ∨ ∃ k, 0 ≤ k ∧ k < no ∧ la k = g) := by
  have n0 := hN.1
  have n1 := hN.2.1
  unfold f_X5_greatestLast
  obtain ⟨p, e, i1, i2, i3⟩ := loop_upI (L := fun q (s : Int) i => f_X5_greatestLast_L5 fu st (f_X5_greatestLast_X42 fu) q s i) (f_X5_greatestLast_X42 fu)
    (fun i g => (0 ≤ i ∧ -6 ≤ g ∧ g < 100) ∧ (∀ k, 0 ≤ k → k < i → la k ≤ g) ∧ (g = -6 ∨ ∃ k, 0 ≤ k ∧ k < i ∧ la k = g)) no
    (fun q s hI => by
      show f_X5_greatestLast_L5_b fu st _ _ s no = _
      unfold f_X5_greatestLast_L5_b
      rw [hR.n4, jix_of (by omega) (by omega), jck_of (by omega) (by omega) (by omega) (by omega), if_pos (by omega)])
    (fun q s i hi hI => by
      obtain ⟨⟨i1, i2, i3⟩, i4, i5⟩ := hI
      obtain ⟨a1, a2, a3, a4, a5, -, -⟩ := hN.2.2 i i1 hi
      refine ⟨if la i ≤ s then s else la i, ?_, ⟨by omega, by split <;> omega, by split <;> omega⟩, fun k h1 h2 => ?_, ?_⟩
      · show f_X5_greatestLast_L5_b fu st _ _ s i = _
        unfold f_X5_greatestLast_L5_b
        rw [hR.n4, jix_of (by omega) (by omega), jck_of (by omega) (by omega) (by omega) (by omega), if_neg (by omega), m_p2 hR i1 hi n1, jb_s, jb_s, jck_of (by omega) (by omega) (by omega) (by omega)]
        by_cases c : la i ≤ s
        · rw [if_pos c, if_pos c]
        · rw [if_neg c, if_neg c]
      · by_cases d : k = i
        · subst d; split <;> omega
        · have := i4 k h1 (by omega)
          split <;> omega
      · by_cases c : la i ≤ s
        · rw [if_pos c]
          rcases i5 with h | ⟨k, h1, h2, h3⟩
          · left; exact h
          · exact Or.inr ⟨k, h1, by omega, h3⟩
        · rw [if_neg c]
          exact Or.inr ⟨i, i1, by omega, rfl⟩)
    no.toNat fu (-6) 0 (by omega) (by omega) ⟨⟨by omega, by omega, by omega⟩, fun k h1 h2 => by omega, Or.inl rfl⟩
  exact ⟨p, e, i2, i3⟩
theorem m_bridges {k x : Int} (hR : RLm st se tr fi la sh ac no) (hN : NT tr fi la sh no) (hE : SE se) (hk : 0 ≤ k) (hk2 : k < no) (hx : x = 0 ∨ x = 1) (hf : 200 ≤ fu) :
    f_X5_bridges fu st k x = some (if x = 0 then fdA (sBri se fi la sh k) 0 (fi k) (la k + 1) else (fdA (sLon se fi la sh k) (0, 0) (fi k) (la k + 1)).1) := by
  have n1 := hN.2.1
  obtain ⟨a1, a2, a3, a4, a5, a6, a7⟩ := hN.2.2 k hk hk2
  unfold f_X5_bridges
  rw [m_p1 hR hk hk2 n1, jb_s]
  obtain ⟨p, e, i1, i2, i3, -⟩ := loop_upI (L := fun q (s : Int × Int × Int) i => f_X5_bridges_L16 fu st k (f_X5_bridges_X87 fu x) q s.1 s.2.1 s.2.2 i) (fun s => f_X5_bridges_X87 fu x s.1 s.2.2)
    (fun i p => fi k ≤ i ∧ p.1 = fdA (sBri se fi la sh k) 0 (fi k) i ∧ (p.2.2, p.2.1) = fdA (sLon se fi la sh k) (0, 0) (fi k) i ∧ (0 ≤ p.2.1 ∧ p.2.1 ≤ i ∧ 0 ≤ p.2.2 ∧ p.2.2 ≤ i)) (la k + 1)
    (fun q s hI => by
      show f_X5_bridges_L16_b fu st k _ _ s.1 s.2.1 s.2.2 (la k + 1) = _
      unfold f_X5_bridges_L16_b
      rw [m_p2 hR hk hk2 n1, jb_s, jck_of (by omega) (by omega) (by omega) (by omega), if_pos (by omega)])
    (fun q s i hi hI => by
      obtain ⟨i1, i2, i3, i4⟩ := hI
      have := hol_01 se fi la sh k i
      by_cases c : hol se fi la sh k i = 0
      · refine ⟨(s.1 + 1, s.2.1 + 1, jmax s.2.2 (s.2.1 + 1)), ?_, by omega, ?_, ?_, ?_⟩
        · show f_X5_bridges_L16_b fu st k _ _ s.1 s.2.1 s.2.2 i = _
          unfold f_X5_bridges_L16_b f_X5_bridges_J45 f_X5_bridges_J63 jmax
          rw [m_p2 hR hk hk2 n1, jb_s, jck_of (by omega) (by omega) (by omega) (by omega), if_neg (by omega), m_isHole hR hN hE hk hk2 i1 (by omega), jb_s, jb_s, jck_of (by omega) (by omega) (by omega) (by omega), if_pos c, jck_of (by omega) (by omega) (by omega) (by omega), if_pos c, jck_of (by omega) (by omega) (by omega) (by omega)]
          by_cases d : s.2.1 + 1 ≤ s.2.2
          · rw [if_pos d, if_neg (by omega)]
          · rw [if_neg d, if_pos (by omega)]
        · show s.1 + 1 = _
          rw [fdA_s _ _ i1, ← i2]; unfold sBri; rw [if_pos c]
        · show (jmax s.2.2 (s.2.1 + 1), s.2.1 + 1) = _
          rw [fdA_s _ _ i1, ← i3]; unfold sLon; rw [if_pos c]
        · have := jmax_or (a := s.2.2) (b := s.2.1 + 1)
          have := jmax_l (a := s.2.2) (b := s.2.1 + 1)
          exact ⟨by show 0 ≤ s.2.1 + 1; omega, by show s.2.1 + 1 ≤ _; omega, by show 0 ≤ jmax _ _; omega, by show jmax _ _ ≤ _; omega⟩
      · refine ⟨(s.1, 0, jmax s.2.2 0), ?_, by omega, ?_, ?_, ?_⟩
        · show f_X5_bridges_L16_b fu st k _ _ s.1 s.2.1 s.2.2 i = _
          unfold f_X5_bridges_L16_b f_X5_bridges_J45 f_X5_bridges_J63 jmax
          rw [m_p2 hR hk hk2 n1, jb_s, jck_of (by omega) (by omega) (by omega) (by omega), if_neg (by omega), m_isHole hR hN hE hk hk2 i1 (by omega), jb_s, jck_of (by omega) (by omega) (by omega) (by omega), if_neg c, jb_s, jck_of (by omega) (by omega) (by omega) (by omega), if_neg c, jck_of (by omega) (by omega) (by omega) (by omega), Int.add_zero]
          by_cases d : (0 : Int) ≤ s.2.2
          · rw [if_pos d, if_neg (by omega)]
          · rw [if_neg d, if_pos (by omega)]
        · show s.1 = _
          rw [fdA_s _ _ i1, ← i2]; unfold sBri; rw [if_neg c]
        · show (jmax s.2.2 0, (0 : Int)) = _
          rw [fdA_s _ _ i1, ← i3]; unfold sLon; rw [if_neg c]
        · have := jmax_or (a := s.2.2) (b := 0)
          have := jmax_l (a := s.2.2) (b := 0)
          exact ⟨by show (0 : Int) ≤ 0; omega, by show (0 : Int) ≤ _; omega, by show 0 ≤ jmax _ _; omega, by show jmax _ _ ≤ _; omega⟩)
    (la k + 1 - fi k).toNat fu (0, 0, 0) (fi k) (by omega) (by omega) ⟨by omega, by rw [fdA_0], by rw [fdA_0], by show (0:Int) ≤ 0; omega, by show (0:Int) ≤ _; omega, by show (0:Int) ≤ 0; omega, by show (0:Int) ≤ _; omega⟩
  refine e.trans ?_
  unfold f_X5_bridges_X87
  rw [← i2, ← i3, jck_of (by omega) (by omega) (by omega) (by omega)]
  split <;> rfl
theorem m_tracksAt {s0 : Int} (hR : RLm st se tr fi la sh ac no) (hN : NT tr fi la sh no) (h1 : -2147483648 ≤ s0) (h2 : s0 < 2147483648) (hf : 100 ≤ fu) :
    f_X5_tracksAt fu st s0 = some (fdA (sTrk tr fi la s0) 0 0 no) := by
  have n0 := hN.1
  have n1 := hN.2.1
  unfold f_X5_tracksAt
  obtain ⟨p, e, i1, rfl, -⟩ := loop_upI (L := fun q (s : Int) i => f_X5_tracksAt_L4 fu st s0 (f_X5_tracksAt_X54 fu) q s i) (f_X5_tracksAt_X54 fu)
    (fun i p => 0 ≤ i ∧ p = fdA (sTrk tr fi la s0) 0 0 i ∧ rg p) no
    (fun q s hI => by
      show f_X5_tracksAt_L4_b fu st s0 _ _ s no = _
      unfold f_X5_tracksAt_L4_b
      rw [hR.n4, jix_of (by omega) (by omega), jck_of (by omega) (by omega) (by omega) (by omega), if_pos (by omega)])
    (fun q s i hi hI => by
      obtain ⟨i1, i2, i3⟩ := hI
      obtain ⟨a1, a2, a3, a4, a5, -, -⟩ := hN.2.2 i i1 hi
      refine ⟨fdA (sTrk tr fi la s0) 0 0 (i + 1), ?_, by omega, rfl, ?_⟩
      · show f_X5_tracksAt_L4_b fu st s0 _ _ s i = _
        unfold f_X5_tracksAt_L4_b
        rw [hR.n4, jix_of (by omega) (by omega), jck_of (by omega) (by omega) (by omega) (by omega), if_neg (by omega), m_p1 hR i1 hi n1, jb_s, m_p2 hR i1 hi n1, jb_s, m_p0 hR i1 hi n1, jb_s, fdA_s _ _ i1, ← i2]
        unfold sTrk
        by_cases c : fi i ≤ s0 ∧ s0 ≤ la i
        · rw [m_in_t (by omega) (by omega) (by omega) (by omega), jb_s, jck_of (by omega) (by omega) (by omega) (by omega), if_neg (by omega), if_pos c]
        · rw [m_in_f (by omega) (by omega) (by omega) (by omega) (by omega) (by omega) (by omega), jb_s, jck_of (by omega) (by omega) (by omega) (by omega), if_pos (by omega), if_neg c, jor_0 i3]
      · rw [fdA_s _ _ i1, ← i2]
        unfold sTrk
        by_cases c : fi i ≤ s0 ∧ s0 ≤ la i
        · rw [if_pos c]; exact rg_jor _ _
        · rw [if_neg c]; exact i3)
    no.toNat fu 0 0 (by omega) (by omega) ⟨by omega, by rw [fdA_0], rg_0⟩
  exact e
theorem m_notesIn {t a b : Int} (hR : RLm st se tr fi la sh ac no) (hN : NT tr fi la sh no) (ht : -2147483648 ≤ t) (ht2 : t < 2147483648) (ha : -2147483648 ≤ a) (ha2 : a < 2147483648) (hb : -2147483648 ≤ b) (hb2 : b < 2147483648) (hf : 100 ≤ fu) :
    f_X5_notesIn fu st t a b = some (fdA (sTou tr fi la t a b) 0 0 no) := by
  have n0 := hN.1
  have n1 := hN.2.1
  unfold f_X5_notesIn
  obtain ⟨p, e, i1, rfl⟩ := loop_upI (L := fun q (s : Int) i => f_X5_notesIn_L6 fu st t a b (f_X5_notesIn_X66 fu) q s i) (f_X5_notesIn_X66 fu)
    (fun i p => 0 ≤ i ∧ p = fdA (sTou tr fi la t a b) 0 0 i) no
    (fun q s hI => by
      show f_X5_notesIn_L6_b fu st t a b _ _ s no = _
      unfold f_X5_notesIn_L6_b
      rw [hR.n4, jix_of (by omega) (by omega), jck_of (by omega) (by omega) (by omega) (by omega), if_pos (by omega)])
    (fun q s i hi hI => by
      obtain ⟨i1, rfl⟩ := hI
      obtain ⟨a1, a2, a3, a4, a5, -, -⟩ := hN.2.2 i i1 hi
      refine ⟨_, ?_, by omega, rfl⟩
      show f_X5_notesIn_L6_b fu st t a b _ _ _ i = _
      unfold f_X5_notesIn_L6_b
      rw [hR.n4, jix_of (by omega) (by omega), jck_of (by omega) (by omega) (by omega) (by omega), if_neg (by omega), m_p0 hR i1 hi n1, jb_s, m_p1 hR i1 hi n1, jb_s, m_p2 hR i1 hi n1, jb_s, fdA_s _ _ i1]
      simp (disch := omega) only [jck_of]
      unfold sTou
      by_cases c1 : tr i = t
      · by_cases c2 : b < fi i
        · rw [if_neg (by omega), if_pos c2, if_neg (by omega), Int.add_zero]
        · by_cases c3 : la i < a
          · rw [if_neg (by omega), if_neg c2, if_pos c3, if_neg (by omega), Int.add_zero]
          · rw [if_neg (by omega), if_neg c2, if_neg c3, if_pos (by omega)]
      · rw [if_pos c1, if_neg (by omega), Int.add_zero])
    no.toNat fu 0 0 (by omega) (by omega) ⟨by omega, by rw [fdA_0]⟩
  exact e
end Q49
