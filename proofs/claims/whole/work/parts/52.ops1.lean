/-! the operations that only tell -/
def DJ (tr fi la : Int → Int) (no : Int) : Prop := ∀ j k, 0 ≤ j → j < k → k < no → tr j = tr k → la j < fi k
def RSt (st se tr fi la sh ac : Int → Int) (no : Int) : Prop := RLm st se tr fi la sh ac no ∧ NT tr fi la sh no ∧ SE se ∧ AC ac ∧ SO tr fi no ∧ DJ tr fi la no
theorem rg_lo {a : Int} (h : rg a) : -2147483648 ≤ a := h.1
theorem rg_hi {a : Int} (h : rg a) : a < 2147483648 := h.2
theorem EH_congr {f g : Int → Int} {h : Int} (e : E1 f g) : E1 (EHs f h) (EHs g h) := by
  intro s h1 h2
  unfold EHs
  have m := jmax_l (a := 0) (b := s - h)
  refine fdA_congr (fun j v j1 j2 => ?_)
  show jor v (f j) = jor v (g j)
  rw [e j (by omega) (by omega)]
def sSw (EH tr fi : Int → Int) (t : Int) (i m : Int) : Int := if tr i = t ∧ 0 < fi i ∧ jand (jshr (EH (fi i - 1)) t) 1 = 1 then m + 1 else m
section Q52
variable {fu : Nat} {st se tr fi la sh ac p_eh p_hf ho eh : Int → Int} {no p_we d_le g_si : Int}
theorem op_of {x1 x2 : Int} (hS : RSt st se tr fi la sh ac no) (h1 : rg x1) (h2 : rg x2) (hf : 500 ≤ fu) :
    ∃ r eh' we' hf' ho'' eh'', f_X4_of fu se tr fi la sh ac no p_eh p_we p_hf x1 x2 = some (r, eh', we', hf') ∧ f_X5_of fu ho eh st x1 x2 = some (r, ho'', eh'') := by
  obtain ⟨hR, hN, hE, hA, hO, hD⟩ := hS
  have n0 := hN.1
  have n1 := hN.2.1
  have a1 := h1.1
  have a2 := h1.2
  have b1 := h2.1
  have b2 := h2.2
  unfold f_X4_of f_X5_of
  by_cases c : 0 ≤ x1 ∧ x1 < no
  · obtain ⟨c1, c2⟩ := c
    rw [q_has_t c1 c2 n1, jb_s, m_isNote_t hR c1 c2 n1, jb_s, jck_of (by omega) (by omega) (by omega) (by omega), if_pos (by omega), jck_of (by omega) (by omega) (by omega) (by omega), jck_of (by omega) (by omega) (by omega) (by omega), if_pos (show (1 : Int) ≠ 0 by omega), jck_of (by omega) (by omega) (by omega) (by omega)]
    by_cases d0 : x2 = 0
    · subst d0
      rw [if_pos rfl, if_pos rfl, q_trackOf c1 c2 n1, m_p0 hR c1 c2 n1]
      exact ⟨_, _, _, _, _, _, rfl, rfl⟩
    rw [if_neg d0, if_neg d0]
    by_cases d1 : x2 = 1
    · subst d1
      rw [if_pos rfl, if_pos rfl, q_firstOf c1 c2 n1, m_p1 hR c1 c2 n1]
      exact ⟨_, _, _, _, _, _, rfl, rfl⟩
    rw [if_neg d1, if_neg d1]
    by_cases d2 : x2 = 2
    · subst d2
      rw [if_pos rfl, if_pos rfl, q_lastOf c1 c2 n1, m_p2 hR c1 c2 n1]
      exact ⟨_, _, _, _, _, _, rfl, rfl⟩
    rw [if_neg d2, if_neg d2]
    by_cases d3 : x2 = 3
    · subst d3
      rw [if_pos rfl, if_pos rfl, q_shiftOf c1 c2 n1, m_p3 hR c1 c2 n1]
      exact ⟨_, _, _, _, _, _, rfl, rfl⟩
    rw [if_neg d3, if_neg d3]
    by_cases d4 : x2 = 4
    · subst d4
      rw [if_pos rfl, if_pos rfl, q_hasAccent hA c1 c2 n1, jb_s, q_asNumber (hA x1 c1 (by omega)), m_p4 hR c1 c2 n1]
      exact ⟨_, _, _, _, _, _, rfl, rfl⟩
    rw [if_neg d4, if_neg d4]
    by_cases d5 : x2 = 5
    · subst d5
      rw [if_pos rfl, if_pos rfl, q_bridges hN hE c1 c2 (by omega), m_bridges hR hN hE c1 c2 (Or.inl rfl) (by omega)]
      exact ⟨_, _, _, _, _, _, rfl, rfl⟩
    rw [if_neg d5, if_neg d5]
    by_cases d6 : x2 = 6
    · subst d6
      rw [if_pos rfl, if_pos rfl, q_longest hN hE c1 c2 (by omega), m_bridges hR hN hE c1 c2 (Or.inr rfl) (by omega)]
      exact ⟨_, _, _, _, _, _, rfl, rfl⟩
    rw [if_neg d6, if_neg d6]
    by_cases d7 : x2 = 7
    · subst d7
      rw [if_pos rfl, if_pos rfl]
      obtain ⟨e1, o1, e, g1, g2⟩ := q_perforate (fu := fu) (eh := p_eh) (ho := p_hf) (we := p_we) hN hE hA (by omega)
      obtain ⟨o2, e2, e', g3, g4⟩ := m_findHeard (fu := fu) (ho := ho) (eh := eh) hR hN hE hA (by omega)
      obtain ⟨t1, t2, t3, t4, t5, -, -⟩ := hN.2.2 x1 c1 c2
      have w1 : whO e1 tr fi la x1 = 0 ∨ whO e1 tr fi la x1 = 1 := whO_01 _ _ (by omega)
      have w2 : whO e2 tr fi la x1 = whO e1 tr fi la x1 := E1_whO (g4.tr g2.sy) t3 t5
      rw [e, jb3_s, q_isHeardWhole hN c1 c2 (by omega), jb_s, q_asNumber w1, jb_s, e', jb2_s, m_isWholeHeard hR hN c1 c2 (by omega), jb_s, w2, jck_of (by omega) (by omega) (by omega) (by omega)]
      rcases w1 with w | w
      · rw [w, if_pos rfl]; exact ⟨_, _, _, _, _, _, rfl, rfl⟩
      · rw [w, if_neg (by omega)]; exact ⟨_, _, _, _, _, _, rfl, rfl⟩
    rw [if_neg d7, if_neg d7]
    exact ⟨_, _, _, _, _, _, rfl, rfl⟩
  · rw [q_has_f (by omega) n0 n1 a1 a2, jb_s, m_isNote_f hR (by omega) n0 n1 a1 a2, jb_s, jck_of (by omega) (by omega) (by omega) (by omega), if_neg (by omega), jck_of (by omega) (by omega) (by omega) (by omega), if_neg (by omega)]
    exact ⟨_, _, _, _, _, _, rfl, rfl⟩
theorem op_at {x1 x2 : Int} (hS : RSt st se tr fi la sh ac no) (h1 : rg x1) (h2 : rg x2) (hf : 500 ≤ fu) :
    ∃ r eh' we' hf' ho'' eh'', f_X4_at fu se tr fi la sh ac no p_eh p_we p_hf x1 x2 = some (r, eh', we', hf') ∧ f_X5_at fu ho eh st x1 x2 = some (r, ho'', eh'') := by
  obtain ⟨hR, hN, hE, hA, hO, hD⟩ := hS
  have n0 := hN.1
  have n1 := hN.2.1
  have a1 := h1.1
  have a2 := h1.2
  have b1 := h2.1
  have b2 := h2.2
  unfold f_X4_at f_X5_at
  by_cases c : 0 ≤ x1 ∧ x1 < 100
  · obtain ⟨c1, c2⟩ := c
    obtain ⟨e1, o1, e, g1, g2⟩ := q_perforate (fu := fu) (eh := p_eh) (ho := p_hf) (we := p_we) hN hE hA (by omega)
    obtain ⟨o2, e2, e', g3, g4⟩ := m_findHeard (fu := fu) (ho := ho) (eh := eh) hR hN hE hA (by omega)
    have x1e := (g4.tr g2.sy) x1 c1 c2
    have x1o := (g3.tr g1.sy) x1 c1 c2
    rw [q_isStep_t c1 c2, jb_s, m_isStep_t c1 c2, jb_s, jck_of (by omega) (by omega) (by omega) (by omega), if_pos (by omega), e, jb3_s, jck_of (by omega) (by omega) (by omega) (by omega), jck_of (by omega) (by omega) (by omega) (by omega), if_pos (show (1 : Int) ≠ 0 by omega), e', jb2_s, jck_of (by omega) (by omega) (by omega) (by omega)]
    by_cases d0 : x2 = 0
    · subst d0
      rw [if_pos rfl, if_pos rfl, q_holesAt c1 c2, jix_of c1 c2, x1o]
      exact ⟨_, _, _, _, _, _, rfl, rfl⟩
    rw [if_neg d0, if_neg d0]
    by_cases d1 : x2 = 1
    · subst d1
      rw [if_pos rfl, if_pos rfl, q_heardAt c1 c2, jix_of c1 c2, x1e]
      exact ⟨_, _, _, _, _, _, rfl, rfl⟩
    rw [if_neg d1, if_neg d1]
    by_cases d2 : x2 = 2
    · subst d2
      rw [if_pos rfl, if_pos rfl, q_tracksAt hN (by omega) (by omega) (by omega), m_tracksAt hR hN (by omega) (by omega) (by omega)]
      exact ⟨_, _, _, _, _, _, rfl, rfl⟩
    rw [if_neg d2, if_neg d2]
    by_cases d3 : x2 = 3
    · subst d3
      rw [if_pos rfl, if_pos rfl, q_sideBySide c1 c2 (by omega), jix_of c1 c2, m_sideBySide (by omega), x1o]
      exact ⟨_, _, _, _, _, _, rfl, rfl⟩
    rw [if_neg d3, if_neg d3]
    by_cases d4 : x2 = 4
    · subst d4
      rw [if_pos rfl, if_pos rfl, q_isWeak c1 c2 (by have := hE.2.2.2.2.2.2; omega) hE.2.2.2.2.2.2.2 (by omega), jb_s, q_asNumber (by split <;> omega), m_isWeak hR hE c1 c2 (by omega), x1o, jb_s, jb_s]
      by_cases g : se 3 ≤ sbs (o1 x1)
      · rw [if_pos g, jck_of (by omega) (by omega) (by omega) (by omega), if_neg (by omega)]; exact ⟨_, _, _, _, _, _, rfl, rfl⟩
      · rw [if_neg g, jck_of (by omega) (by omega) (by omega) (by omega), if_pos (by omega)]; exact ⟨_, _, _, _, _, _, rfl, rfl⟩
    rw [if_neg d4, if_neg d4]
    exact ⟨_, _, _, _, _, _, rfl, rfl⟩
  · rw [q_isStep_f (by omega) a1 a2, jb_s, m_isStep_f (by omega) a1 a2, jb_s, jck_of (by omega) (by omega) (by omega) (by omega), if_neg (by omega), jck_of (by omega) (by omega) (by omega) (by omega), if_neg (by omega)]
    exact ⟨_, _, _, _, _, _, rfl, rfl⟩
theorem start_cg {f g : Int → Int} (h : E1 f g) {t r : Int} (h1 : 0 ≤ r) (h2 : r < 100) (a : (jand (jshr (f r) t) 1 = 1 ∧ (r = 0 ∨ ¬ jand (jshr (f (r - 1)) t) 1 = 1))) : (jand (jshr (g r) t) 1 = 1 ∧ (r = 0 ∨ ¬ jand (jshr (g (r - 1)) t) 1 = 1)) := by
  rw [E1_st h h1 h2] at a; exact a
theorem op_sound {x1 x2 x3 : Int} (hS : RSt st se tr fi la sh ac no) (h1 : rg x1) (h2 : rg x2) (h3 : rg x3) (hf : 500 ≤ fu) :
    ∃ r eh' we' hf' ho'' eh'', f_X4_sound fu se tr fi la sh ac no p_eh p_we p_hf x1 x2 x3 = some (r, eh', we', hf') ∧ f_X5_sound fu ho eh st x1 x2 x3 = some (r, ho'', eh'') := by
  obtain ⟨hR, hN, hE, hA, hO, hD⟩ := hS
  have n0 := hN.1
  have n1 := hN.2.1
  have a1 := h1.1
  have a2 := h1.2
  have b1 := h2.1
  have b2 := h2.2
  have c1 := h3.1
  have c2 := h3.2
  unfold f_X4_sound f_X5_sound
  by_cases c : 0 ≤ x1 ∧ x1 < 12
  · obtain ⟨t1, t2⟩ := c
    obtain ⟨e1, o1, e, g1, g2⟩ := q_perforate (fu := fu) (eh := p_eh) (ho := p_hf) (we := p_we) hN hE hA (by omega)
    obtain ⟨o2, e2, e', g3, g4⟩ := m_findHeard (fu := fu) (ho := ho) (eh := eh) hR hN hE hA (by omega)
    have hEE : E1 e2 e1 := g4.tr g2.sy
    obtain ⟨r, er, hr⟩ := q_soundStart (fu := fu) (eh := e1) (t := x1) (x := x2) t1 t2 b1 b2 (by omega)
    rw [q_isTrack_t t1 t2, jb_s, m_isTrack_t t1 t2, jb_s, jck_of (by omega) (by omega) (by omega) (by omega), if_pos (by omega), e, jb3_s, er, jb_s, jck_of (by omega) (by omega) (by omega) (by omega), jck_of (by omega) (by omega) (by omega) (by omega), if_neg (show ¬ (1 : Int) = 0 by omega), jck_of (by omega) (by omega) (by omega) (by omega)]
    by_cases d : 0 ≤ x2
    · obtain ⟨r', er', hr'⟩ := m_beginOf (fu := fu) (eh := e2) (t := x1) (x := x2) d b2 (by omega)
      rw [if_pos d, e', jb2_s, er', jb_s, jck_of (by omega) (by omega) (by omega) (by omega)]
      rcases hr with ⟨j1, j2⟩ | ⟨j1, j2, j3, j4⟩
      · have : r' = -6 := by
          rcases hr' with ⟨k1, k2⟩ | ⟨k1, k2, k3, k4⟩
          · exact k1
          · exact absurd (by rw [← E1_stN hEE (by omega)]; exact k4) (j2 r' k1 k2 (start_cg hEE k1 k2 k3))
        rw [if_neg (by omega), if_neg (by omega)]
        exact ⟨_, _, _, _, _, _, rfl, rfl⟩
      · rcases hr' with ⟨k1, k2⟩ | ⟨k1, k2, k3, k4⟩
        · exact absurd (by rw [E1_stN hEE (by omega)]; exact j4) (k2 r j1 j2 (start_cg hEE.sy j1 j2 j3))
        · have hrr : r' = r := start_one (eh := e1) (t := x1) (x := x2) ⟨k1, k2, start_cg hEE k1 k2 k3, by rw [← E1_stN hEE (by omega)]; exact k4⟩ ⟨j1, j2, j3, j4⟩
          subst hrr
          obtain ⟨s, es, hs⟩ := q_soundEnd (fu := fu) (eh := e1) (t := x1) (a := r') t1 t2 j1 j2 j3.1 (by omega)
          obtain ⟨s', es', hs'⟩ := m_endOf (fu := fu) (eh := e2) (t := x1) (a := r') j1 j2 k3.1 (by omega)
          have hss : s' = s := by
            refine end_one (eh := e1) (t := x1) (a := r') ⟨hs'.1, hs'.2.1, fun q q1 q2 => ?_, ?_⟩ hs
            · rw [← E1_bit hEE (by omega) (by omega)]; exact hs'.2.2.1 q q1 q2
            · by_cases y : s' = 99
              · exact Or.inl y
              · right
                have := hs'.2.1
                have := hs'.1
                rw [← E1_bit hEE (by omega) (by omega)]
                exact hs'.2.2.2.resolve_left y
          subst hss
          have z1 := hs.1
          have z2 := hs.2.1
          rw [if_pos j1, if_pos (by omega), es, jb_s, es', jb_s, jck_of (by omega) (by omega) (by omega) (by omega), jck_of (by omega) (by omega) (by omega) (by omega)]
          by_cases y0 : x3 = 0
          · rw [if_pos y0, if_neg (by omega)]
            exact ⟨_, _, _, _, _, _, rfl, rfl⟩
          rw [if_neg y0, if_pos y0, jck_of (by omega) (by omega) (by omega) (by omega)]
          by_cases y1 : x3 = 1
          · rw [if_pos y1, if_neg (by omega)]
            exact ⟨_, _, _, _, _, _, rfl, rfl⟩
          rw [if_neg y1, if_pos y1, jck_of (by omega) (by omega) (by omega) (by omega)]
          by_cases y2 : x3 = 2
          · rw [if_pos y2, if_neg (by omega), q_touching hN (by omega) (by omega) (by omega) (by omega) (by omega) (by omega) (by omega), m_notesIn hR hN (by omega) (by omega) (by omega) (by omega) (by omega) (by omega) (by omega)]
            exact ⟨_, _, _, _, _, _, rfl, rfl⟩
          rw [if_neg y2, if_pos y2]
          exact ⟨_, _, _, _, _, _, rfl, rfl⟩
    · have : r = -1 := by
        rcases hr with ⟨j1, j2⟩ | ⟨j1, j2, j3, j4⟩
        · exact j1
        · have := stN_in e1 x1 j1
          omega
      rw [if_neg d, if_neg (by omega)]
      exact ⟨_, _, _, _, _, _, rfl, rfl⟩
  · rw [q_isTrack_f (by omega) a1 a2, jb_s, m_isTrack_f (by omega) a1 a2, jb_s, jck_of (by omega) (by omega) (by omega) (by omega), if_neg (by omega), jck_of (by omega) (by omega) (by omega) (by omega), if_pos (by omega)]
    exact ⟨_, _, _, _, _, _, rfl, rfl⟩
theorem q_none {x : Int} (h1 : -2147483648 ≤ x) (h2 : x < 2147483648) : f_X4_noneIfMissing fu x = some (if 0 ≤ x then x else -6) := by
  unfold f_X4_noneIfMissing
  rw [jck_of h1 h2 (by omega) (by omega)]
  by_cases c : 0 ≤ x
  · rw [if_pos c, if_pos c]
  · rw [if_neg c, if_neg c]
theorem op_count {x1 : Int} (hS : RSt st se tr fi la sh ac no) (h1 : rg x1) (hf : 500 ≤ fu) :
    ∃ r eh' we' hf' ho'' eh'', f_X4_count fu se tr fi la sh ac no p_eh p_we p_hf d_le g_si x1 = some (r, eh', we', hf') ∧ f_X5_count fu g_si d_le ho eh st x1 = some (r, ho'', eh'') := by
  obtain ⟨hR, hN, hE, hA, hO, hD⟩ := hS
  have n0 := hN.1
  have n1 := hN.2.1
  have a1 := h1.1
  have a2 := h1.2
  unfold f_X4_count f_X5_count
  obtain ⟨e1, o1, e, g1, g2⟩ := q_perforate (fu := fu) (eh := p_eh) (ho := p_hf) (we := p_we) hN hE hA (by omega)
  have w1 : 0 ≤ se 3 := by have := hE.2.2.2.2.2.2; omega
  have w2 := hE.2.2.2.2.2.2.2
  rw [e, jb3_s, jck_of (by omega) (by omega) (by omega) (by omega), jck_of (by omega) (by omega) (by omega) (by omega)]
  by_cases d0 : x1 = 0
  · rw [if_pos d0, if_pos d0, jix_of (by omega) (by omega), hR.n4]
    exact ⟨_, _, _, _, _, _, rfl, rfl⟩
  rw [if_neg d0, if_neg d0]
  by_cases d1 : x1 = 1
  · obtain ⟨o2, e2⟩ := m_allHoles (fu := fu) (ho := ho) hR hN hE hA (by omega)
    rw [if_pos d1, if_pos d1, q_allHoles (fun s s1 s2 => by rw [g1 s s1 s2]; exact HO_ST hN s) (by omega), jb_s, e2, jb2_s, E1_hol g1]
    exact ⟨_, _, _, _, _, _, rfl, rfl⟩
  rw [if_neg d1, if_neg d1]
  by_cases d2 : x1 = 2
  · obtain ⟨o2, e2⟩ := m_weakMany (fu := fu) (ho := ho) hR hN hE hA (by omega)
    rw [if_pos d2, if_pos d2, q_weakSteps w1 w2 (by omega), jb_s, e2, jb2_s, wkN_congr g1]
    exact ⟨_, _, _, _, _, _, rfl, rfl⟩
  rw [if_neg d2, if_neg d2]
  by_cases d3 : x1 = 3
  · obtain ⟨o2, r2, e2, hr2⟩ := m_firstWeak (fu := fu) (ho := ho) hR hN hE hA (by omega)
    obtain ⟨r, er, hr⟩ := q_firstWeak (fu := fu) (g := o1) (we := se 3) w1 w2 (by omega)
    have hrr : (if 0 ≤ r then r else -6) = r2 := by
      rcases hr with ⟨j1, j2⟩ | ⟨j1, j2, j3, j4⟩
      · rcases hr2 with ⟨k1, k2⟩ | ⟨k1, k2, k3, k4⟩
        · rw [if_neg (by omega), k1]
        · exact absurd (by rw [g1 r2 k1 k2]; exact k3) (j2 r2 k1 k2)
      · rcases hr2 with ⟨k1, k2⟩ | ⟨k1, k2, k3, k4⟩
        · exact absurd (by rw [← g1 r j1 j2]; exact j3) (k2 r j1 j2)
        · rw [if_pos j1]
          rcases Int.lt_trichotomy r r2 with h | h | h
          · exact absurd (by rw [← g1 r j1 j2]; exact j3) (k4 r j1 h)
          · exact h
          · exact absurd (by rw [g1 r2 k1 k2]; exact k3) (j4 r2 k1 h)
    rw [if_pos d3, if_pos d3, er, jb_s, q_none (by omega) (by omega), jb_s, e2, jb2_s, hrr]
    exact ⟨_, _, _, _, _, _, rfl, rfl⟩
  rw [if_neg d3, if_neg d3]
  by_cases d4 : x1 = 4
  · obtain ⟨o2, u2, e2⟩ := m_soundsMany (fu := fu) (ho := ho) (eh := eh) hR hN hE hA (by omega)
    rw [if_pos d4, if_pos d4, q_allSounds (by omega), jb_s, e2, jb3_s, E1_snd g2]
    exact ⟨_, _, _, _, _, _, rfl, rfl⟩
  rw [if_neg d4, if_neg d4]
  by_cases d5 : x1 = 5
  · obtain ⟨o2, u2, e2⟩ := m_withGap (fu := fu) (ho := ho) (eh := eh) hR hN hE hA (by omega)
    rw [if_pos d5, if_pos d5, q_notesWithGap hN (by omega), jb_s, e2, jb3_s, E1_gap hN g2]
    exact ⟨_, _, _, _, _, _, rfl, rfl⟩
  rw [if_neg d5, if_neg d5]
  by_cases d6 : x1 = 6
  · obtain ⟨r, er, r1, r2, r3, r4⟩ := q_greatestLast (fu := fu) hN (by omega)
    obtain ⟨r', er', s1, s2⟩ := m_greatestLast (fu := fu) hR hN (by omega)
    have hrr : (if 0 ≤ r then r else -6) = r' := by
      rcases r4 with j | ⟨k, k1, k2, k3⟩
      · rcases s2 with j' | ⟨k', k1', k2', k3'⟩
        · rw [if_neg (by omega), j']
        · have := r3 k' k1' k2'
          have := hN.2.2 k' k1' k2'
          omega
      · have := s1 k k1 k2
        have := hN.2.2 k k1 k2
        rcases s2 with j' | ⟨k', k1', k2', k3'⟩
        · omega
        · have := r3 k' k1' k2'
          rw [if_pos (by omega)]; omega
    rw [if_pos d6, if_pos d6, er, jb_s, q_none (by omega) (by omega), jb_s, er', jb_s, hrr]
    exact ⟨_, _, _, _, _, _, rfl, rfl⟩
  rw [if_neg d6, if_neg d6]
  by_cases d7 : x1 = 7
  · subst d7
    rw [if_pos rfl, if_pos rfl, q_settingOf (by omega) (by omega), jb_s, jix_of (by omega) (by omega), show (7 : Int) - 7 = 0 from rfl, hR.s0]
    exact ⟨_, _, _, _, _, _, rfl, rfl⟩
  rw [if_neg d7, if_neg d7]
  by_cases d8 : x1 = 8
  · subst d8
    rw [if_pos rfl, if_pos rfl, q_settingOf (by omega) (by omega), jb_s, jix_of (by omega) (by omega), show (8 : Int) - 7 = 1 from rfl, hR.s1]
    exact ⟨_, _, _, _, _, _, rfl, rfl⟩
  rw [if_neg d8, if_neg d8]
  by_cases d9 : x1 = 9
  · subst d9
    rw [if_pos rfl, if_pos rfl, q_settingOf (by omega) (by omega), jb_s, jix_of (by omega) (by omega), show (9 : Int) - 7 = 2 from rfl, hR.s2]
    exact ⟨_, _, _, _, _, _, rfl, rfl⟩
  rw [if_neg d9, if_neg d9]
  by_cases d10 : x1 = 10
  · subst d10
    rw [if_pos rfl, if_pos rfl, q_settingOf (by omega) (by omega), jb_s, jix_of (by omega) (by omega), show (10 : Int) - 7 = 3 from rfl, hR.s3]
    exact ⟨_, _, _, _, _, _, rfl, rfl⟩
  rw [if_neg d10, if_neg d10]
  by_cases d11 : x1 = 11
  · rw [if_pos d11, if_pos d11]
    exact ⟨_, _, _, _, _, _, rfl, rfl⟩
  rw [if_neg d11, if_neg d11]
  by_cases d12 : x1 = 12
  · rw [if_pos d12, if_pos d12]
    exact ⟨_, _, _, _, _, _, rfl, rfl⟩
  rw [if_neg d12, if_neg d12]
  exact ⟨_, _, _, _, _, _, rfl, rfl⟩
theorem op_swallowed {x1 : Int} (hS : RSt st se tr fi la sh ac no) (h1 : rg x1) (hf : 500 ≤ fu) :
    ∃ r eh' we' hf' ho'' eh'', f_X4_swallowed fu se tr fi la sh ac no p_eh p_we p_hf x1 = some (r, eh', we', hf') ∧ f_X5_swallowed fu ho eh st x1 = some (r, ho'', eh'') := by
  obtain ⟨hR, hN, hE, hA, hO, hD⟩ := hS
  have n0 := hN.1
  have n1 := hN.2.1
  have a1 := h1.1
  have a2 := h1.2
  unfold f_X4_swallowed f_X5_swallowed
  by_cases c : 0 ≤ x1 ∧ x1 < 12
  · obtain ⟨t1, t2⟩ := c
    obtain ⟨e1, o1, e, g1, g2⟩ := q_perforate (fu := fu) (eh := p_eh) (ho := p_hf) (we := p_we) hN hE hA (by omega)
    obtain ⟨o2, e2, e', g3, g4⟩ := m_findHeard (fu := fu) (ho := ho) (eh := eh) hR hN hE hA (by omega)
    have hEE : E1 e2 e1 := g4.tr g2.sy
    have s1 : 0 ≤ se 2 := hE.2.2.2.2.1
    rw [q_isTrack_t t1 t2, jb_s, m_isTrack_t t1 t2, jb_s, jck_of (by omega) (by omega) (by omega) (by omega), if_pos (by omega), e, jb3_s, jck_of (by omega) (by omega) (by omega) (by omega), if_pos (by omega), e', jb2_s]
    obtain ⟨p, ep, i1, i2⟩ := loop_upI (L := fun q (s : Int) i => f_X4_swallowed_L24 fu tr fi no x1 e1 (f_X4_swallowed_X77 fu e1 (se 3) o1) q s i) (f_X4_swallowed_X77 fu e1 (se 3) o1)
      (fun i p => 0 ≤ i ∧ p = fdA (sSw e1 tr fi x1) 0 0 i) no
      (fun q s hI => by
        show f_X4_swallowed_L24_b fu tr fi no x1 e1 _ _ s no = _
        unfold f_X4_swallowed_L24_b
        rw [q_size, jb_s, jck_of (by omega) (by omega) (by omega) (by omega), if_pos (by omega)])
      (fun q s i hi hI => by
        obtain ⟨i1, i2⟩ := hI
        obtain ⟨k1, k2, k3, k4, k5, -, -⟩ := hN.2.2 i i1 hi
        refine ⟨fdA (sSw e1 tr fi x1) 0 0 (i + 1), ?_, by omega, rfl⟩
        show f_X4_swallowed_L24_b fu tr fi no x1 e1 _ _ s i = _
        unfold f_X4_swallowed_L24_b
        rw [q_size, jb_s, jck_of (by omega) (by omega) (by omega) (by omega), if_neg (by omega), q_trackOf i1 hi n1, jb_s, jck_of (by omega) (by omega) (by omega) (by omega), fdA_s _ _ i1, ← i2]
        unfold sSw
        by_cases d : tr i = x1
        · rw [if_neg (by omega), q_firstOf i1 hi n1, jb_s]
          by_cases f0 : fi i = 0
          · rw [f0, q_isHeard_m1 t1 t2, jb_s, jck_of (by omega) (by omega) (by omega) (by omega), if_pos rfl, if_neg (by omega)]
          · rw [q_isHeard t1 t2 (by omega) (by omega), jb_s]
            by_cases y : jand (jshr (e1 (fi i - 1)) x1) 1 = 1
            · rw [if_pos y, jck_of (by omega) (by omega) (by omega) (by omega), if_neg (by omega), if_pos ⟨d, by omega, y⟩]
            · rw [if_neg y, jck_of (by omega) (by omega) (by omega) (by omega), if_pos (by omega), if_neg (fun h => y h.2.2)]
        · rw [if_pos d, if_neg (by omega)])
      no.toNat fu 0 0 (by omega) (by omega) ⟨by omega, by rw [fdA_0]⟩
    obtain ⟨p', ep', i1', i2'⟩ := loop_upI (L := fun q (s : Int) i => f_X5_swallowed_L17 fu st x1 e2 (f_X5_swallowed_X65 fu o2 e2) q s i) (f_X5_swallowed_X65 fu o2 e2)
      (fun i p => 0 ≤ i ∧ p = fdA (sSw e1 tr fi x1) 0 0 i) no
      (fun q s hI => by
        show f_X5_swallowed_L17_b fu st x1 e2 _ _ s no = _
        unfold f_X5_swallowed_L17_b
        rw [hR.n4, jix_of (by omega) (by omega), jck_of (by omega) (by omega) (by omega) (by omega), if_pos (by omega)])
      (fun q s i hi hI => by
        obtain ⟨i1, i2⟩ := hI
        obtain ⟨k1, k2, k3, k4, k5, -, -⟩ := hN.2.2 i i1 hi
        refine ⟨fdA (sSw e1 tr fi x1) 0 0 (i + 1), ?_, by omega, rfl⟩
        show f_X5_swallowed_L17_b fu st x1 e2 _ _ s i = _
        unfold f_X5_swallowed_L17_b
        rw [hR.n4, jix_of (by omega) (by omega), jck_of (by omega) (by omega) (by omega) (by omega), if_neg (by omega), m_p0 hR i1 hi n1, jb_s, jck_of (by omega) (by omega) (by omega) (by omega), fdA_s _ _ i1, ← i2]
        unfold sSw
        by_cases d : tr i = x1
        · have hb : jand (jshr (e2 (fi i)) x1) 1 = 1 := by
            rw [g4 (fi i) k3 (by omega), ← d]
            exact EH_bit k3 s1 (HO_ST hN) k1 k2 (HO_bit hN i1 hi)
          rw [if_neg (by omega), m_p1 hR i1 hi n1, jb_s, m_begins k3 (by omega), jb_s]
          by_cases f0 : fi i = 0
          · rw [if_pos ⟨hb, Or.inl f0⟩, jck_of (by omega) (by omega) (by omega) (by omega), if_pos (by omega), if_neg (by omega), Int.add_zero]
          · have hx := hEE (fi i - 1) (by omega) (by omega)
            rw [hx]
            by_cases y : jand (jshr (e1 (fi i - 1)) x1) 1 = 1
            · rw [if_neg (fun h => h.2.elim f0 (fun q => q y)), jck_of (by omega) (by omega) (by omega) (by omega), if_neg (by omega), if_pos ⟨d, by omega, y⟩]
            · rw [if_pos ⟨hb, Or.inr y⟩, jck_of (by omega) (by omega) (by omega) (by omega), if_pos (by omega), if_neg (fun h => y h.2.2), Int.add_zero]
        · rw [if_pos d, if_neg (by omega), Int.add_zero])
      no.toNat fu 0 0 (by omega) (by omega) ⟨by omega, by rw [fdA_0]⟩
    rw [i2] at ep
    rw [i2'] at ep'
    exact ⟨_, _, _, _, _, _, ep, ep'⟩
  · rw [q_isTrack_f (by omega) a1 a2, jb_s, m_isTrack_f (by omega) a1 a2, jb_s, jck_of (by omega) (by omega) (by omega) (by omega), if_neg (by omega), jck_of (by omega) (by omega) (by omega) (by omega), if_neg (by omega)]
    exact ⟨_, _, _, _, _, _, rfl, rfl⟩
end Q52
