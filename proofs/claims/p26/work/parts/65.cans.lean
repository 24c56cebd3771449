/-! what our side answers, alone -/
def HS (ol si : Int) : Prop := (0 ≤ si ∧ si ≤ 6) ∧ 0 ≤ ol ∧ ol < 6
theorem hol_ext {se tr fi la sh se' fi' la' sh' : Int → Int} {k s : Int} (h0 : se' 0 = se 0) (h1 : se' 1 = se 1) (h2 : fi' k = fi k) (h3 : la' k = la k) (h4 : sh' k = sh k) : hol se' fi' la' sh' k s = hol se fi la sh k s := by
  unfold hol
  rw [h0, h1, h2, h3, h4]
theorem not_ext {se tr fi la sh ac se' tr' fi' la' sh' ac' : Int → Int} {k : Int} (h0 : se' 0 = se 0) (h1 : se' 1 = se 1) (h2 : fi' k = fi k) (h3 : la' k = la k) (h4 : sh' k = sh k) (h5 : tr' k = tr k) (h6 : ac' k = ac k) (g : Int → Int) : notS se' tr' fi' la' sh' ac' k g = notS se tr fi la sh ac k g := by
  have e : rowS se' tr' fi' la' sh' k = rowS se tr fi la sh k := by
    funext s g
    unfold rowS
    rw [hol_ext (tr := tr) h0 h1 h2 h3 h4, h5]
  unfold notS
  rw [e, h2, h3, h5, h6]
theorem HO_ext {se tr fi la sh ac se' tr' fi' la' sh' ac' : Int → Int} {no : Int} (hno : no ≤ 40) (h1 : EQn 4 se' se) (h2 : EQn 40 tr' tr) (h3 : EQn 40 fi' fi) (h4 : EQn 40 la' la) (h5 : EQn 40 sh' sh) (h6 : EQn 40 ac' ac) : HO se' tr' fi' la' sh' ac' no = HO se tr fi la sh ac no := by
  unfold HO
  refine fdA_congr (fun j s j0 j1 => ?_)
  exact not_ext (h1 0 (by omega) (by omega)) (h1 1 (by omega) (by omega)) (h3 j j0 (by omega)) (h4 j j0 (by omega)) (h5 j j0 (by omega)) (h2 j j0 (by omega)) (h6 j j0 (by omega)) s
section Q65
variable {fu : Nat} {se tr fi la sh ac p_eh p_hf u_se u_tr u_fi u_la u_sh u_ac : Int → Int} {no u_no p_we d_le g_si : Int}
theorem ca_at {x1 x2 V : Int} (hN : NT tr fi la sh no) (hE : SE se) (hA : AC ac) (c1 : 0 ≤ x1) (c2 : x1 < 100) (hV : (x2 = 0 ∧ V = HO se tr fi la sh ac no x1) ∨ (x2 = 1 ∧ V = EHs (HO se tr fi la sh ac no) (se 2) x1) ∨ (x2 = 2 ∧ V = fdA (sTrk tr fi la x1) 0 0 no) ∨ (x2 = 3 ∧ V = sbs (HO se tr fi la sh ac no x1)) ∨ (x2 = 4 ∧ V = if se 3 ≤ sbs (HO se tr fi la sh ac no x1) then 1 else 0)) (hf : 500 ≤ fu) :
    ∃ eh' we' hf', f_X4_at fu se tr fi la sh ac no p_eh p_we p_hf x1 x2 = some (V, eh', we', hf') := by
  unfold f_X4_at
  obtain ⟨e1, o1, e, g1, g2⟩ := q_perforate (fu := fu) (eh := p_eh) (ho := p_hf) (we := p_we) hN hE hA (by omega)
  have x1e := g2 x1 c1 c2
  have x1o := g1 x1 c1 c2
  have hx : 0 ≤ x2 ∧ x2 ≤ 4 := by omega
  rw [q_isStep_t c1 c2, jb_s, jck_of (by omega) (by omega) (by omega) (by omega), if_pos (show (1 : Int) ≠ 0 by omega), e, jb3_s, jck_of (by omega) (by omega) (by omega) (by omega)]
  rcases hV with ⟨d, rfl⟩ | ⟨d, rfl⟩ | ⟨d, rfl⟩ | ⟨d, rfl⟩ | ⟨d, rfl⟩
  · rw [if_pos d, q_holesAt c1 c2, jb_s, x1o]
    exact ⟨_, _, _, rfl⟩
  · rw [if_neg (by omega), if_pos d, q_heardAt c1 c2, jb_s, x1e]
    exact ⟨_, _, _, rfl⟩
  · rw [if_neg (by omega), if_neg (by omega), if_pos d, q_tracksAt hN (by omega) (by omega) (by omega), jb_s]
    exact ⟨_, _, _, rfl⟩
  · rw [if_neg (by omega), if_neg (by omega), if_neg (by omega), if_pos d, q_sideBySide c1 c2 (by omega), jb_s, x1o]
    exact ⟨_, _, _, rfl⟩
  · rw [if_neg (by omega), if_neg (by omega), if_neg (by omega), if_neg (by omega), if_pos d, q_isWeak c1 c2 (by have := hE.2.2.2.2.2.2; omega) hE.2.2.2.2.2.2.2 (by omega), jb_s, q_asNumber (by split <;> omega), x1o, jb_s]
    exact ⟨_, _, _, rfl⟩
theorem ca_of {x1 x2 V : Int} (hN : NT tr fi la sh no) (hE : SE se) (hA : AC ac) (c1 : 0 ≤ x1) (c2 : x1 < no) (hV : (x2 = 0 ∧ V = tr x1) ∨ (x2 = 1 ∧ V = fi x1) ∨ (x2 = 2 ∧ V = la x1) ∨ (x2 = 3 ∧ V = sh x1) ∨ (x2 = 4 ∧ V = ac x1) ∨ (x2 = 5 ∧ V = fdA (sBri se fi la sh x1) 0 (fi x1) (la x1 + 1)) ∨ (x2 = 6 ∧ V = (fdA (sLon se fi la sh x1) (0, 0) (fi x1) (la x1 + 1)).1) ∨ (x2 = 7 ∧ V = whO (EHs (HO se tr fi la sh ac no) (se 2)) tr fi la x1)) (hf : 500 ≤ fu) :
    ∃ eh' we' hf', f_X4_of fu se tr fi la sh ac no p_eh p_we p_hf x1 x2 = some (V, eh', we', hf') := by
  have n1 := hN.2.1
  have hx : 0 ≤ x2 ∧ x2 ≤ 7 := by omega
  unfold f_X4_of
  rw [q_has_t c1 c2 n1, jb_s, jck_of (by omega) (by omega) (by omega) (by omega), if_pos (show (1 : Int) ≠ 0 by omega), jck_of (by omega) (by omega) (by omega) (by omega)]
  rcases hV with ⟨d, rfl⟩ | ⟨d, rfl⟩ | ⟨d, rfl⟩ | ⟨d, rfl⟩ | ⟨d, rfl⟩ | ⟨d, rfl⟩ | ⟨d, rfl⟩ | ⟨d, rfl⟩
  · rw [if_pos d, q_trackOf c1 c2 n1, jb_s]
    exact ⟨_, _, _, rfl⟩
  · rw [if_neg (by omega), if_pos d, q_firstOf c1 c2 n1, jb_s]
    exact ⟨_, _, _, rfl⟩
  · rw [if_neg (by omega), if_neg (by omega), if_pos d, q_lastOf c1 c2 n1, jb_s]
    exact ⟨_, _, _, rfl⟩
  · rw [if_neg (by omega), if_neg (by omega), if_neg (by omega), if_pos d, q_shiftOf c1 c2 n1, jb_s]
    exact ⟨_, _, _, rfl⟩
  · rw [if_neg (by omega), if_neg (by omega), if_neg (by omega), if_neg (by omega), if_pos d, q_hasAccent hA c1 c2 n1, jb_s, q_asNumber (hA x1 c1 (by omega)), jb_s]
    exact ⟨_, _, _, rfl⟩
  · rw [if_neg (by omega), if_neg (by omega), if_neg (by omega), if_neg (by omega), if_neg (by omega), if_pos d, q_bridges hN hE c1 c2 (by omega), jb_s]
    exact ⟨_, _, _, rfl⟩
  · rw [if_neg (by omega), if_neg (by omega), if_neg (by omega), if_neg (by omega), if_neg (by omega), if_neg (by omega), if_pos d, q_longest hN hE c1 c2 (by omega), jb_s]
    exact ⟨_, _, _, rfl⟩
  · obtain ⟨e1, o1, e, g1, g2⟩ := q_perforate (fu := fu) (eh := p_eh) (ho := p_hf) (we := p_we) hN hE hA (by omega)
    obtain ⟨t1, t2, t3, t4, t5, -, -⟩ := hN.2.2 x1 c1 c2
    have w1 : whO e1 tr fi la x1 = 0 ∨ whO e1 tr fi la x1 = 1 := whO_01 _ _ (by omega)
    rw [if_neg (by omega), if_neg (by omega), if_neg (by omega), if_neg (by omega), if_neg (by omega), if_neg (by omega), if_neg (by omega), if_pos d, e, jb3_s, q_isHeardWhole hN c1 c2 (by omega), jb_s, q_asNumber w1, jb_s, E1_whO g2 t3 t5]
    exact ⟨_, _, _, rfl⟩
theorem ca_sound0 {x1 x2 : Int} (hN : NT tr fi la sh no) (hE : SE se) (hA : AC ac) (t1 : 0 ≤ x1) (t2 : x1 < 12) (b1 : -2147483648 ≤ x2) (b2 : x2 < 2147483648) (hno : ∀ r, 0 ≤ r → r < 100 → (jand (jshr (EHs (HO se tr fi la sh ac no) (se 2) r) x1) 1 = 1 ∧ (r = 0 ∨ ¬ jand (jshr (EHs (HO se tr fi la sh ac no) (se 2) (r - 1)) x1) 1 = 1)) → stN (EHs (HO se tr fi la sh ac no) (se 2)) x1 r ≠ x2) (hf : 500 ≤ fu) :
    ∃ eh' we' hf', f_X4_sound fu se tr fi la sh ac no p_eh p_we p_hf x1 x2 0 = some (-1, eh', we', hf') := by
  obtain ⟨e1, o1, e, g1, g2⟩ := q_perforate (fu := fu) (eh := p_eh) (ho := p_hf) (we := p_we) hN hE hA (by omega)
  obtain ⟨r, er, hr⟩ := q_soundStart (fu := fu) (eh := e1) (t := x1) (x := x2) t1 t2 b1 b2 (by omega)
  unfold f_X4_sound
  rw [q_isTrack_t t1 t2, jb_s, jck_of (by omega) (by omega) (by omega) (by omega), if_pos (show (1 : Int) ≠ 0 by omega), e, jb3_s, er, jb_s]
  rcases hr with ⟨j1, j2⟩ | ⟨j1, j2, j3, j4⟩
  · rw [jck_of (by omega) (by omega) (by omega) (by omega), if_neg (by omega)]
    exact ⟨_, _, _, rfl⟩
  · exact absurd (by rw [← E1_stN g2 (by omega)]; exact j4) (hno r j1 j2 (start_cg g2 j1 j2 j3))
theorem ca_sound {x1 x2 x3 r s V : Int} (hN : NT tr fi la sh no) (hE : SE se) (hA : AC ac) (t1 : 0 ≤ x1) (t2 : x1 < 12) (b1 : -2147483648 ≤ x2) (b2 : x2 < 2147483648) (r1 : 0 ≤ r) (r2 : r < 100) (r3 : jand (jshr (EHs (HO se tr fi la sh ac no) (se 2) r) x1) 1 = 1 ∧ (r = 0 ∨ ¬ jand (jshr (EHs (HO se tr fi la sh ac no) (se 2) (r - 1)) x1) 1 = 1)) (r4 : stN (EHs (HO se tr fi la sh ac no) (se 2)) x1 r = x2)
    (hs : r ≤ s ∧ s < 100 ∧ (∀ q, r ≤ q → q ≤ s → jand (jshr (EHs (HO se tr fi la sh ac no) (se 2) q) x1) 1 = 1) ∧ (s = 99 ∨ ¬ jand (jshr (EHs (HO se tr fi la sh ac no) (se 2) (s + 1)) x1) 1 = 1)) (hV : (x3 = 0 ∧ V = r) ∨ (x3 = 1 ∧ V = s) ∨ (x3 = 2 ∧ V = fdA (sTou tr fi la x1 r s) 0 0 no)) (hf : 500 ≤ fu) :
    ∃ eh' we' hf', f_X4_sound fu se tr fi la sh ac no p_eh p_we p_hf x1 x2 x3 = some (V, eh', we', hf') := by
  have hx : 0 ≤ x3 ∧ x3 ≤ 2 := by omega
  obtain ⟨e1, o1, e, g1, g2⟩ := q_perforate (fu := fu) (eh := p_eh) (ho := p_hf) (we := p_we) hN hE hA (by omega)
  obtain ⟨r', er, hr⟩ := q_soundStart (fu := fu) (eh := e1) (t := x1) (x := x2) t1 t2 b1 b2 (by omega)
  unfold f_X4_sound
  rw [q_isTrack_t t1 t2, jb_s, jck_of (by omega) (by omega) (by omega) (by omega), if_pos (show (1 : Int) ≠ 0 by omega), e, jb3_s, er, jb_s]
  rcases hr with ⟨j1, j2⟩ | ⟨j1, j2, j3, j4⟩
  · exact absurd (by rw [E1_stN g2 (by omega)]; exact r4) (j2 r r1 r2 (start_cg g2.sy r1 r2 r3))
  · have hrr : r' = r := start_one (eh := EHs (HO se tr fi la sh ac no) (se 2)) (t := x1) (x := x2) ⟨j1, j2, start_cg g2 j1 j2 j3, by rw [← E1_stN g2 (by omega)]; exact j4⟩ ⟨r1, r2, r3, r4⟩
    subst hrr
    obtain ⟨s', es, hs'⟩ := q_soundEnd (fu := fu) (eh := e1) (t := x1) (a := r') t1 t2 j1 j2 j3.1 (by omega)
    have hss : s' = s := by
      refine end_one (eh := EHs (HO se tr fi la sh ac no) (se 2)) (t := x1) (a := r') ⟨hs'.1, hs'.2.1, fun q q1 q2 => ?_, ?_⟩ hs
      · rw [← E1_bit g2 (by omega) (by omega)]; exact hs'.2.2.1 q q1 q2
      · by_cases y : s' = 99
        · exact Or.inl y
        · right
          have := hs'.2.1
          have := hs'.1
          rw [← E1_bit g2 (by omega) (by omega)]
          exact hs'.2.2.2.resolve_left y
    subst hss
    have z1 := hs.1
    have z2 := hs.2.1
    rw [jck_of (by omega) (by omega) (by omega) (by omega), if_pos j1, es, jb_s, jck_of (by omega) (by omega) (by omega) (by omega)]
    rcases hV with ⟨d, rfl⟩ | ⟨d, rfl⟩ | ⟨d, rfl⟩
    · rw [if_pos d]
      exact ⟨_, _, _, rfl⟩
    · rw [if_neg (by omega), if_pos d]
      exact ⟨_, _, _, rfl⟩
    · rw [if_neg (by omega), if_neg (by omega), if_pos d, q_touching hN (by omega) (by omega) (by omega) (by omega) (by omega) (by omega) (by omega), jb_s]
      exact ⟨_, _, _, rfl⟩
theorem ca_count {x1 V : Int} (hN : NT tr fi la sh no) (hE : SE se) (hA : AC ac) (hV : (x1 = 0 ∧ V = no) ∨ (x1 = 1 ∧ V = holN (HO se tr fi la sh ac no)) ∨ (x1 = 2 ∧ V = wkN (HO se tr fi la sh ac no) (se 3)) ∨ (x1 = 3 ∧ ((V = -6 ∧ ∀ s, 0 ≤ s → s < 100 → ¬ se 3 ≤ sbs (HO se tr fi la sh ac no s)) ∨ (0 ≤ V ∧ V < 100 ∧ se 3 ≤ sbs (HO se tr fi la sh ac no V) ∧ ∀ s, 0 ≤ s → s < V → ¬ se 3 ≤ sbs (HO se tr fi la sh ac no s)))) ∨ (x1 = 4 ∧ V = sndN (EHs (HO se tr fi la sh ac no) (se 2))) ∨ (x1 = 5 ∧ V = gapN (EHs (HO se tr fi la sh ac no) (se 2)) tr fi la no) ∨ (x1 = 6 ∧ (∀ k, 0 ≤ k → k < no → la k ≤ V) ∧ ((no = 0 ∧ V = -6) ∨ ∃ k, 0 ≤ k ∧ k < no ∧ la k = V)) ∨ (x1 = 7 ∧ V = se 0) ∨ (x1 = 8 ∧ V = se 1) ∨ (x1 = 9 ∧ V = se 2) ∨ (x1 = 10 ∧ V = se 3)) (hf : 500 ≤ fu) :
    ∃ eh' we' hf', f_X4_count fu se tr fi la sh ac no p_eh p_we p_hf d_le g_si x1 = some (V, eh', we', hf') := by
  have n0 := hN.1
  have n1 := hN.2.1
  have hx : 0 ≤ x1 ∧ x1 ≤ 10 := by omega
  unfold f_X4_count
  obtain ⟨e1, o1, e, g1, g2⟩ := q_perforate (fu := fu) (eh := p_eh) (ho := p_hf) (we := p_we) hN hE hA (by omega)
  have w1 : 0 ≤ se 3 := by have := hE.2.2.2.2.2.2; omega
  have w2 := hE.2.2.2.2.2.2.2
  rw [e, jb3_s, jck_of (by omega) (by omega) (by omega) (by omega)]
  rcases hV with ⟨d, hV⟩ | ⟨d, hV⟩ | ⟨d, hV⟩ | ⟨d, hV⟩ | ⟨d, hV⟩ | ⟨d, hV⟩ | ⟨d, hV⟩ | ⟨d, hV⟩ | ⟨d, hV⟩ | ⟨d, hV⟩ | ⟨d, hV⟩
  · rw [if_pos d, q_size, jb_s, hV]
    exact ⟨_, _, _, rfl⟩
  · rw [if_neg (by omega), if_pos d, q_allHoles (fun s s1 s2 => by rw [g1 s s1 s2]; exact HO_ST hN s) (by omega), jb_s, E1_hol g1, hV]
    exact ⟨_, _, _, rfl⟩
  · rw [if_neg (by omega), if_neg (by omega), if_pos d, q_weakSteps w1 w2 (by omega), jb_s, wkN_congr g1, hV]
    exact ⟨_, _, _, rfl⟩
  · obtain ⟨r, er, hr⟩ := q_firstWeak (fu := fu) (g := o1) (we := se 3) w1 w2 (by omega)
    have hrr : (if 0 ≤ r then r else -6) = V := by
      rcases hr with ⟨j1, j2⟩ | ⟨j1, j2, j3, j4⟩
      · rcases hV with ⟨k1, k2⟩ | ⟨k1, k2, k3, k4⟩
        · rw [if_neg (by omega), k1]
        · exact absurd (by rw [g1 V k1 k2]; exact k3) (j2 V k1 k2)
      · rcases hV with ⟨k1, k2⟩ | ⟨k1, k2, k3, k4⟩
        · exact absurd (by rw [← g1 r j1 j2]; exact j3) (k2 r j1 j2)
        · rw [if_pos j1]
          rcases Int.lt_trichotomy r V with h | h | h
          · exact absurd (by rw [← g1 r j1 j2]; exact j3) (k4 r j1 h)
          · exact h
          · exact absurd (by rw [g1 V k1 k2]; exact k3) (j4 V k1 h)
    rw [if_neg (by omega), if_neg (by omega), if_neg (by omega), if_pos d, er, jb_s, q_none (by omega) (by omega), jb_s, hrr]
    exact ⟨_, _, _, rfl⟩
  · rw [if_neg (by omega), if_neg (by omega), if_neg (by omega), if_neg (by omega), if_pos d, q_allSounds (by omega), jb_s, E1_snd g2, hV]
    exact ⟨_, _, _, rfl⟩
  · rw [if_neg (by omega), if_neg (by omega), if_neg (by omega), if_neg (by omega), if_neg (by omega), if_pos d, q_notesWithGap hN (by omega), jb_s, E1_gap hN g2, hV]
    exact ⟨_, _, _, rfl⟩
  · obtain ⟨r, er, r1, r2, r3, r4⟩ := q_greatestLast (fu := fu) hN (by omega)
    have hrr : (if 0 ≤ r then r else -6) = V := by
      obtain ⟨v1, v2⟩ := hV
      rcases r4 with j | ⟨k, k1, k2, k3⟩
      · rcases v2 with ⟨j', j2⟩ | ⟨k', k1', k2', k3'⟩
        · rw [if_neg (by omega), j2]
        · have := r3 k' k1' k2'
          have := hN.2.2 k' k1' k2'
          omega
      · have := v1 k k1 k2
        have := hN.2.2 k k1 k2
        rcases v2 with ⟨j', j2⟩ | ⟨k', k1', k2', k3'⟩
        · omega
        · have := r3 k' k1' k2'
          rw [if_pos (by omega)]; omega
    rw [if_neg (by omega), if_neg (by omega), if_neg (by omega), if_neg (by omega), if_neg (by omega), if_neg (by omega), if_pos d, er, jb_s, q_none (by omega) (by omega), jb_s, hrr]
    exact ⟨_, _, _, rfl⟩
  · rw [if_neg (by omega), if_neg (by omega), if_neg (by omega), if_neg (by omega), if_neg (by omega), if_neg (by omega), if_neg (by omega), if_pos d, q_settingOf (by omega) (by omega), jb_s, hV]
    exact ⟨_, _, _, rfl⟩
  · rw [if_neg (by omega), if_neg (by omega), if_neg (by omega), if_neg (by omega), if_neg (by omega), if_neg (by omega), if_neg (by omega), if_neg (by omega), if_pos d, q_settingOf (by omega) (by omega), jb_s, hV]
    exact ⟨_, _, _, rfl⟩
  · rw [if_neg (by omega), if_neg (by omega), if_neg (by omega), if_neg (by omega), if_neg (by omega), if_neg (by omega), if_neg (by omega), if_neg (by omega), if_neg (by omega), if_pos d, q_settingOf (by omega) (by omega), jb_s, hV]
    exact ⟨_, _, _, rfl⟩
  · rw [if_neg (by omega), if_neg (by omega), if_neg (by omega), if_neg (by omega), if_neg (by omega), if_neg (by omega), if_neg (by omega), if_neg (by omega), if_neg (by omega), if_neg (by omega), if_pos d, q_settingOf (by omega) (by omega), jb_s, hV]
    exact ⟨_, _, _, rfl⟩
theorem ca_swallowed {x1 : Int} (hN : NT tr fi la sh no) (hE : SE se) (hA : AC ac) (t1 : 0 ≤ x1) (t2 : x1 < 12) (hf : 500 ≤ fu) :
    ∃ eh' we' hf', f_X4_swallowed fu se tr fi la sh ac no p_eh p_we p_hf x1 = some (fdA (sSw (EHs (HO se tr fi la sh ac no) (se 2)) tr fi x1) 0 0 no, eh', we', hf') := by
  have n0 := hN.1
  have n1 := hN.2.1
  unfold f_X4_swallowed
  obtain ⟨e1, o1, e, g1, g2⟩ := q_perforate (fu := fu) (eh := p_eh) (ho := p_hf) (we := p_we) hN hE hA (by omega)
  rw [q_isTrack_t t1 t2, jb_s, jck_of (by omega) (by omega) (by omega) (by omega), if_pos (show (1 : Int) ≠ 0 by omega), e, jb3_s]
  obtain ⟨p, ep, i1, i2⟩ := loop_upI (L := fun q (s : Int) i => f_X4_swallowed_L24 fu tr fi no x1 e1 (f_X4_swallowed_X77 fu e1 (se 3) o1) q s i) (f_X4_swallowed_X77 fu e1 (se 3) o1)
    (fun i p => 0 ≤ i ∧ p = fdA (sSw (EHs (HO se tr fi la sh ac no) (se 2)) tr fi x1) 0 0 i) no
    (fun q s hI => by
      show f_X4_swallowed_L24_b fu tr fi no x1 e1 _ _ s no = _
      unfold f_X4_swallowed_L24_b
      rw [q_size, jb_s, jck_of (by omega) (by omega) (by omega) (by omega), if_pos (by omega)])
    (fun q s i hi hI => by
      obtain ⟨i1, i2⟩ := hI
      obtain ⟨k1, k2, k3, k4, k5, -, -⟩ := hN.2.2 i i1 hi
      refine ⟨fdA (sSw (EHs (HO se tr fi la sh ac no) (se 2)) tr fi x1) 0 0 (i + 1), ?_, by omega, rfl⟩
      show f_X4_swallowed_L24_b fu tr fi no x1 e1 _ _ s i = _
      unfold f_X4_swallowed_L24_b
      rw [q_size, jb_s, jck_of (by omega) (by omega) (by omega) (by omega), if_neg (by omega), q_trackOf i1 hi n1, jb_s, jck_of (by omega) (by omega) (by omega) (by omega), fdA_s _ _ i1, ← i2]
      unfold sSw
      by_cases d : tr i = x1
      · rw [if_neg (by omega), q_firstOf i1 hi n1, jb_s]
        by_cases f0 : fi i = 0
        · rw [f0, q_isHeard_m1 t1 t2, jb_s, jck_of (by omega) (by omega) (by omega) (by omega), if_pos rfl, if_neg (by omega)]
        · have y9 := g2 (fi i - 1) (by omega) (by omega)
          rw [q_isHeard t1 t2 (by omega) (by omega), jb_s, y9]
          by_cases y : jand (jshr (EHs (HO se tr fi la sh ac no) (se 2) (fi i - 1)) x1) 1 = 1
          · rw [if_pos y, jck_of (by omega) (by omega) (by omega) (by omega), if_neg (by omega), if_pos ⟨d, by omega, y⟩]
          · rw [if_neg y, jck_of (by omega) (by omega) (by omega) (by omega), if_pos (by omega), if_neg (fun h => y h.2.2)]
      · rw [if_pos d, if_neg (by omega)])
    no.toNat fu 0 0 (by omega) (by omega) ⟨by omega, by rw [fdA_0]⟩
  rw [i2] at ep
  exact ⟨_, _, _, ep⟩
theorem ca_bestShift {x1 x2 : Int} {W : Int → Int} (hN : NT tr fi la sh no) (hE : SE se) (hA : AC ac) (c1 : 0 ≤ x1) (c2 : x1 < no) (d : 0 ≤ x2 ∧ x2 ≤ 1) (hW : ∀ v, W v = wkN (HO se tr fi la (uI sh x1 v) ac no) (se 3)) (hf : 2000 ≤ fu) :
    ∃ u_se' u_tr' u_fi' u_la' u_sh' u_ac' u_no' eh' we' hf', f_X4_bestShift fu se tr fi la sh ac no u_se u_tr u_fi u_la u_sh u_ac u_no p_eh p_we p_hf x1 x2 = some (if x2 ≠ 0 then (fdA (bS W) (0, 101) 0 13).2 else (fdA (bS W) (0, 101) 0 13).1, u_se', u_tr', u_fi', u_la', u_sh', u_ac', u_no', eh', we', hf') ∧ AC u_ac' := by
  have n1 := hN.2.1
  unfold f_X4_bestShift
  have hN' : NT (jcpy tr u_tr 40) (jcpy fi u_fi 40) (jcpy la u_la 40) (jcpy sh u_sh 40) no := by
    refine ⟨hN.1, n1, fun k k0 k1 => ?_⟩
    rw [jcpy_in _ _ k0 (by omega), jcpy_in _ _ k0 (by omega), jcpy_in _ _ k0 (by omega), jcpy_in _ _ k0 (by omega)]
    exact hN.2.2 k k0 k1
  have hE' : SE (jcpy se u_se 4) := by
    unfold SE
    rw [jcpy_in _ _ (by omega) (by omega), jcpy_in _ _ (by omega) (by omega), jcpy_in _ _ (by omega) (by omega), jcpy_in _ _ (by omega) (by omega)]
    exact hE
  have hA' : AC (jcpy ac u_ac 40) := fun k k0 k1 => by
    rw [jcpy_in _ _ k0 k1]; exact hA k k0 k1
  have hW' : ∀ v, W v = wkN (HO (jcpy se u_se 4) (jcpy tr u_tr 40) (jcpy fi u_fi 40) (jcpy la u_la 40) (uI (jcpy sh u_sh 40) x1 v) (jcpy ac u_ac 40) no) (jcpy se u_se 4 3) := fun v => by
    rw [hW v, jcpy_in se u_se (show (0 : Int) ≤ 3 by omega) (show (3 : Int) < 4 by omega), HO_ext (se' := jcpy se u_se 4) (tr' := jcpy tr u_tr 40) (fi' := jcpy fi u_fi 40) (la' := jcpy la u_la 40) (sh' := uI (jcpy sh u_sh 40) x1 v) (ac' := jcpy ac u_ac 40) (se := se) (tr := tr) (fi := fi) (la := la) (sh := uI sh x1 v) (ac := ac) n1 (EQn_cpy _ _ _) (EQn_cpy _ _ _) (EQn_cpy _ _ _) (EQn_cpy _ _ _) (fun q q0 q1 => by
      unfold uI
      by_cases h : q = x1
      · rw [if_pos h, if_pos h]
      · rw [if_neg h, if_neg h, jcpy_in _ _ q0 q1]) (EQn_cpy _ _ _)]
  obtain ⟨sh', eh', we', hf', e1⟩ := l_bestS (fu := fu) (x1 := x1) (x2 := x2) (p_eh := p_eh) (p_we := p_we) (p_hf := p_hf) (W := W) hN' hE' hA' c1 c2 (by omega) hW' (by omega)
  rw [q_has_t c1 c2 n1, jb_s, jck_of (by omega) (by omega) (by omega) (by omega), if_pos (show (1 : Int) ≠ 0 by omega), q_isIn_t d.1 d.2 (by omega) (by omega), jb_s, jck_of (by omega) (by omega) (by omega) (by omega), if_pos (show (1 : Int) ≠ 0 by omega), q_become hA (by omega), jb7_s, e1]
  exact ⟨_, _, _, _, _, _, _, _, _, _, rfl, hA'⟩
theorem ca_greatestRun {V : Int → Int} {r' : Int} (hN : NT tr fi la sh no) (hE : SE se) (hA : AC ac) (hV : ∀ v, V v = wkN (HO (uI se 0 v) tr fi la sh ac no) (se 3)) (hr' : (r' = -6 ∧ ∀ v, 1 ≤ v → v ≤ 9 → V v ≠ 0) ∨ (1 ≤ r' ∧ r' ≤ 9 ∧ V r' = 0 ∧ ∀ v, r' < v → v ≤ 9 → V v ≠ 0)) (hf : 2000 ≤ fu) :
    ∃ u_se' u_tr' u_fi' u_la' u_sh' u_ac' u_no' eh' we' hf', f_X4_greatestRun fu se tr fi la sh ac no u_se u_tr u_fi u_la u_sh u_ac u_no p_eh p_we p_hf = some (r', u_se', u_tr', u_fi', u_la', u_sh', u_ac', u_no', eh', we', hf') ∧ AC u_ac' := by
  have n1 := hN.2.1
  have hN' : NT (jcpy tr u_tr 40) (jcpy fi u_fi 40) (jcpy la u_la 40) (jcpy sh u_sh 40) no := by
    refine ⟨hN.1, n1, fun k k0 k1 => ?_⟩
    rw [jcpy_in _ _ k0 (by omega), jcpy_in _ _ k0 (by omega), jcpy_in _ _ k0 (by omega), jcpy_in _ _ k0 (by omega)]
    exact hN.2.2 k k0 k1
  have hE' : SE (jcpy se u_se 4) := by
    unfold SE
    rw [jcpy_in _ _ (by omega) (by omega), jcpy_in _ _ (by omega) (by omega), jcpy_in _ _ (by omega) (by omega), jcpy_in _ _ (by omega) (by omega)]
    exact hE
  have hA' : AC (jcpy ac u_ac 40) := fun k k0 k1 => by
    rw [jcpy_in _ _ k0 k1]; exact hA k k0 k1
  have hV' : ∀ v, V v = wkN (HO (uI (jcpy se u_se 4) 0 v) (jcpy tr u_tr 40) (jcpy fi u_fi 40) (jcpy la u_la 40) (jcpy sh u_sh 40) (jcpy ac u_ac 40) no) (uI (jcpy se u_se 4) 0 v 3) := fun v => by
    rw [hV v, uI_n _ _ (show (3 : Int) ≠ 0 by omega), jcpy_in se u_se (show (0 : Int) ≤ 3 by omega) (show (3 : Int) < 4 by omega), HO_ext (se' := uI (jcpy se u_se 4) 0 v) (tr' := jcpy tr u_tr 40) (fi' := jcpy fi u_fi 40) (la' := jcpy la u_la 40) (sh' := jcpy sh u_sh 40) (ac' := jcpy ac u_ac 40) (se := uI se 0 v) (tr := tr) (fi := fi) (la := la) (sh := sh) (ac := ac) n1 (fun q q0 q1 => by
      unfold uI
      by_cases h : q = 0
      · rw [if_pos h, if_pos h]
      · rw [if_neg h, if_neg h, jcpy_in _ _ q0 q1]) (EQn_cpy _ _ _) (EQn_cpy _ _ _) (EQn_cpy _ _ _) (EQn_cpy _ _ _) (EQn_cpy _ _ _)]
  obtain ⟨r, se', eh', we', hf', e1, hr⟩ := l_runS (fu := fu) (V := V) hN' hE' hA' hV' (by omega) 9 fu 9 (jcpy se u_se 4) p_eh p_hf p_we rfl (by omega) (by omega) (Or.inl rfl) (fun v v1 v2 => by omega)
  have hrr : r = r' := by
    rcases hr with ⟨j1, j2⟩ | ⟨j1, j2, j3, j4⟩
    · rcases hr' with ⟨k1, k2⟩ | ⟨k1, k2, k3, k4⟩
      · rw [j1, k1]
      · exact absurd k3 (j2 r' k1 k2)
    · rcases hr' with ⟨k1, k2⟩ | ⟨k1, k2, k3, k4⟩
      · exact absurd j3 (k2 r j1 j2)
      · rcases Int.lt_trichotomy r r' with h | h | h
        · exact absurd k3 (j4 r' h k2)
        · exact h
        · exact absurd j3 (k4 r h j2)
  subst hrr
  unfold f_X4_greatestRun
  rw [q_become hA (by omega), jb7_s, jix_of (by omega) (by omega), show jG (Int.toNat 0) = 9 from rfl, e1]
  exact ⟨_, _, _, _, _, _, _, _, _, _, rfl, hA'⟩
end Q65
