/-! notes that are read from a text: a number, a sign, a note, all notes -/
section Q66
variable {fu : Nat} {tx pd : Int → Int} {le pn : Int}
def DG (pd : Int → Int) (L k : Int) : Prop := k < L ∧ 48 ≤ pd k ∧ pd k ≤ 57
theorem q_current (hP : PDt tx le pd pn) {k : Int} (h0 : 0 ≤ k) (h1 : k < le) : f_X1_current fu tx le k = some (pd k) := by
  obtain ⟨a, b, c, d⟩ := hP
  obtain ⟨d1, d2, d3⟩ := d k h0 h1
  unfold f_X1_current
  rw [jck_of (by omega) (by omega) (by omega) (by omega), if_neg (by omega), jck_of (by omega) (by omega) (by omega) (by omega), if_neg (by omega), jck_of (by omega) (by omega) (by omega) (by omega), if_neg (by omega), jix_of (by omega) (by omega), jch_of (by omega) (by omega), d1]
theorem q_current_o (hP : PDt tx le pd pn) {k : Int} (h0 : 0 ≤ k) (h1 : le ≤ k) (h2 : k < 1000) : f_X1_current fu tx le k = some 0 := by
  have a := hP.1
  have b := hP.2.1
  unfold f_X1_current
  rw [jck_of (by omega) (by omega) (by omega) (by omega), if_neg (by omega), jck_of (by omega) (by omega) (by omega) (by omega), if_pos h1, jch_of (by omega) (by omega)]
theorem m_char (hP : PDt tx le pd pn) {k : Int} (h0 : 0 ≤ k) (h1 : k < le) : f_X5_character fu pd pn k = some (pd k) := by
  obtain ⟨a, b, c, d⟩ := hP
  unfold f_X5_character
  rw [jck_of (by omega) (by omega) (by omega) (by omega), if_neg (by omega), jix_of (by omega) (by omega)]
theorem m_char_o (hP : PDt tx le pd pn) {k : Int} (h0 : 0 ≤ k) (h1 : le ≤ k) (h2 : k < 1000) : f_X5_character fu pd pn k = some (-1) := by
  obtain ⟨a, b, c, d⟩ := hP
  unfold f_X5_character
  rw [jck_of (by omega) (by omega) (by omega) (by omega), if_pos (by omega)]
theorem q_digit_t (hP : PDt tx le pd pn) {k : Int} (h0 : 0 ≤ k) (h : DG pd le k) : f_X1_digit fu tx le k = some (pd k - 48) := by
  unfold f_X1_digit
  have h2 := h.2
  rw [q_current hP h0 h.1, jb_s, jck_of (by omega) (by omega) (by omega) (by omega), if_neg (by omega), jck_of (by omega) (by omega) (by omega) (by omega), if_neg (by omega)]
theorem q_digit_f (hP : PDt tx le pd pn) {k : Int} (h0 : 0 ≤ k) (h1 : k < 1000) (h : ¬ DG pd le k) : f_X1_digit fu tx le k = some (-1) := by
  unfold f_X1_digit
  by_cases c : k < le
  · obtain ⟨d1, d2, d3⟩ := hP.2.2.2 k h0 c
    rw [q_current hP h0 c, jb_s, jck_of (by omega) (by omega) (by omega) (by omega)]
    by_cases d : pd k < 48
    · rw [if_pos d]
    · rw [if_neg d, jck_of (by omega) (by omega) (by omega) (by omega), if_pos (by unfold DG at h; omega)]
  · rw [q_current_o hP h0 (by omega) h1, jb_s, jck_of (by omega) (by omega) (by omega) (by omega), if_pos (by omega)]
theorem m_dig (hP : PDt tx le pd pn) {k : Int} (h0 : 0 ≤ k) (h1 : k < 1000) : ∃ v w, f_X5_character fu pd pn k = some v ∧ f_X5_within fu v 48 57 = some w ∧ ((w = 1 ∧ DG pd le k ∧ v = pd k) ∨ (w = 0 ∧ ¬ DG pd le k)) := by
  by_cases c : k < le
  · obtain ⟨d1, d2, d3⟩ := hP.2.2.2 k h0 c
    by_cases d : 48 ≤ pd k ∧ pd k ≤ 57
    · exact ⟨pd k, 1, m_char hP h0 c, m_within_t d.1 d.2 (by omega) (by omega), Or.inl ⟨rfl, ⟨c, d⟩, rfl⟩⟩
    · exact ⟨pd k, 0, m_char hP h0 c, m_within_f (by omega) (by omega) (by omega) (by omega) (by omega) (by omega) (by omega), Or.inr ⟨rfl, fun z => d z.2⟩⟩
  · exact ⟨-1, 0, m_char_o hP h0 (by omega) h1, m_within_f (by omega) (by omega) (by omega) (by omega) (by omega) (by omega) (by omega), Or.inr ⟨rfl, fun z => c z.1⟩⟩
/-- the number goes on at k -/
def GO (pd : Int → Int) (L mx k v : Int) : Prop := 0 < v ∧ DG pd L k ∧ 10 * v + (pd k - 48) ≤ mx
/-- the model's step behind a digit -/
theorem m_J34 (hP : PDt tx le pd pn) {mx at_ v8 : Int} {j : Int → Int → Int → Option (Int × Int)} (h0 : 0 ≤ at_) (hd : DG pd le at_) (hm : mx < 1000) (hm0 : 0 ≤ mx) (hv : 0 ≤ v8) (hv2 : v8 ≤ 1000) :
    ∃ c, f_X5_takeNumber_J34 fu pd pn mx at_ j v8 = j (at_ + 1) (v8 + (pd at_ - 48)) c ∧ ((c = 1 ∧ GO pd le mx (at_ + 1) (v8 + (pd at_ - 48))) ∨ (c = 0 ∧ ¬ GO pd le mx (at_ + 1) (v8 + (pd at_ - 48)))) := by
  have a := hP.1
  have b := hP.2.1
  have hd1 := hd.1
  have hd2 := hd.2
  have e : v8 + pd at_ - 48 = v8 + (pd at_ - 48) := by omega
  unfold f_X5_takeNumber_J34
  rw [m_char hP h0 hd1, jb_s, e]
  generalize hw : v8 + (pd at_ - 48) = w at *
  rw [jck_of (by omega) (by omega) (by omega) (by omega)]
  by_cases c : w ≤ 0
  · rw [if_pos c]
    exact ⟨0, rfl, Or.inr ⟨rfl, fun z => by have := z.1; omega⟩⟩
  · rw [if_neg c]
    obtain ⟨v, y, e1, e2, e3⟩ := m_dig (fu := fu) hP (k := at_ + 1) (by omega) (by omega)
    rw [e1, jb_s, e2, jb_s, jck_of (by omega) (by omega) (by omega) (by omega)]
    rcases e3 with ⟨y1, y2, y3⟩ | ⟨y1, y2⟩
    · have y4 := y2.2
      rw [if_neg (by omega), jb_s, y3, jck_of (by omega) (by omega) (by omega) (by omega)]
      by_cases d : mx < 10 * w + pd (at_ + 1) - 48
      · rw [if_pos d]
        exact ⟨0, rfl, Or.inr ⟨rfl, fun z => by have := z.2.2; omega⟩⟩
      · rw [if_neg d]
        exact ⟨1, rfl, Or.inl ⟨rfl, by omega, y2, by omega⟩⟩
    · rw [if_pos y1]
      exact ⟨0, rfl, Or.inr ⟨rfl, fun z => y2 z.2.1⟩⟩
/-- the same number, from the second digit on -/
theorem num_both (hP : PDt tx le pd pn) {mx : Int} (hm : mx < 1000) (hm0 : 0 ≤ mx) : ∀ (j q1 q2 : Nat) (po v c : Int), po + j = le → j < q1 → j < q2 → 0 ≤ po → 0 ≤ v → v ≤ mx → ((c = 1 ∧ GO pd le mx po v) ∨ (c = 0 ∧ ¬ GO pd le mx po v)) →
    ∃ r po', f_X1_scanNumber_L21 fu tx le mx (f_X1_scanNumber_X79 fu) q1 po v = some (r, po') ∧ f_X5_takeNumber_L18 fu pd pn mx (f_X5_takeNumber_X108 fu) q2 po v c = some (r, po') ∧ 0 ≤ r ∧ r ≤ mx ∧ po ≤ po' ∧ po' ≤ le ∧ ∀ k, po ≤ k → k < po' → pd k ≠ 59 := by
  intro j
  have a := hP.1
  have b := hP.2.1
  induction j with
  | zero =>
    intro q1 q2 po v c h1 h2 h3 p0 v0 v1 hc
    obtain ⟨q1, rfl⟩ : ∃ q', q1 = q' + 1 := ⟨q1 - 1, by omega⟩
    obtain ⟨q2, rfl⟩ : ∃ q', q2 = q' + 1 := ⟨q2 - 1, by omega⟩
    have hc0 : c = 0 := by
      rcases hc with z | z
      · have := z.2.2.1.1
        omega
      · exact z.1
    refine ⟨v, po, ?_, ?_, v0, v1, by omega, by omega, fun k k0 k1 => by omega⟩
    · show f_X1_scanNumber_L21_b fu tx le mx _ _ po v = _
      unfold f_X1_scanNumber_L21_b
      rw [jck_of (by omega) (by omega) (by omega) (by omega), if_pos (by omega)]
      rfl
    · show f_X5_takeNumber_L18_b fu pd pn mx _ _ po v c = _
      unfold f_X5_takeNumber_L18_b
      rw [jck_of (by omega) (by omega) (by omega) (by omega), if_pos hc0]
      rfl
  | succ j ih =>
    intro q1 q2 po v c h1 h2 h3 p0 v0 v1 hc
    obtain ⟨q1, rfl⟩ : ∃ q', q1 = q' + 1 := ⟨q1 - 1, by omega⟩
    obtain ⟨q2, rfl⟩ : ∃ q', q2 = q' + 1 := ⟨q2 - 1, by omega⟩
    rcases hc with ⟨z1, z2⟩ | ⟨z1, z2⟩
    · obtain ⟨g1, g2, g3⟩ := z2
      have g4 := g2.2
      have e1 : f_X1_scanNumber_L21 fu tx le mx (f_X1_scanNumber_X79 fu) (q1 + 1) po v = f_X1_scanNumber_L21 fu tx le mx (f_X1_scanNumber_X79 fu) q1 (po + 1) (10 * v + (pd po - 48)) := by
        show f_X1_scanNumber_L21_b fu tx le mx _ _ po v = _
        unfold f_X1_scanNumber_L21_b
        rw [jck_of (by omega) (by omega) (by omega) (by omega), if_neg (by omega), jck_of (by omega) (by omega) (by omega) (by omega), if_neg (by omega), q_digit_t hP p0 g2, jb_s, jck_of (by omega) (by omega) (by omega) (by omega), if_neg (by omega), jb_s, jck_of (by omega) (by omega) (by omega) (by omega), if_neg (by omega), jb_s]
      obtain ⟨c', e2, hc'⟩ := m_J34 (fu := fu) (mx := mx) (v8 := 10 * v) (j := f_X5_takeNumber_L18 fu pd pn mx (f_X5_takeNumber_X108 fu) q2) hP p0 g2 hm hm0 (by omega) (by omega)
      have e3 : f_X5_takeNumber_L18 fu pd pn mx (f_X5_takeNumber_X108 fu) (q2 + 1) po v c = f_X5_takeNumber_L18 fu pd pn mx (f_X5_takeNumber_X108 fu) q2 (po + 1) (10 * v + (pd po - 48)) c' := by
        show f_X5_takeNumber_L18_b fu pd pn mx _ _ po v c = _
        unfold f_X5_takeNumber_L18_b
        rw [jck_of (by omega) (by omega) (by omega) (by omega), if_neg (by omega), jck_of (by omega) (by omega) (by omega) (by omega), if_pos v0]
        exact e2
      rw [e1, e3]
      obtain ⟨r, po', f1, f2, f3, f4, f5, f6, f7⟩ := ih q1 q2 (po + 1) (10 * v + (pd po - 48)) c' (by omega) (by omega) (by omega) (by omega) (by omega) (by omega) hc'
      refine ⟨r, po', f1, f2, f3, f4, by omega, f6, fun k k0 k1 => ?_⟩
      by_cases d : k = po
      · rw [d]; omega
      · exact f7 k (by omega) k1
    · refine ⟨v, po, ?_, ?_, v0, v1, by omega, by omega, fun k k0 k1 => by omega⟩
      · show f_X1_scanNumber_L21_b fu tx le mx _ _ po v = _
        unfold f_X1_scanNumber_L21_b
        rw [jck_of (by omega) (by omega) (by omega) (by omega), if_neg (by omega), jck_of (by omega) (by omega) (by omega) (by omega)]
        by_cases d : v ≤ 0
        · rw [if_pos d]; rfl
        rw [if_neg d]
        by_cases e : DG pd le po
        · have e4 := e.2
          rw [q_digit_t hP p0 e, jb_s, jck_of (by omega) (by omega) (by omega) (by omega), if_neg (by omega), jb_s, jck_of (by omega) (by omega) (by omega) (by omega)]
          by_cases f : mx < 10 * v + (pd po - 48)
          · rw [if_pos f]; rfl
          · exact absurd ⟨by omega, e, by omega⟩ z2
        · rw [q_digit_f hP p0 (by omega) e, jb_s, jck_of (by omega) (by omega) (by omega) (by omega), if_pos (by omega)]
          rfl
      · show f_X5_takeNumber_L18_b fu pd pn mx _ _ po v c = _
        unfold f_X5_takeNumber_L18_b
        rw [jck_of (by omega) (by omega) (by omega) (by omega), if_pos z1]
        rfl
/-- a number is taken in both, or in neither -/
theorem take_both (hP : PDt tx le pd pn) {mx po : Int} (hm : mx < 1000) (hm0 : 9 ≤ mx) (p0 : 0 ≤ po) (p1 : po ≤ le) (hf : 100 ≤ fu) :
    ∃ r po', f_X1_scanNumber fu tx le po mx = some (r, po') ∧ f_X5_takeNumber fu pd pn po mx = some (r, po') ∧ ((r = -1 ∧ po' = po) ∨ (0 ≤ r ∧ r ≤ mx ∧ po < po')) ∧ po ≤ po' ∧ po' ≤ le ∧ ∀ k, po ≤ k → k < po' → pd k ≠ 59 := by
  have a := hP.1
  have b := hP.2.1
  unfold f_X1_scanNumber f_X5_takeNumber
  obtain ⟨v, w, e1, e2, e3⟩ := m_dig (fu := fu) hP (k := po) p0 (by omega)
  rw [e1, jb_s, e2, jb_s]
  obtain ⟨q, rfl⟩ : ∃ q, fu = q + 1 := ⟨fu - 1, by omega⟩
  rcases e3 with ⟨y1, y2, y3⟩ | ⟨y1, y2⟩
  · have y4 := y2.2
    have y5 := y2.1
    rw [q_digit_t hP p0 y2, jb_s, jck_of (by omega) (by omega) (by omega) (by omega), if_pos (by omega)]
    obtain ⟨c', e4, hc'⟩ := m_J34 (fu := q + 1) (mx := mx) (v8 := 0) (j := f_X5_takeNumber_L18 (q + 1) pd pn mx (f_X5_takeNumber_X108 (q + 1)) q) hP p0 y2 hm (by omega) (by omega) (by omega)
    have e5 : f_X5_takeNumber_L18 (q + 1) pd pn mx (f_X5_takeNumber_X108 (q + 1)) (q + 1) po (-1) w = f_X5_takeNumber_L18 (q + 1) pd pn mx (f_X5_takeNumber_X108 (q + 1)) q (po + 1) (pd po - 48) c' := by
      show f_X5_takeNumber_L18_b (q + 1) pd pn mx _ _ po (-1) w = _
      unfold f_X5_takeNumber_L18_b
      rw [jck_of (by omega) (by omega) (by omega) (by omega), if_neg (by omega), jck_of (by omega) (by omega) (by omega) (by omega), if_neg (by omega), e4, show (0 : Int) + (pd po - 48) = pd po - 48 by omega]
    rw [e5]
    rw [show (0 : Int) + (pd po - 48) = pd po - 48 by omega] at hc'
    obtain ⟨r, po', f1, f2, f3, f4, f5, f6, f7⟩ := num_both (fu := q + 1) hP hm (by omega) (le - (po + 1)).toNat (q + 1) q (po + 1) (pd po - 48) c' (by omega) (by omega) (by omega) (by omega) (by omega) (by omega) hc'
    refine ⟨r, po', f1, f2, Or.inr ⟨f3, f4, by omega⟩, by omega, f6, fun k k0 k1 => ?_⟩
    by_cases d : k = po
    · rw [d]; omega
    · exact f7 k (by omega) k1
  · rw [q_digit_f hP p0 (by omega) y2, jb_s, jck_of (by omega) (by omega) (by omega) (by omega), if_neg (by omega)]
    refine ⟨-1, po, rfl, ?_, Or.inl ⟨rfl, rfl⟩, by omega, p1, fun k k0 k1 => by omega⟩
    show f_X5_takeNumber_L18_b (q + 1) pd pn mx _ _ po (-1) w = _
    unfold f_X5_takeNumber_L18_b
    rw [jck_of (by omega) (by omega) (by omega) (by omega), if_pos y1]
    rfl
/-- a sign is taken in both, or in neither -/
theorem next_both (hP : PDt tx le pd pn) {c po : Int} (hc : 33 ≤ c) (hc2 : c ≤ 126) (p0 : 0 ≤ po) (p1 : po ≤ le) :
    ∃ r po', f_X1_accept fu tx le po c = some (r, po') ∧ f_X5_isNext fu pd pn po c = some (r, po') ∧ ((r = 0 ∧ po' = po ∧ ¬ (po < le ∧ pd po = c)) ∨ (r = 1 ∧ po' = po + 1 ∧ po < le ∧ pd po = c)) := by
  have a := hP.1
  have b := hP.2.1
  have no_q : f_X1_accept_J23 fu po = some (0, po) := by
    unfold f_X1_accept_J23 f_X1_accept_J24
    rw [jck_of (by omega) (by omega) (by omega) (by omega), if_pos (by omega), jbo_of (Or.inl rfl)]
  have no_m : f_X5_isNext_J17 fu po 0 = some (0, po) := by
    unfold f_X5_isNext_J17 f_X5_isNext_J32
    rw [jck_of (by omega) (by omega) (by omega) (by omega), if_pos (by omega), jbo_of (Or.inl rfl), show po + 0 = po by omega]
  unfold f_X1_accept f_X5_isNext
  rw [jck_of (by omega) (by omega) (by omega) (by omega)]
  by_cases d : po < le
  · obtain ⟨d1, d2, d3⟩ := hP.2.2.2 po p0 d
    rw [if_neg (by omega), q_current hP p0 d, jb_s, m_char hP p0 d, jb_s, jck_of (by omega) (by omega) (by omega) (by omega), jck_of (by omega) (by omega) (by omega) (by omega)]
    by_cases e : pd po = c
    · rw [if_neg (fun z => z e), if_neg (fun z => z e)]
      refine ⟨1, po + 1, ?_, ?_, Or.inr ⟨rfl, rfl, d, e⟩⟩
      · unfold f_X1_accept_J24
        rw [jck_of (by omega) (by omega) (by omega) (by omega), if_neg (by omega), jbo_of (Or.inr rfl)]
      · unfold f_X5_isNext_J17 f_X5_isNext_J32
        rw [jck_of (by omega) (by omega) (by omega) (by omega), if_neg (by omega), jbo_of (Or.inr rfl)]
    · rw [if_pos e, if_pos e, no_q, no_m]
      exact ⟨0, po, rfl, rfl, Or.inl ⟨rfl, rfl, fun z => e z.2⟩⟩
  · rw [if_pos (by omega), no_q, m_char_o hP p0 (by omega) (by omega), jb_s, jck_of (by omega) (by omega) (by omega) (by omega), if_pos (by omega), no_m]
    exact ⟨0, po, rfl, rfl, Or.inl ⟨rfl, rfl, fun z => d z.1⟩⟩
theorem q_keep {pt pf pl pa : Int → Int} {fo t a b x : Int} (h0 : 0 ≤ fo) (h1 : fo < 10) (hx : x = 0 ∨ x = 1) : f_X1_keep fu pt pf pl pa fo t a b x = some (uI pt fo t, uI pf fo a, uI pl fo b, uI pa fo x, fo + 1) := by
  unfold f_X1_keep
  rw [jck_of (by omega) (by omega) (by omega) (by omega), if_neg (by omega), jix_of h0 h1, jix_of h0 h1, jix_of h0 h1, jix_of h0 h1, jbo_of hx]
/-- a note stands from po to e -/
def RD (fu : Nat) (pd : Int → Int) (pn po t a b x e : Int) : Prop := (0 ≤ t ∧ t < 12 ∧ 0 ≤ a ∧ a < 100 ∧ 0 ≤ b ∧ b < 100 ∧ (x = 0 ∨ x = 1)) ∧ (po + 5 ≤ e ∧ e ≤ pn) ∧ (∀ tk fs lt ea, f_X5_readsNote fu pd pn po tk fs lt ea = some (1, e, t, a, b, x)) ∧ ∀ k, po ≤ k → k < e → pd k ≠ 59
theorem note_both (hP : PDt tx le pd pn) {po : Int} (p0 : 0 ≤ po) (p1 : po ≤ le) (hf : 100 ≤ fu) :
    (∃ t a b x e, RD fu pd pn po t a b x e ∧ ∀ pt pf pl pa fo, 0 ≤ fo → fo < 10 → f_X1_scanNote fu tx le po pt pf pl pa fo = some (1, e, uI pt fo t, uI pf fo a, uI pl fo b, uI pa fo x, fo + 1)) ∨
    (∃ e, po ≤ e ∧ e ≤ le ∧ (∀ pt pf pl pa fo, f_X1_scanNote fu tx le po pt pf pl pa fo = some (0, e, pt, pf, pl, pa, fo)) ∧ ∀ tk fs lt ea, ∃ tk' fs' lt' ea', f_X5_readsNote fu pd pn po tk fs lt ea = some (0, e, tk', fs', lt', ea')) := by
  have a0 := hP.1
  have b0 := hP.2.1
  have pe := hP.2.2.1
  have j92 : ∀ e tk fs ea v, f_X5_readsNote_J92 fu e tk fs (-1) ea v = some (0, e, tk, fs, -1, v) := by
    intro e tk fs ea v
    unfold f_X5_readsNote_J92
    rw [jck_of (by omega) (by omega) (by omega) (by omega), if_pos (by omega), jbo_of (Or.inl rfl)]
  have j66 : ∀ e tk fs lt ea, f_X5_readsNote_J66 fu pd pn e tk fs lt ea = some (0, e, tk, fs, -1, 0) := by
    intro e tk fs lt ea
    unfold f_X5_readsNote_J66 f_X5_readsNote_J67
    rw [jck_of (by omega) (by omega) (by omega) (by omega), if_pos (by omega)]
    exact j92 e tk fs ea 0
  have j36 : ∀ e tk fs lt ea, f_X5_readsNote_J36 fu pd pn e tk fs lt ea = some (0, e, tk, -1, -1, 0) := by
    intro e tk fs lt ea
    unfold f_X5_readsNote_J36 f_X5_readsNote_J37
    rw [jck_of (by omega) (by omega) (by omega) (by omega), if_pos (by omega)]
    exact j66 e tk (-1) lt ea
  have j67 : ∀ e tk fs lt ea, f_X5_readsNote_J67 fu pd pn e tk fs lt ea (-1) = some (0, e, tk, fs, -1, 0) := fun e tk fs lt ea => j66 e tk fs lt ea
  have j37 : ∀ e tk fs lt ea, f_X5_readsNote_J37 fu pd pn e tk fs lt ea (-1) = some (0, e, tk, -1, -1, 0) := fun e tk fs lt ea => j36 e tk fs lt ea
  obtain ⟨t, o1, s1, m1, r1, o1a, o1b, o1c⟩ := take_both (fu := fu) (mx := 11) hP (by omega) (by omega) p0 p1 hf
  by_cases c1 : t < 0
  · refine Or.inr ⟨o1, by omega, by omega, fun pt pf pl pa fo => ?_, fun tk fs lt ea => ?_⟩
    · unfold f_X1_scanNote
      rw [s1, jb2_s, jck_of (a := t) (b := 0) (by omega) (by omega) (by omega) (by omega), if_pos c1, jbo_of (Or.inl rfl)]
    · unfold f_X5_readsNote
      rw [m1, jb2_s, jck_of (a := t) (b := 0) (by omega) (by omega) (by omega) (by omega), if_pos c1]
      exact ⟨_, _, _, _, j36 o1 t fs lt ea⟩
  obtain ⟨v2, o2, s2, m2, r2⟩ := next_both (fu := fu) (c := 58) (po := o1) hP (by omega) (by omega) (by omega) o1b
  have w2 : v2 = 0 ∨ v2 = 1 := by omega
  by_cases c2 : v2 = 0
  · refine Or.inr ⟨o2, by omega, by omega, fun pt pf pl pa fo => ?_, fun tk fs lt ea => ?_⟩
    · unfold f_X1_scanNote
      rw [s1, jb2_s, jck_of (a := t) (b := 0) (by omega) (by omega) (by omega) (by omega), if_neg c1, s2, jb2_s, jck_of (a := v2) (b := 0) (by omega) (by omega) (by omega) (by omega), if_neg (fun z => z c2), jbo_of (Or.inl rfl)]
    · unfold f_X5_readsNote
      rw [m1, jb2_s, jck_of (a := t) (b := 0) (by omega) (by omega) (by omega) (by omega), if_neg c1, m2, jb2_s, jck_of (a := v2) (b := 0) (by omega) (by omega) (by omega) (by omega), if_pos c2]
      exact ⟨_, _, _, _, j36 o2 t fs lt ea⟩
  have d2 : o2 = o1 + 1 ∧ o1 < le ∧ pd o1 = 58 := by omega
  obtain ⟨a, o3, s3, m3, r3, o3a, o3b, o3c⟩ := take_both (fu := fu) (mx := 99) (po := o2) hP (by omega) (by omega) (by omega) (by omega) hf
  by_cases c3 : a < 0
  · have e3 : a = -1 := by omega
    refine Or.inr ⟨o3, by omega, by omega, fun pt pf pl pa fo => ?_, fun tk fs lt ea => ?_⟩
    · unfold f_X1_scanNote
      rw [s1, jb2_s, jck_of (a := t) (b := 0) (by omega) (by omega) (by omega) (by omega), if_neg c1, s2, jb2_s, jck_of (a := v2) (b := 0) (by omega) (by omega) (by omega) (by omega), if_pos c2, s3, jb2_s, jck_of (a := a) (b := 0) (by omega) (by omega) (by omega) (by omega), if_pos c3, jbo_of (Or.inl rfl)]
    · unfold f_X5_readsNote
      rw [m1, jb2_s, jck_of (a := t) (b := 0) (by omega) (by omega) (by omega) (by omega), if_neg c1, m2, jb2_s, jck_of (a := v2) (b := 0) (by omega) (by omega) (by omega) (by omega), if_neg c2, m3, jb2_s, e3]
      exact ⟨_, _, _, _, j37 o3 t fs lt ea⟩
  obtain ⟨v4, o4, s4, m4, r4⟩ := next_both (fu := fu) (c := 45) (po := o3) hP (by omega) (by omega) (by omega) o3b
  by_cases c4 : v4 = 0
  · refine Or.inr ⟨o4, by omega, by omega, fun pt pf pl pa fo => ?_, fun tk fs lt ea => ?_⟩
    · unfold f_X1_scanNote
      rw [s1, jb2_s, jck_of (a := t) (b := 0) (by omega) (by omega) (by omega) (by omega), if_neg c1, s2, jb2_s, jck_of (a := v2) (b := 0) (by omega) (by omega) (by omega) (by omega), if_pos c2, s3, jb2_s, jck_of (a := a) (b := 0) (by omega) (by omega) (by omega) (by omega), if_neg c3, s4, jb2_s, jck_of (a := v4) (b := 0) (by omega) (by omega) (by omega) (by omega), if_neg (fun z => z c4), jbo_of (Or.inl rfl)]
    · unfold f_X5_readsNote
      rw [m1, jb2_s, jck_of (a := t) (b := 0) (by omega) (by omega) (by omega) (by omega), if_neg c1, m2, jb2_s, jck_of (a := v2) (b := 0) (by omega) (by omega) (by omega) (by omega), if_neg c2, m3, jb2_s]
      unfold f_X5_readsNote_J37
      rw [jck_of (a := a) (b := 0) (by omega) (by omega) (by omega) (by omega), if_neg c3, m4, jb2_s, jck_of (a := v4) (b := 0) (by omega) (by omega) (by omega) (by omega), if_pos c4]
      exact ⟨_, _, _, _, j66 o4 t a lt ea⟩
  have d4 : o4 = o3 + 1 ∧ o3 < le ∧ pd o3 = 45 := by omega
  obtain ⟨b, o5, s5, m5, r5, o5a, o5b, o5c⟩ := take_both (fu := fu) (mx := 99) (po := o4) hP (by omega) (by omega) (by omega) (by omega) hf
  by_cases c5 : b < 0
  · have e5 : b = -1 := by omega
    refine Or.inr ⟨o5, by omega, by omega, fun pt pf pl pa fo => ?_, fun tk fs lt ea => ?_⟩
    · unfold f_X1_scanNote
      rw [s1, jb2_s, jck_of (a := t) (b := 0) (by omega) (by omega) (by omega) (by omega), if_neg c1, s2, jb2_s, jck_of (a := v2) (b := 0) (by omega) (by omega) (by omega) (by omega), if_pos c2, s3, jb2_s, jck_of (a := a) (b := 0) (by omega) (by omega) (by omega) (by omega), if_neg c3, s4, jb2_s, jck_of (a := v4) (b := 0) (by omega) (by omega) (by omega) (by omega), if_pos c4, s5, jb2_s, jck_of (a := b) (b := 0) (by omega) (by omega) (by omega) (by omega), if_neg (by omega), jbo_of (Or.inl rfl)]
    · unfold f_X5_readsNote
      rw [m1, jb2_s, jck_of (a := t) (b := 0) (by omega) (by omega) (by omega) (by omega), if_neg c1, m2, jb2_s, jck_of (a := v2) (b := 0) (by omega) (by omega) (by omega) (by omega), if_neg c2, m3, jb2_s]
      unfold f_X5_readsNote_J37
      rw [jck_of (a := a) (b := 0) (by omega) (by omega) (by omega) (by omega), if_neg c3, m4, jb2_s, jck_of (a := v4) (b := 0) (by omega) (by omega) (by omega) (by omega), if_neg c4, m5, jb2_s, e5]
      exact ⟨_, _, _, _, j67 o5 t a lt ea⟩
  obtain ⟨x, o6, s6, m6, r6⟩ := next_both (fu := fu) (c := 33) (po := o5) hP (by omega) (by omega) (by omega) o5b
  have w6 : x = 0 ∨ x = 1 := by omega
  refine Or.inl ⟨t, a, b, x, o6, ⟨⟨by omega, by omega, by omega, by omega, by omega, by omega, w6⟩, ⟨by omega, by omega⟩, fun tk fs lt ea => ?_, fun k k0 k1 => ?_⟩, fun pt pf pl pa fo f0 f1 => ?_⟩
  · unfold f_X5_readsNote
    rw [m1, jb2_s, jck_of (a := t) (b := 0) (by omega) (by omega) (by omega) (by omega), if_neg c1, m2, jb2_s, jck_of (a := v2) (b := 0) (by omega) (by omega) (by omega) (by omega), if_neg c2, m3, jb2_s]
    unfold f_X5_readsNote_J37
    rw [jck_of (a := a) (b := 0) (by omega) (by omega) (by omega) (by omega), if_neg c3, m4, jb2_s, jck_of (a := v4) (b := 0) (by omega) (by omega) (by omega) (by omega), if_neg c4, m5, jb2_s]
    unfold f_X5_readsNote_J67
    rw [jck_of (a := b) (b := 0) (by omega) (by omega) (by omega) (by omega), if_neg c5, m6, jb2_s, jck_of (a := x) (b := 0) (by omega) (by omega) (by omega) (by omega)]
    by_cases c6 : x = 0
    · rw [if_pos c6]
      unfold f_X5_readsNote_J91 f_X5_readsNote_J92
      rw [jck_of (by omega) (by omega) (by omega) (by omega), if_neg c5, jbo_of (Or.inr rfl), c6]
    · rw [if_neg c6]
      unfold f_X5_readsNote_J92
      rw [jck_of (by omega) (by omega) (by omega) (by omega), if_neg c5, jbo_of (Or.inr rfl), show x = 1 by omega]
  · by_cases q1 : k < o1
    · exact o1c k k0 q1
    by_cases q2 : k = o1
    · rw [q2]; omega
    by_cases q3 : k < o3
    · exact o3c k (by omega) q3
    by_cases q4 : k = o3
    · rw [q4]; omega
    by_cases q5 : k < o5
    · exact o5c k (by omega) q5
    · have : k = o5 := by omega
      rw [this]; omega
  · unfold f_X1_scanNote
    rw [s1, jb2_s, jck_of (a := t) (b := 0) (by omega) (by omega) (by omega) (by omega), if_neg c1, s2, jb2_s, jck_of (a := v2) (b := 0) (by omega) (by omega) (by omega) (by omega), if_pos c2, s3, jb2_s, jck_of (a := a) (b := 0) (by omega) (by omega) (by omega) (by omega), if_neg c3, s4, jb2_s, jck_of (a := v4) (b := 0) (by omega) (by omega) (by omega) (by omega), if_pos c4, s5, jb2_s, jck_of (a := b) (b := 0) (by omega) (by omega) (by omega) (by omega), if_pos (by omega), s6, jb2_s, q_keep f0 f1 w6]
    exact jbo_of (Or.inr rfl)
end Q66
