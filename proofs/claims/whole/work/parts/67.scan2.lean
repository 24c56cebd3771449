/-! all notes of a text, their turned ones, their number -/
section Q67
variable {fu : Nat} {tx pd pt pf pl pa P : Int → Int} {le pn n : Int}
def SQ (fu : Nat) (pd : Int → Int) (pn : Int) (pt pf pl pa P : Int → Int) (n : Int) : Prop := P 0 = 0 ∧ (∀ i, 0 ≤ i → i < n → 0 ≤ P i ∧ RD fu pd pn (P i) (pt i) (pf i) (pl i) (pa i) (P (i + 1) - 1)) ∧ ∀ i, 0 < i → i < n → pd (P i - 1) = 59 ∧ P i ≤ pn
theorem SQ_add {t a b x e : Int} (h : SQ fu pd pn pt pf pl pa P n) (hn : 0 ≤ n) (hp : 0 ≤ P n) (hr : RD fu pd pn (P n) t a b x e) (h5 : 0 < n → pd (P n - 1) = 59 ∧ P n ≤ pn) : SQ fu pd pn (uI pt n t) (uI pf n a) (uI pl n b) (uI pa n x) (uI P (n + 1) (e + 1)) (n + 1) := by
  obtain ⟨h0, h1, h2⟩ := h
  refine ⟨by rw [uI_n _ _ (by omega)]; exact h0, fun i i0 i1 => ?_, fun i i0 i1 => ?_⟩
  · by_cases c : i = n
    · subst c
      rw [uI_n P _ (by omega), uI_s, uI_s, uI_s, uI_s, uI_s, show e + 1 - 1 = e by omega]
      exact ⟨hp, hr⟩
    · rw [uI_n P _ (by omega), uI_n P _ (by omega), uI_n _ _ c, uI_n _ _ c, uI_n _ _ c, uI_n _ _ c]
      exact h1 i i0 (by omega)
  · rw [uI_n P _ (by omega)]
    by_cases c : i = n
    · rw [c]; exact h5 (by omega)
    · exact h2 i i0 (by omega)
theorem scan_both (hP : PDt tx le pd pn) (hf : 100 ≤ fu) : ∀ (j q1 q2 : Nat) (i po : Int) (pt pf pl pa P : Int → Int) (tk fs lt ea : Int), i + j = 10 → j < q1 → j < q2 → 0 ≤ i → P i = po → 0 ≤ po → po ≤ le → 6 * i ≤ po → SQ fu pd pn pt pf pl pa P i → (0 < i → pd (po - 1) = 59) →
    (∃ n P' pt' pf' pl' pa' po' tk' fs' lt' ea', f_X1_scan_L12 fu tx le (f_X1_scan_X59 fu) q1 po pt pf pl pa i i = some (1, po', pt', pf', pl', pa', n) ∧ f_X5_findFault_L5 fu pd pn (f_X5_findFault_X40 fu) q2 po tk fs lt ea = some (-6, po', tk', fs', lt', ea') ∧ SQ fu pd pn pt' pf' pl' pa' P' n ∧ 1 ≤ n ∧ n ≤ 10 ∧ P' n = pn + 1) ∨
    (∃ po' pt' pf' pl' pa' fo' tk' fs' lt' ea', f_X1_scan_L12 fu tx le (f_X1_scan_X59 fu) q1 po pt pf pl pa i i = some (0, po', pt', pf', pl', pa', fo') ∧ f_X5_findFault_L5 fu pd pn (f_X5_findFault_X40 fu) q2 po tk fs lt ea = some (po', po', tk', fs', lt', ea') ∧ 0 ≤ po' ∧ po' ≤ 60) := by
  intro j
  have a0 := hP.1
  have b0 := hP.2.1
  have pe := hP.2.2.1
  induction j with
  | zero =>
    intro q1 q2 i po pt pf pl pa P tk fs lt ea h1 h2 h3 i0 hPi p0 p1 h6 hS h59
    obtain ⟨q1, rfl⟩ : ∃ q', q1 = q' + 1 := ⟨q1 - 1, by omega⟩
    obtain ⟨q2, rfl⟩ : ∃ q', q2 = q' + 1 := ⟨q2 - 1, by omega⟩
    have e10 : i = 10 := by omega
    rcases note_both (fu := fu) hP p0 p1 hf with ⟨t, a, b, x, e, hR, -⟩ | ⟨e, e0, e1, -, hm⟩
    · have := hR.2.1
      omega
    · obtain ⟨tk', fs', lt', ea', em⟩ := hm tk fs lt ea
      have ep : e = po := by omega
      rw [ep] at em
      refine Or.inr ⟨po, pt, pf, pl, pa, i, tk', fs', lt', ea', ?_, ?_, p0, by omega⟩
      · show f_X1_scan_L12_b fu tx le _ _ po pt pf pl pa i i = _
        unfold f_X1_scan_L12_b
        rw [jck_of (by omega) (by omega) (by omega) (by omega), if_pos (by omega)]
        exact jbo_of (Or.inl rfl)
      · show f_X5_findFault_L5_b fu pd pn _ _ po tk fs lt ea = _
        unfold f_X5_findFault_L5_b
        rw [em, jb6_s, jck_of (by omega) (by omega) (by omega) (by omega), if_neg (by omega)]
  | succ j ih =>
    intro q1 q2 i po pt pf pl pa P tk fs lt ea h1 h2 h3 i0 hPi p0 p1 h6 hS h59
    obtain ⟨q1, rfl⟩ : ∃ q', q1 = q' + 1 := ⟨q1 - 1, by omega⟩
    obtain ⟨q2, rfl⟩ : ∃ q', q2 = q' + 1 := ⟨q2 - 1, by omega⟩
    have ec : f_X1_scan_L12 fu tx le (f_X1_scan_X59 fu) (q1 + 1) po pt pf pl pa i i = f_X1_scan_L12_b fu tx le (f_X1_scan_X59 fu) (f_X1_scan_L12 fu tx le (f_X1_scan_X59 fu) q1) po pt pf pl pa i i := rfl
    have ed : f_X5_findFault_L5 fu pd pn (f_X5_findFault_X40 fu) (q2 + 1) po tk fs lt ea = f_X5_findFault_L5_b fu pd pn (f_X5_findFault_X40 fu) (f_X5_findFault_L5 fu pd pn (f_X5_findFault_X40 fu) q2) po tk fs lt ea := rfl
    rw [ec, ed]
    unfold f_X1_scan_L12_b f_X5_findFault_L5_b
    rcases note_both (fu := fu) hP p0 p1 hf with ⟨t, a, b, x, e, hR, hq⟩ | ⟨e, e0, e1, hq, hm⟩
    · have hR2 := hR.2.1
      have hR3 := hR.2.2.1 tk fs lt ea
      rw [jck_of (by omega) (by omega) (by omega) (by omega), if_neg (by omega), hq pt pf pl pa i i0 (by omega), jb7_s, jck_of (by omega) (by omega) (by omega) (by omega), if_pos (show (1 : Int) ≠ 0 by omega), hR3, jb6_s, jck_of (by omega) (by omega) (by omega) (by omega), if_pos (show (1 : Int) ≠ 0 by omega)]
      obtain ⟨v, o, s1, m1, r⟩ := next_both (fu := fu) (c := 59) (po := e) hP (by omega) (by omega) (by omega) (by omega)
      have hS' : SQ fu pd pn (uI pt i t) (uI pf i a) (uI pl i b) (uI pa i x) (uI P (i + 1) (e + 1)) (i + 1) := SQ_add hS i0 (by omega) (by rw [hPi]; exact hR) (fun z => by rw [hPi]; exact ⟨h59 z, by omega⟩)
      rw [s1, jb2_s, jck_of (a := v) (b := 0) (by omega) (by omega) (by omega) (by omega)]
      by_cases c : v = 0
      · rw [if_neg (fun z => z c), jck_of (by omega) (by omega) (by omega) (by omega), jck_of (by omega) (by omega) (by omega) (by omega)]
        have eo : o = e := by omega
        by_cases d : e = pn
        · rw [if_neg (show ¬ o ≠ le by omega), if_neg (show ¬ e ≠ pn from fun z => z d), jbo_of (Or.inr rfl), eo]
          exact Or.inl ⟨i + 1, _, _, _, _, _, _, _, _, _, _, rfl, rfl, hS', by omega, by omega, by rw [uI_s]; omega⟩
        · rw [if_pos (show o ≠ le by omega), if_pos (show e ≠ pn from d), jbo_of (Or.inl rfl), m1, jb2_s, jck_of (by omega) (by omega) (by omega) (by omega), if_neg (show ¬ v ≠ 0 from fun z => z c), eo]
          exact Or.inr ⟨_, _, _, _, _, _, _, _, _, _, rfl, rfl, by omega, by omega⟩
      · rw [if_pos c, jck_of (by omega) (by omega) (by omega) (by omega), if_pos (show e ≠ pn by omega), m1, jb2_s, jck_of (by omega) (by omega) (by omega) (by omega), if_pos c]
        exact ih q1 q2 (i + 1) o _ _ _ _ (uI P (i + 1) (e + 1)) t a b x (by omega) (by omega) (by omega) (by omega) (by rw [uI_s]; omega) (by omega) (by omega) (by omega) hS' (fun _ => by rw [show o - 1 = e by omega]; omega)
    · obtain ⟨tk', fs', lt', ea', em⟩ := hm tk fs lt ea
      rw [jck_of (by omega) (by omega) (by omega) (by omega), if_neg (by omega), hq pt pf pl pa i, jb7_s, jck_of (by omega) (by omega) (by omega) (by omega), if_neg (show ¬ (0 : Int) ≠ 0 by omega), em, jb6_s, jck_of (by omega) (by omega) (by omega) (by omega), if_neg (show ¬ (0 : Int) ≠ 0 by omega), jbo_of (Or.inl rfl)]
      exact Or.inr ⟨_, _, _, _, _, _, _, _, _, _, rfl, rfl, by omega, by omega⟩
theorem SQ_0 (pt pf pl pa : Int → Int) : SQ fu pd pn pt pf pl pa (fun _ => 0) 0 := ⟨rfl, fun i i0 i1 => by omega, fun i i0 i1 => by omega⟩
theorem scan_all {po tk fs lt ea at_ fo : Int} (hP : PDt tx le pd pn) (hf : 100 ≤ fu) :
    (∃ n P' pt' pf' pl' pa' po' at' tk' fs' lt' ea', f_X1_scan fu tx le po pt pf pl pa fo = some (1, po', pt', pf', pl', pa', n) ∧ f_X5_findFault fu pd pn at_ tk fs lt ea = some (-6, at', tk', fs', lt', ea') ∧ SQ fu pd pn pt' pf' pl' pa' P' n ∧ 1 ≤ n ∧ n ≤ 10 ∧ P' n = pn + 1) ∨
    (∃ po' pt' pf' pl' pa' fo' at' tk' fs' lt' ea', f_X1_scan fu tx le po pt pf pl pa fo = some (0, po', pt', pf', pl', pa', fo') ∧ f_X5_findFault fu pd pn at_ tk fs lt ea = some (po', at', tk', fs', lt', ea') ∧ 0 ≤ po' ∧ po' ≤ 60) := by
  unfold f_X1_scan f_X5_findFault
  rcases scan_both (fu := fu) hP hf 10 fu fu 0 0 pt pf pl pa (fun _ => 0) tk fs lt ea (by omega) (by omega) (by omega) (by omega) rfl (by omega) hP.1 (by omega) (SQ_0 pt pf pl pa) (fun z => by omega) with ⟨n, P', a1, a2, a3, a4, a5, a6, a7, a8, a9, h1, h2, h3⟩ | ⟨a1, a2, a3, a4, a5, a6, a7, a8, a9, a10, h1, h2, h3⟩
  · exact Or.inl ⟨n, P', _, _, _, _, _, _, _, _, _, _, h1, h2, h3⟩
  · exact Or.inr ⟨_, _, _, _, _, _, _, _, _, _, _, h1, h2, h3⟩
theorem op_fault {po tk fs lt ea at_ fo : Int} (hP : PDt tx le pd pn) (hf : 500 ≤ fu) :
    ∃ r po' pt' pf' pl' pa' fo' at' tk' fs' lt' ea', f_X4_fault fu tx le po pt pf pl pa fo = some (r, po', pt', pf', pl', pa', fo') ∧ f_X5_findFault fu pd pn at_ tk fs lt ea = some (r, at', tk', fs', lt', ea') := by
  unfold f_X4_fault
  rcases scan_all (fu := fu) (pt := pt) (pf := pf) (pl := pl) (pa := pa) (po := po) (tk := tk) (fs := fs) (lt := lt) (ea := ea) (at_ := at_) (fo := fo) hP (by omega) with ⟨n, P', a1, a2, a3, a4, a5, a6, a7, a8, a9, a10, h1, h2, h3⟩ | ⟨a1, a2, a3, a4, a5, a6, a7, a8, a9, a10, a11, h1, h2, h3⟩
  · rw [h1, h2, jb7_s, jck_of (by omega) (by omega) (by omega) (by omega), if_neg (by omega)]
    exact ⟨_, _, _, _, _, _, _, _, _, _, _, _, rfl, rfl⟩
  · rw [h1, h2, jb7_s, jck_of (by omega) (by omega) (by omega) (by omega), if_pos (by omega)]
    exact ⟨_, _, _, _, _, _, _, _, _, _, _, _, rfl, rfl⟩
theorem q_found {fo k : Int} (k0 : 0 ≤ k) (k1 : k < fo) (h : fo ≤ 10) : f_X1_isFound fu fo k = some 1 := by
  unfold f_X1_isFound
  rw [jck_of (by omega) (by omega) (by omega) (by omega), if_neg (by omega), jck_of (by omega) (by omega) (by omega) (by omega), if_neg (by omega), jck_of (by omega) (by omega) (by omega) (by omega), if_neg (by omega), jbo_of (Or.inr rfl)]
theorem q_fLast {k : Int} (k0 : 0 ≤ k) (k1 : k < n) (h : n ≤ 10) : f_X1_foundLast fu pl n k = some (pl k) := by
  unfold f_X1_foundLast
  rw [q_found k0 k1 h, jb_s, jck_of (by omega) (by omega) (by omega) (by omega), if_neg (by omega), jix_of k0 (by omega)]
theorem q_fFirst {k : Int} (k0 : 0 ≤ k) (k1 : k < n) (h : n ≤ 10) : f_X1_foundFirst fu pf n k = some (pf k) := by
  unfold f_X1_foundFirst
  rw [q_found k0 k1 h, jb_s, jck_of (by omega) (by omega) (by omega) (by omega), if_neg (by omega), jix_of k0 (by omega)]
theorem q_fTrack {k : Int} (k0 : 0 ≤ k) (k1 : k < n) (h : n ≤ 10) : f_X1_foundTrack fu pt n k = some (pt k) := by
  unfold f_X1_foundTrack
  rw [q_found k0 k1 h, jb_s, jck_of (by omega) (by omega) (by omega) (by omega), if_neg (by omega), jix_of k0 (by omega)]
theorem q_fAcc {k : Int} (k0 : 0 ≤ k) (k1 : k < n) (h : n ≤ 10) (hx : pa k = 0 ∨ pa k = 1) : f_X1_foundAccent fu pa n k = some (pa k) := by
  unfold f_X1_foundAccent
  rw [q_found k0 k1 h, jb_s, jck_of (by omega) (by omega) (by omega) (by omega), if_neg (by omega), jix_of k0 (by omega), jck_of (by omega) (by omega) (by omega) (by omega)]
  by_cases c : pa k = 0
  · rw [if_pos c, jbo_of (Or.inl rfl), c]
  · rw [if_neg c, jbo_of (Or.inr rfl), show pa k = 1 by omega]
theorem q_turned (hS : SQ fu pd pn pt pf pl pa P n) (hn : n ≤ 10) : ∀ (j q : Nat) (i : Int), i + j = n → j < q → 0 ≤ i → ∃ r, f_X1_hasTurnedNote_L2 fu pf pl n (f_X1_hasTurnedNote_X31 fu) q i = some r ∧ ((r = 0 ∧ ∀ k, i ≤ k → k < n → pf k ≤ pl k) ∨ (r = 1 ∧ ∃ k, i ≤ k ∧ k < n ∧ pl k < pf k)) := by
  intro j
  induction j with
  | zero =>
    intro q i h1 h2 i0
    obtain ⟨q, rfl⟩ : ∃ q', q = q' + 1 := ⟨q - 1, by omega⟩
    refine ⟨0, ?_, Or.inl ⟨rfl, fun k k0 k1 => by omega⟩⟩
    show f_X1_hasTurnedNote_L2_b fu pf pl n _ _ i = _
    unfold f_X1_hasTurnedNote_L2_b
    rw [jck_of (by omega) (by omega) (by omega) (by omega), if_pos (by omega)]
    exact jbo_of (Or.inl rfl)
  | succ j ih =>
    intro q i h1 h2 i0
    obtain ⟨q, rfl⟩ : ∃ q', q = q' + 1 := ⟨q - 1, by omega⟩
    have hr := (hS.2.1 i i0 (by omega)).2.1
    show ∃ r, f_X1_hasTurnedNote_L2_b fu pf pl n _ _ i = some r ∧ _
    unfold f_X1_hasTurnedNote_L2_b
    rw [jck_of (by omega) (by omega) (by omega) (by omega), if_neg (by omega), q_fLast i0 (by omega) hn, jb_s, q_fFirst i0 (by omega) hn, jb_s, jck_of (by omega) (by omega) (by omega) (by omega)]
    by_cases c : pf i ≤ pl i
    · rw [if_pos c]
      obtain ⟨r, e, h⟩ := ih q (i + 1) (by omega) (by omega) (by omega)
      refine ⟨r, e, ?_⟩
      rcases h with ⟨z, h⟩ | ⟨z, k, k0, k1, h⟩
      · refine Or.inl ⟨z, fun k k0 k1 => ?_⟩
        by_cases d : k = i
        · rw [d]; exact c
        · exact h k (by omega) k1
      · exact Or.inr ⟨z, k, by omega, k1, h⟩
    · rw [if_neg c, jbo_of (Or.inr rfl)]
      exact ⟨1, rfl, Or.inr ⟨rfl, i, by omega, by omega, by omega⟩⟩
/-- where the model stands before note i -/
def At (P : Int → Int) (n pn i : Int) : Int := if i < n then P i else pn
theorem m_sign (hP : PDt tx le pd pn) (hS : SQ fu pd pn pt pf pl pa P n) (hn : P n = pn + 1) {i : Int} (i0 : 0 ≤ i) (i1 : i < n) : ∃ z, f_X5_isNext fu pd pn (P (i + 1) - 1) 59 = some (z, At P n pn (i + 1)) := by
  have hR := (hS.2.1 i i0 i1)
  have h5 := hR.2.2.1
  have h0 := hR.1
  have pe := hP.2.2.1
  obtain ⟨v, o, -, m1, r⟩ := next_both (fu := fu) (c := 59) (po := P (i + 1) - 1) hP (by omega) (by omega) (by omega) (by omega)
  refine ⟨v, ?_⟩
  rw [m1]
  unfold At
  by_cases c : i + 1 < n
  · have := hS.2.2 (i + 1) (by omega) c
    rw [if_pos c, show o = P (i + 1) by omega]
  · have e : i + 1 = n := by omega
    rw [e] at h5 r ⊢
    rw [if_neg (by omega), show o = pn by omega]
theorem m_turned (hP : PDt tx le pd pn) (hS : SQ fu pd pn pt pf pl pa P n) (hn : P n = pn + 1) : ∀ (j q : Nat) (i : Int) (tk fs lt ea c : Int) (st : Int → Int), i + j = n → j < q → 0 ≤ i → 0 ≤ c → ∃ v at' tk' fs' lt' ea', f_X5_wrongInPad_L7 fu pd pn 0 (f_X5_wrongInPad_X116 fu) q (At P n pn i) tk fs lt ea st c = some (v, at', tk', fs', lt', ea', st) ∧ c ≤ v ∧ v ≤ c + j ∧ ((v = c ∧ ∀ k, i ≤ k → k < n → pf k ≤ pl k) ∨ (c < v ∧ ∃ k, i ≤ k ∧ k < n ∧ pl k < pf k)) := by
  intro j
  have p0 := hP.1
  have p1 := hP.2.1
  have pe := hP.2.2.1
  induction j with
  | zero =>
    intro q i tk fs lt ea c st h1 h2 i0 c0
    obtain ⟨q, rfl⟩ : ∃ q', q = q' + 1 := ⟨q - 1, by omega⟩
    refine ⟨c, pn, tk, fs, lt, ea, ?_, by omega, by omega, Or.inl ⟨rfl, fun k k0 k1 => by omega⟩⟩
    unfold At
    rw [if_neg (by omega)]
    show f_X5_wrongInPad_L7_b fu pd pn 0 _ _ pn tk fs lt ea st c = _
    unfold f_X5_wrongInPad_L7_b
    rw [jck_of (by omega) (by omega) (by omega) (by omega), if_pos (by omega)]
    rfl
  | succ j ih =>
    intro q i tk fs lt ea c st h1 h2 i0 c0
    obtain ⟨q, rfl⟩ : ∃ q', q = q' + 1 := ⟨q - 1, by omega⟩
    have hR := hS.2.1 i i0 (by omega)
    have h5 := hR.2.2.1
    have h0 := hR.1
    have hb := hR.2.1
    obtain ⟨z, ez⟩ := m_sign (fu := fu) hP hS hn i0 (by omega)
    have eA : At P n pn i = P i := if_pos (by omega)
    rw [eA]
    show ∃ v at' tk' fs' lt' ea', f_X5_wrongInPad_L7_b fu pd pn 0 _ _ (P i) tk fs lt ea st c = _ ∧ _
    unfold f_X5_wrongInPad_L7_b f_X5_wrongInPad_J90
    rw [jck_of (by omega) (by omega) (by omega) (by omega), if_neg (by omega), hR.2.2.2.1 tk fs lt ea, jb6_s, ez, jb2_s, jck_of (by omega) (by omega) (by omega) (by omega), if_pos rfl, jck_of (by omega) (by omega) (by omega) (by omega), if_neg (show ¬ (0 : Int) ≠ 0 by omega), jck_of (by omega) (by omega) (by omega) (by omega)]
    by_cases d : pf i ≤ pl i
    · rw [if_pos d, show c + 0 = c by omega]
      obtain ⟨v, a1, a2, a3, a4, a5, e, v0, v1, h⟩ := ih q (i + 1) (pt i) (pf i) (pl i) (pa i) c st (by omega) (by omega) (by omega) c0
      refine ⟨v, a1, a2, a3, a4, a5, e, v0, by omega, ?_⟩
      rcases h with ⟨y, h⟩ | ⟨y, k, k0, k1, h⟩
      · refine Or.inl ⟨y, fun k k0 k1 => ?_⟩
        by_cases g : k = i
        · rw [g]; exact d
        · exact h k (by omega) k1
      · exact Or.inr ⟨y, k, by omega, k1, h⟩
    · rw [if_neg d]
      obtain ⟨v, a1, a2, a3, a4, a5, e, v0, v1, h⟩ := ih q (i + 1) (pt i) (pf i) (pl i) (pa i) (c + 1) st (by omega) (by omega) (by omega) (by omega)
      exact ⟨v, a1, a2, a3, a4, a5, e, by omega, by omega, Or.inr ⟨by omega, i, by omega, by omega, by omega⟩⟩
/-- the signs between notes, counted -/
theorem m_skip (hP : PDt tx le pd pn) {v e : Int} (he : e ≤ pn) : ∀ (j q : Nat) (k : Int), k + j = e → 0 ≤ k → (∀ m, k ≤ m → m < e → pd m ≠ 59) → f_X5_notesInPad_L4 fu pd pn (f_X5_notesInPad_X37 fu) (q + j) v k = f_X5_notesInPad_L4 fu pd pn (f_X5_notesInPad_X37 fu) q v e := by
  intro j
  have p1 := hP.2.1
  have pe := hP.2.2.1
  induction j with
  | zero =>
    intro q k h1 k0 h
    rw [show k = e by omega]
    rfl
  | succ j ih =>
    intro q k h1 k0 h
    have hc := hP.2.2.2 k k0 (by omega)
    rw [← ih q (k + 1) (by omega) (by omega) (fun m m0 m1 => h m (by omega) m1)]
    show f_X5_notesInPad_L4_b fu pd pn _ _ v k = _
    unfold f_X5_notesInPad_L4_b
    rw [jck_of (by omega) (by omega) (by omega) (by omega), if_neg (by omega), jix_of k0 (by omega), jck_of (by omega) (by omega) (by omega) (by omega), if_pos (h k (by omega) (by omega)), show v + 0 = v by omega]
    rfl
theorem m_notes (hP : PDt tx le pd pn) (hS : SQ fu pd pn pt pf pl pa P n) (hn : P n = pn + 1) : ∀ (j q : Nat) (i : Int), i + j + 1 = n → 0 ≤ i → pn < P i + q → f_X5_notesInPad_L4 fu pd pn (f_X5_notesInPad_X37 fu) q (i + 1) (P i) = some n := by
  intro j
  have p0 := hP.1
  have p1 := hP.2.1
  have pe := hP.2.2.1
  induction j with
  | zero =>
    intro q i h1 i0 hq
    have hR := hS.2.1 i i0 (by omega)
    have h5 := hR.2.2.1
    have e : i + 1 = n := by omega
    have ha := hR.2.2.2.2
    have h0 := hR.1
    rw [e] at h5 ha ⊢
    obtain ⟨q', rfl⟩ : ∃ q', q = q' + 1 + (pn - P i).toNat := ⟨q - 1 - (pn - P i).toNat, by omega⟩
    rw [m_skip (fu := fu) hP (e := pn) (by omega) (pn - P i).toNat (q' + 1) (P i) (by omega) (by omega) (fun m m0 m1 => ha m m0 (by omega))]
    show f_X5_notesInPad_L4_b fu pd pn _ _ n pn = _
    unfold f_X5_notesInPad_L4_b
    rw [jck_of (by omega) (by omega) (by omega) (by omega), if_pos (by omega)]
    rfl
  | succ j ih =>
    intro q i h1 i0 hq
    have hR := hS.2.1 i i0 (by omega)
    have h5 := hR.2.2.1
    have ha := hR.2.2.2.2
    have h0 := hR.1
    have hs := hS.2.2 (i + 1) (by omega) (by omega)
    have hr0 := (hS.2.1 (i + 1) (by omega) (by omega)).1
    obtain ⟨q', rfl⟩ : ∃ q', q = q' + 1 + (P (i + 1) - 1 - P i).toNat := ⟨q - 1 - (P (i + 1) - 1 - P i).toNat, by omega⟩
    rw [m_skip (fu := fu) hP (e := P (i + 1) - 1) (by omega) (P (i + 1) - 1 - P i).toNat (q' + 1) (P i) (by omega) (by omega) ha]
    have e1 := ih q' (i + 1) (by omega) (by omega) (by omega)
    rw [← e1]
    show f_X5_notesInPad_L4_b fu pd pn _ _ (i + 1) (P (i + 1) - 1) = _
    unfold f_X5_notesInPad_L4_b
    have hc := hP.2.2.2 (P (i + 1) - 1) (by omega) (by omega)
    rw [jck_of (by omega) (by omega) (by omega) (by omega), if_neg (by omega), jix_of (by omega) (by omega), jck_of (by omega) (by omega) (by omega) (by omega), if_neg (fun z => z hs.1), show P (i + 1) - 1 + 1 = P (i + 1) by omega]
end Q67
