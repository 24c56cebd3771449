/-! notes of a text put in -/
section Q68
variable {fu : Nat} {tx pd pt pf pl pa P : Int → Int} {le pn n : Int}
/-- one note of the text, in the model: taken, or put in -/
theorem m_one {st se tr fi la sh ac : Int → Int} {no i tk fs lt ea c : Int} {q : Nat} (hP : PDt tx le pd pn) (hS : SQ fu pd pn pt pf pl pa P n) (hn : P n = pn + 1) (hT : ∀ k, 0 ≤ k → k < n → pf k ≤ pl k) (i0 : 0 ≤ i) (i1 : i < n) (hI : INV tr fi la sh ac no) (hR : RLm st se tr fi la sh ac no) (h40 : no < 40) (hf : 100 ≤ fu) :
    ((∃ k, 0 ≤ k ∧ k < no ∧ (tr k = pt i ∧ fi k ≤ pl i ∧ pf i ≤ la k)) ∧ f_X5_wrongInPad_L7 fu pd pn 1 (f_X5_wrongInPad_X116 fu) (q + 1) (P i) tk fs lt ea st c = f_X5_wrongInPad_L7 fu pd pn 1 (f_X5_wrongInPad_X116 fu) q (At P n pn (i + 1)) (pt i) (pf i) (pl i) (pa i) st (c + 1)) ∨
    ((¬ ∃ k, 0 ≤ k ∧ k < no ∧ (tr k = pt i ∧ fi k ≤ pl i ∧ pf i ≤ la k)) ∧ ∃ p st', f_X5_wrongInPad_L7 fu pd pn 1 (f_X5_wrongInPad_X116 fu) (q + 1) (P i) tk fs lt ea st c = f_X5_wrongInPad_L7 fu pd pn 1 (f_X5_wrongInPad_X116 fu) q (At P n pn (i + 1)) (pt i) (pf i) (pl i) (pa i) st' c ∧ f_X3_add fu tr fi la sh ac no (pt i) (pf i) (pl i) 0 (pa i) = some (p, ins tr p (pt i) no, ins fi p (pf i) no, ins la p (pl i) no, ins sh p 0 no, ins ac p (pa i) no, no + 1) ∧ RLm st' se (ins tr p (pt i) no) (ins fi p (pf i) no) (ins la p (pl i) no) (ins sh p 0 no) (ins ac p (pa i) no) (no + 1) ∧ INV (ins tr p (pt i) no) (ins fi p (pf i) no) (ins la p (pl i) no) (ins sh p 0 no) (ins ac p (pa i) no) (no + 1)) := by
  have p0 := hP.1
  have p1 := hP.2.1
  have pe := hP.2.2.1
  have hRD := hS.2.1 i i0 i1
  have h5 := hRD.2.2.1
  have h0 := hRD.1
  obtain ⟨t0, t1, a0, a1, b0, b1, hx⟩ := hRD.2.1
  have ab := hT i i0 i1
  obtain ⟨z, ez⟩ := m_sign (fu := fu) hP hS hn i0 i1
  obtain ⟨y, ey, y01, yi⟩ := m_isTaken (fu := fu) (t := pt i) (a := pf i) (b := pl i) hR hI.1 (by omega) (by omega) (by omega) (by omega) (by omega) (by omega) hf
  have hd : f_X5_wrongInPad_L7 fu pd pn 1 (f_X5_wrongInPad_X116 fu) (q + 1) (P i) tk fs lt ea st c = f_X5_wrongInPad_L7_b fu pd pn 1 (f_X5_wrongInPad_X116 fu) (f_X5_wrongInPad_L7 fu pd pn 1 (f_X5_wrongInPad_X116 fu) q) (P i) tk fs lt ea st c := rfl
  rw [hd]
  unfold f_X5_wrongInPad_L7_b f_X5_wrongInPad_J90
  rw [jck_of (by omega) (by omega) (by omega) (by omega), if_neg (by omega), hRD.2.2.2.1 tk fs lt ea, jb6_s, ez, jb2_s, jck_of (by omega) (by omega) (by omega) (by omega), if_neg (show ¬ (1 : Int) = 0 by omega), ey, jb_s, jck_of (by omega) (by omega) (by omega) (by omega)]
  by_cases g : ∃ k, 0 ≤ k ∧ k < no ∧ (tr k = pt i ∧ fi k ≤ pl i ∧ pf i ≤ la k)
  · have y1 := yi.mpr g
    refine Or.inl ⟨g, ?_⟩
    rw [if_pos (show y ≠ 0 by omega), jck_of (by omega) (by omega) (by omega) (by omega), if_pos (show (1 : Int) ≠ 0 by omega)]
  · have y0 : y = 0 := by
      rcases y01 with h | h
      · exact h
      · exact absurd (yi.mp h) g
    obtain ⟨p, ep, q0, q1, plo, phi⟩ := q_add (fu := fu) (t := pt i) (a := pf i) (b := pl i) (s_ := 0) (x := pa i) hI.1 hI.2.2.1 hI.2.1 h40 t0 t1 a0 a1 hx hf
    have hfree : ∀ k, 0 ≤ k → k < no → ¬ (tr k = pt i ∧ fi k ≤ pl i ∧ pf i ≤ la k) := fun k k0 k1 h => g ⟨k, k0, k1, h⟩
    have phi' := free_lt hI t0 t1 a0 ab hfree q0 phi
    obtain ⟨st', es, hR', -⟩ := m_putIn (fu := fu) (t := pt i) (a := pf i) (b := pl i) (s_ := 0) (x := pa i) hR hI.1 h40 t0 t1 a0 a1 q0 q1 plo phi' hf
    have n1 := hI.1.2.1
    refine Or.inr ⟨g, p, st', ?_, ep, hR', INV_ins hI h40 t0 t1 a0 ab b1 (by omega) (by omega) hx hfree q0 q1 plo phi'⟩
    rw [if_neg (show ¬ y ≠ 0 by omega), es, jb2_s, jck_of (by omega) (by omega) (by omega) (by omega), if_pos q0, show c + 0 = c by omega]
theorem m_end {st : Int → Int} {tk fs lt ea c i : Int} {q : Nat} (hP : PDt tx le pd pn) (h : n ≤ i) : f_X5_wrongInPad_L7 fu pd pn 1 (f_X5_wrongInPad_X116 fu) (q + 1) (At P n pn i) tk fs lt ea st c = some (c, pn, tk, fs, lt, ea, st) := by
  have p0 := hP.1
  have p1 := hP.2.1
  have pe := hP.2.2.1
  unfold At
  rw [if_neg (by omega)]
  show f_X5_wrongInPad_L7_b fu pd pn 1 _ _ pn tk fs lt ea st c = _
  unfold f_X5_wrongInPad_L7_b
  rw [jck_of (by omega) (by omega) (by omega) (by omega), if_pos (by omega)]
  rfl
theorem m_addrest (hP : PDt tx le pd pn) (hS : SQ fu pd pn pt pf pl pa P n) (hn : P n = pn + 1) (hT : ∀ k, 0 ≤ k → k < n → pf k ≤ pl k) (hf : 100 ≤ fu) : ∀ (j q : Nat) (i : Int) (st se tr fi la sh ac : Int → Int) (no tk fs lt ea c : Int), i + j = n → j < q → 0 ≤ i → no + j ≤ 40 → INV tr fi la sh ac no → RLm st se tr fi la sh ac no → ∃ v at' tk' fs' lt' ea' st', f_X5_wrongInPad_L7 fu pd pn 1 (f_X5_wrongInPad_X116 fu) q (At P n pn i) tk fs lt ea st c = some (v, at', tk', fs', lt', ea', st') ∧ c ≤ v ∧ v ≤ c + j := by
  intro j
  induction j with
  | zero =>
    intro q i st se tr fi la sh ac no tk fs lt ea c h1 h2 i0 h40 hI hR
    obtain ⟨q, rfl⟩ : ∃ q', q = q' + 1 := ⟨q - 1, by omega⟩
    rw [m_end hP (by omega)]
    exact ⟨_, _, _, _, _, _, _, rfl, by omega, by omega⟩
  | succ j ih =>
    intro q i st se tr fi la sh ac no tk fs lt ea c h1 h2 i0 h40 hI hR
    obtain ⟨q, rfl⟩ : ∃ q', q = q' + 1 := ⟨q - 1, by omega⟩
    have eA : At P n pn i = P i := if_pos (by omega)
    rw [eA]
    rcases m_one (fu := fu) (tk := tk) (fs := fs) (lt := lt) (ea := ea) (c := c) (q := q) hP hS hn hT i0 (by omega) hI hR (by omega) hf with ⟨g, e⟩ | ⟨g, p, st', e, ep, hR', hI'⟩
    · rw [e]
      obtain ⟨v, b1, b2, b3, b4, b5, b6, f, v0, v1⟩ := ih q (i + 1) st se tr fi la sh ac no (pt i) (pf i) (pl i) (pa i) (c + 1) (by omega) (by omega) (by omega) (by omega) hI hR
      exact ⟨v, b1, b2, b3, b4, b5, b6, f, by omega, by omega⟩
    · rw [e]
      obtain ⟨v, b1, b2, b3, b4, b5, b6, f, v0, v1⟩ := ih q (i + 1) st' se _ _ _ _ _ (no + 1) (pt i) (pf i) (pl i) (pa i) c (by omega) (by omega) (by omega) (by omega) hI' hR'
      exact ⟨v, b1, b2, b3, b4, b5, b6, f, by omega, by omega⟩
theorem add_both (hP : PDt tx le pd pn) (hS : SQ fu pd pn pt pf pl pa P n) (hn : P n = pn + 1) (hn10 : n ≤ 10) (hT : ∀ k, 0 ≤ k → k < n → pf k ≤ pl k) (hf : 100 ≤ fu) : ∀ (j q : Nat) (i : Int) (tr fi la sh ac : Int → Int) (no : Int), i + j = n → j < q → 0 ≤ i → no + j ≤ 40 → INV tr fi la sh ac no →
    ∃ r tr' fi' la' sh' ac' no', f_X4_addFoundNotes_L2 fu pt pf pl pa n (f_X4_addFoundNotes_X96 fu) q tr fi la sh ac no i = some (r, tr', fi', la', sh', ac', no') ∧ INV tr' fi' la' sh' ac' no' ∧
      ((r = 1 ∧ ∀ (q2 : Nat) st se tk fs lt ea, j < q2 → RLm st se tr fi la sh ac no → ∃ at' tk' fs' lt' ea' st', f_X5_wrongInPad_L7 fu pd pn 1 (f_X5_wrongInPad_X116 fu) q2 (At P n pn i) tk fs lt ea st 0 = some (0, at', tk', fs', lt', ea', st') ∧ RLm st' se tr' fi' la' sh' ac' no') ∨
       (r = 0 ∧ ∀ (q2 : Nat) st se tk fs lt ea, j < q2 → RLm st se tr fi la sh ac no → ∃ v at' tk' fs' lt' ea' st', f_X5_wrongInPad_L7 fu pd pn 1 (f_X5_wrongInPad_X116 fu) q2 (At P n pn i) tk fs lt ea st 0 = some (v, at', tk', fs', lt', ea', st') ∧ 0 < v ∧ v ≤ 100)) := by
  intro j
  induction j with
  | zero =>
    intro q i tr fi la sh ac no h1 h2 i0 h40 hI
    obtain ⟨q, rfl⟩ : ∃ q', q = q' + 1 := ⟨q - 1, by omega⟩
    refine ⟨1, tr, fi, la, sh, ac, no, ?_, hI, Or.inl ⟨rfl, fun q2 st se tk fs lt ea hq hR => ?_⟩⟩
    · show f_X4_addFoundNotes_L2_b fu pt pf pl pa n _ _ tr fi la sh ac no i = _
      unfold f_X4_addFoundNotes_L2_b f_X1_found
      rw [jb_s, jck_of (by omega) (by omega) (by omega) (by omega), if_pos (by omega)]
      exact jbo_of (Or.inr rfl)
    · obtain ⟨q2, rfl⟩ : ∃ q', q2 = q' + 1 := ⟨q2 - 1, by omega⟩
      rw [m_end hP (by omega)]
      exact ⟨_, _, _, _, _, _, rfl, hR⟩
  | succ j ih =>
    intro q i tr fi la sh ac no h1 h2 i0 h40 hI
    obtain ⟨q, rfl⟩ : ∃ q', q = q' + 1 := ⟨q - 1, by omega⟩
    have eA : At P n pn i = P i := if_pos (by omega)
    have hRD := hS.2.1 i i0 (by omega)
    obtain ⟨t0, t1, a0, a1, b0, b1, hx⟩ := hRD.2.1
    have i1 : i < n := by omega
    have hd : f_X4_addFoundNotes_L2 fu pt pf pl pa n (f_X4_addFoundNotes_X96 fu) (q + 1) tr fi la sh ac no i = f_X4_addFoundNotes_L2_b fu pt pf pl pa n (f_X4_addFoundNotes_X96 fu) (f_X4_addFoundNotes_L2 fu pt pf pl pa n (f_X4_addFoundNotes_X96 fu) q) tr fi la sh ac no i := rfl
    rw [hd]
    unfold f_X4_addFoundNotes_L2_b f_X1_found
    rw [jb_s, jck_of (by omega) (by omega) (by omega) (by omega), if_neg (by omega), q_fTrack i0 i1 hn10, jb_s, q_fFirst i0 i1 hn10, jb_s, q_fLast i0 i1 hn10, jb_s]
    obtain ⟨y, ey, y01, yt, yi⟩ := q_isTaken_x (fu := fu) (t := pt i) (a := pf i) (b := pl i) hI.1 (by omega) (by omega) (by omega) (by omega) (by omega) (by omega) hf
    rw [ey, jb_s, jck_of (by omega) (by omega) (by omega) (by omega)]
    by_cases g : ∃ k, 0 ≤ k ∧ k < no ∧ (tr k = pt i ∧ fi k ≤ pl i ∧ pf i ≤ la k)
    · have y1 := yi g
      rw [if_neg (by omega), jbo_of (Or.inl rfl)]
      refine ⟨0, _, _, _, _, _, _, rfl, hI, Or.inr ⟨rfl, fun q2 st se tk fs lt ea hq hR => ?_⟩⟩
      obtain ⟨q2, rfl⟩ : ∃ q', q2 = q' + 1 := ⟨q2 - 1, by omega⟩
      rw [eA]
      rcases m_one (fu := fu) (tk := tk) (fs := fs) (lt := lt) (ea := ea) (c := 0) (q := q2) hP hS hn hT i0 i1 hI hR (by omega) hf with ⟨-, e⟩ | ⟨g', -⟩
      · rw [e]
        obtain ⟨v, b1, b2, b3, b4, b5, b6, f, v0, v1⟩ := m_addrest (fu := fu) hP hS hn hT hf j q2 (i + 1) st se tr fi la sh ac no (pt i) (pf i) (pl i) (pa i) (0 + 1) (by omega) (by omega) (by omega) (by omega) hI hR
        exact ⟨v, b1, b2, b3, b4, b5, b6, f, by omega, by omega⟩
      · exact absurd g g'
    · have y0 : y = 0 := by
        rcases y01 with h | h
        · exact h
        · exact absurd (yt h) g
      rw [if_pos y0, jb_s, jb_s, jb_s, q_fAcc i0 i1 hn10 hx, jb_s]
      have ab := hT i i0 i1
      obtain ⟨p, ep, p0, p1, plo, phi⟩ := q_add (fu := fu) (t := pt i) (a := pf i) (b := pl i) (s_ := 0) (x := pa i) hI.1 hI.2.2.1 hI.2.1 (by omega) t0 t1 a0 a1 hx hf
      have hfree : ∀ k, 0 ≤ k → k < no → ¬ (tr k = pt i ∧ fi k ≤ pl i ∧ pf i ≤ la k) := fun k k0 k1 h => g ⟨k, k0, k1, h⟩
      have phi' := free_lt hI t0 t1 a0 ab hfree p0 phi
      have hI' := INV_ins (s_ := 0) hI (by omega) t0 t1 a0 ab b1 (by omega) (by omega) hx hfree p0 p1 plo phi'
      obtain ⟨r, tr', fi', la', sh', ac', no', e, hI2, h⟩ := ih q (i + 1) _ _ _ _ _ (no + 1) (by omega) (by omega) (by omega) (by omega) hI'
      rw [ep, jb7_s]
      refine ⟨r, tr', fi', la', sh', ac', no', e, hI2, ?_⟩
      have hstep : ∀ (q2 : Nat) st se tk fs lt ea, RLm st se tr fi la sh ac no → ∃ st', f_X5_wrongInPad_L7 fu pd pn 1 (f_X5_wrongInPad_X116 fu) (q2 + 1) (At P n pn i) tk fs lt ea st 0 = f_X5_wrongInPad_L7 fu pd pn 1 (f_X5_wrongInPad_X116 fu) q2 (At P n pn (i + 1)) (pt i) (pf i) (pl i) (pa i) st' 0 ∧ RLm st' se (ins tr p (pt i) no) (ins fi p (pf i) no) (ins la p (pl i) no) (ins sh p 0 no) (ins ac p (pa i) no) (no + 1) := by
        intro q2 st se tk fs lt ea hR
        rw [eA]
        rcases m_one (fu := fu) (tk := tk) (fs := fs) (lt := lt) (ea := ea) (c := 0) (q := q2) hP hS hn hT i0 i1 hI hR (by omega) hf with ⟨g', -⟩ | ⟨-, p2, st', e2, ep2, hR2, -⟩
        · exact absurd g' g
        · rw [ep] at ep2
          have epp : p = p2 := by
            injection ep2 with h1
            exact (Prod.mk.injEq .. ▸ h1).1
          rw [epp]
          exact ⟨st', e2, hR2⟩
      rcases h with ⟨h1', h⟩ | ⟨h1', h⟩
      · refine Or.inl ⟨h1', fun q2 st se tk fs lt ea hq hR => ?_⟩
        obtain ⟨q2, rfl⟩ : ∃ q', q2 = q' + 1 := ⟨q2 - 1, by omega⟩
        obtain ⟨st', e2, hR2⟩ := hstep q2 st se tk fs lt ea hR
        rw [e2]
        exact h q2 st' se _ _ _ _ (by omega) hR2
      · refine Or.inr ⟨h1', fun q2 st se tk fs lt ea hq hR => ?_⟩
        obtain ⟨q2, rfl⟩ : ∃ q', q2 = q' + 1 := ⟨q2 - 1, by omega⟩
        obtain ⟨st', e2, hR2⟩ := hstep q2 st se tk fs lt ea hR
        rw [e2]
        exact h q2 st' se _ _ _ _ (by omega) hR2
variable {st se tr fi la sh ac u_se u_tr u_fi u_la u_sh u_ac kpf hsf : Int → Int} {no u_no rc ol si : Int} {k_se k_tr k_fi k_la k_sh k_ac : Int → Int → Int} {k_no : Int → Int}
theorem op_read {po at_ tk fs lt ea fo : Int} (hS : RSt st se tr fi la sh ac no) (hH : HRt rc hsf ol si k_se k_tr k_fi k_la k_sh k_ac k_no) (hP : PDt tx le pd pn) (hAu : AC u_ac) (hf : 2000 ≤ fu) :
    ∃ r se' tr' fi' la' sh' ac' no' u_se' u_tr' u_fi' u_la' u_sh' u_ac' u_no' le' po' pt' pf' pl' pa' fo' ol' si' k_se' k_tr' k_fi' k_la' k_sh' k_ac' k_no' rc' pn' at' tk' fs' lt' ea' st' kpf' hsf', f_X4_read fu se tr fi la sh ac no u_se u_tr u_fi u_la u_sh u_ac u_no tx le po pt pf pl pa fo ol si k_se k_tr k_fi k_la k_sh k_ac k_no = some (r, se', tr', fi', la', sh', ac', no', u_se', u_tr', u_fi', u_la', u_sh', u_ac', u_no', le', po', pt', pf', pl', pa', fo', ol', si', k_se', k_tr', k_fi', k_la', k_sh', k_ac', k_no') ∧ f_X5_read fu rc pd pn at_ tk fs lt ea st kpf hsf = some (r, rc', pn', at', tk', fs', lt', ea', st', kpf', hsf') ∧ RSt st' se' tr' fi' la' sh' ac' no' ∧ HRt rc' hsf' ol' si' k_se' k_tr' k_fi' k_la' k_sh' k_ac' k_no' ∧ PDt tx le' pd pn' ∧ AC u_ac' := by
  have hI := hS.inv
  have hR := hS.1
  have n0 := hI.1.1
  have n1 := hI.1.2.1
  have p0 := hP.1
  have p1 := hP.2.1
  have pe := hP.2.2.1
  unfold f_X4_read f_X5_read
  rcases scan_all (fu := fu) (pt := pt) (pf := pf) (pl := pl) (pa := pa) (po := po) (tk := tk) (fs := fs) (lt := lt) (ea := ea) (at_ := at_) (fo := fo) hP (by omega) with ⟨n, P, pt', pf', pl', pa', po', at1, tk1, fs1, lt1, ea1, h1, h2, hQ, m0, m1, hPn⟩ | ⟨a1, a2, a3, a4, a5, a6, a7, a8, a9, a10, a11, h1, h2, h3, h4⟩
  · rw [h1, h2, jb7_s, jb6_s, jck_of (by omega) (by omega) (by omega) (by omega), if_pos (show (1 : Int) ≠ 0 by omega), jck_of (by omega) (by omega) (by omega) (by omega), if_pos (show (-6 : Int) = -6 from rfl)]
    obtain ⟨r1, e1, hr1⟩ := q_turned (fu := fu) hQ m1 n.toNat fu 0 (by omega) (by omega) (by omega)
    have eA0 : At P n pn 0 = 0 := by
      unfold At
      rw [if_pos (by omega), hQ.1]
    obtain ⟨v1, b1, b2, b3, b4, b5, e2, v10, v1n, hv1⟩ := m_turned (fu := fu) hP hQ hPn n.toNat fu 0 tk1 fs1 lt1 ea1 0 st (by omega) (by omega) (by omega) (by omega)
    rw [eA0] at e2
    unfold f_X1_hasTurnedNote
    rw [e1, jb_s]
    unfold f_X5_wrongInPad
    rw [e2, jb7_s, jck_of (by omega) (by omega) (by omega) (by omega), jck_of (by omega) (by omega) (by omega) (by omega)]
    by_cases c1 : r1 = 0
    · have hT : ∀ k, 0 ≤ k → k < n → pf' k ≤ pl' k := by
        rcases hr1 with h | h
        · exact h.2
        · omega
      have v10' : v1 = 0 := by
        rcases hv1 with h | ⟨-, k, k0, k1, h⟩
        · exact h.1
        · have := hT k k0 k1
          omega
      have hnotes := m_notes (fu := fu) hP hQ hPn (n - 1).toNat fu 0 (by omega) (by omega) (by rw [hQ.1]; omega)
      rw [hQ.1] at hnotes
      have hnotes2 : f_X5_notesInPad fu pd pn = some n := hnotes
      rw [if_pos c1, if_pos (show v1 ≤ 0 by omega), q_size, jb_s]
      unfold f_X1_found
      rw [jb_s, jix_of (by omega) (by omega), hR.n4, hnotes2, jb_s, jck_of (by omega) (by omega) (by omega) (by omega), jck_of (by omega) (by omega) (by omega) (by omega)]
      by_cases c2 : no + n ≤ 40
      · have hS' : RSt st (jcpy se u_se 4) (jcpy tr u_tr 40) (jcpy fi u_fi 40) (jcpy la u_la 40) (jcpy sh u_sh 40) (jcpy ac u_ac 40) no := RSt_ext hS (EQn_rf _ _) (EQn_cpy _ _ _) (EQn_cpy _ _ _) (EQn_cpy _ _ _) (EQn_cpy _ _ _) (EQn_cpy _ _ _) (EQn_cpy _ _ _)
        obtain ⟨r3, tr3, fi3, la3, sh3, ac3, no3, e3, hI3, h3⟩ := add_both (fu := fu) hP hQ hPn m1 hT (by omega) n.toNat fu 0 _ _ _ _ _ no (by omega) (by omega) (by omega) (by omega) hS'.inv
        rw [if_pos c2, if_pos c2, q_become hI.2.1 (by omega), jb7_s]
        unfold f_X4_addFoundNotes
        rw [e3, jb7_s, m_moves (by omega) (by omega) (by omega) (by omega) (by omega), jb_s]
        rcases h3 with ⟨y, h3⟩ | ⟨y, h3⟩
        · obtain ⟨d1, d2, d3, d4, d5, st4, e4, hR4⟩ := h3 fu st _ b2 b3 b4 b5 (by omega) hS'.1
          rw [eA0] at e4
          rw [jck_of (a := r3) (by omega) (by omega) (by omega) (by omega), if_pos (show r3 ≠ 0 by omega), e4, jb7_s, jck_of (by omega) (by omega) (by omega) (by omega), if_neg (show ¬ (0 : Int) ≠ 0 by omega)]
          unfold f_X5_read_J68
          rw [m_moves (by omega) (by omega) (by omega) (by omega) (by omega), jb_s, jck_of (by omega) (by omega) (by omega) (by omega), if_pos (show (1 : Int) ≠ 0 by omega)]
          generalize hst5 : (fun q => if (0 : Int) ≤ q ∧ q < 0 + 205 then (fun q => if (0 : Int) ≤ q ∧ q < 0 + 205 then st (q - 0 + 0) else kpf q) (q - 0 + 0) else st4 q) = st5
          have hE5 : EQn 205 st5 st := by
            intro x x0 x1
            rw [← hst5]
            show (if _ then (if _ then _ else _) else _) = _
            rw [if_pos (by omega), if_pos (by omega)]
            congr 1
            omega
          have hS5 : RSt st5 se tr fi la sh ac no := RSt_ext hS hE5 (EQn_rf _ _) (EQn_rf _ _) (EQn_rf _ _) (EQn_rf _ _) (EQn_rf _ _) (EQn_rf _ _)
          have hS5' : RSt st5 (jcpy se u_se 4) (jcpy tr u_tr 40) (jcpy fi u_fi 40) (jcpy la u_la 40) (jcpy sh u_sh 40) (jcpy ac u_ac 40) no := RSt_ext hS' hE5 (EQn_rf _ _) (EQn_rf _ _) (EQn_rf _ _) (EQn_rf _ _) (EQn_rf _ _) (EQn_rf _ _)
          obtain ⟨rc', hsf', ol', si', k1, k2, k3, k4, k5, k6, k7, r1', r2', hH'⟩ := op_record (fu := fu) hS5 hH hf
          obtain ⟨g1, g2, g3, g4, g5, st6, e6, hR6⟩ := h3 fu st5 _ d2 d3 d4 d5 (by omega) hS5'.1
          rw [eA0] at e6
          have e6' : f_X5_wrongInPad fu pd pn d1 d2 d3 d4 d5 st5 1 = some (0, g1, g2, g3, g4, g5, st6) := e6
          have n3 := hI3.1.1
          rw [r1', jb9_s, q_become hI3.2.1 (by omega), jb7_s]
          unfold f_X1_clear
          rw [jb_s, q_size, jb_s, r2', jb2_s, e6', jb7_s, jix_of (by omega) (by omega), hR6.n4]
          refine ⟨_, _, _, _, _, _, _, _, _, _, _, _, _, _, _, _, _, _, _, _, _, _, _, _, _, _, _, _, _, _, _, _, _, _, _, _, _, _, _, _, _, rfl, rfl, RSt_ext (RSt_of hR6 hS'.2.2.1 hI3) (EQn_rf _ _) (EQn_cpy _ _ _) (EQn_cpy _ _ _) (EQn_cpy _ _ _) (EQn_cpy _ _ _) (EQn_cpy _ _ _) (EQn_cpy _ _ _), hH', ⟨by omega, by omega, rfl, fun k k0 k1 => by omega⟩, hI3.2.1⟩
        · obtain ⟨v4, d1, d2, d3, d4, d5, st4, e4, v40, v41⟩ := h3 fu st _ b2 b3 b4 b5 (by omega) hS'.1
          rw [eA0] at e4
          rw [jck_of (a := r3) (by omega) (by omega) (by omega) (by omega), if_neg (show ¬ r3 ≠ 0 by omega), e4, jb7_s, jck_of (by omega) (by omega) (by omega) (by omega), if_pos (show v4 ≠ 0 by omega)]
          unfold f_X5_read_J68
          rw [m_moves (by omega) (by omega) (by omega) (by omega) (by omega), jb_s, jck_of (by omega) (by omega) (by omega) (by omega), if_neg (show ¬ (0 : Int) ≠ 0 by omega)]
          refine ⟨_, _, _, _, _, _, _, _, _, _, _, _, _, _, _, _, _, _, _, _, _, _, _, _, _, _, _, _, _, _, _, _, _, _, _, _, _, _, _, _, _, rfl, rfl, RSt_ext hS ?_ (EQn_rf _ _) (EQn_rf _ _) (EQn_rf _ _) (EQn_rf _ _) (EQn_rf _ _) (EQn_rf _ _), hH, hP, hI3.2.1⟩
          intro x x0 x1
          show (if _ then (if _ then _ else _) else _) = _
          rw [if_pos (by omega), if_pos (by omega)]
          congr 1
          omega
      · rw [if_neg c2, if_neg c2]
        exact ⟨_, _, _, _, _, _, _, _, _, _, _, _, _, _, _, _, _, _, _, _, _, _, _, _, _, _, _, _, _, _, _, _, _, _, _, _, _, _, _, _, _, rfl, rfl, hS, hH, hP, hAu⟩
    · have v11 : 0 < v1 := by
        rcases hr1 with h | ⟨-, k, k0, k1, h⟩
        · exact absurd h.1 c1
        · rcases hv1 with h' | h'
          · have := h'.2 k k0 k1
            omega
          · exact h'.1
      rw [if_neg c1, if_neg (show ¬ v1 ≤ 0 by omega)]
      exact ⟨_, _, _, _, _, _, _, _, _, _, _, _, _, _, _, _, _, _, _, _, _, _, _, _, _, _, _, _, _, _, _, _, _, _, _, _, _, _, _, _, _, rfl, rfl, hS, hH, hP, hAu⟩
  · rw [h1, h2, jb7_s, jb6_s, jck_of (by omega) (by omega) (by omega) (by omega), if_neg (show ¬ (0 : Int) ≠ 0 by omega), jck_of (by omega) (by omega) (by omega) (by omega), if_neg (show ¬ a1 = -6 by omega)]
    exact ⟨_, _, _, _, _, _, _, _, _, _, _, _, _, _, _, _, _, _, _, _, _, _, _, _, _, _, _, _, _, _, _, _, _, _, _, _, _, _, _, _, _, rfl, rfl, hS, hH, hP, hAu⟩
end Q68
