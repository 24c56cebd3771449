/-! the law's own roll: sorting, adding -/
def swI (f : Int → Int) (m i : Int) : Int → Int := fun q => if 5 * m ≤ q ∧ q < 5 * m + i then f (q + 5) else if 5 * m + 5 ≤ q ∧ q < 5 * m + 5 + i then f (q - 5) else f q
theorem swI_0 (f : Int → Int) (m : Int) : swI f m 0 = f := by
  funext q
  unfold swI
  rw [if_neg (by omega), if_neg (by omega)]
theorem swI_s (f : Int → Int) (m : Int) {i : Int} (h0 : 0 ≤ i) (h1 : i < 5) : uI (uI (swI f m i) (5 * m + i) (swI f m i (5 * m + 5 + i))) (5 * m + 5 + i) (swI f m i (5 * m + i)) = swI f m (i + 1) := by
  funext q
  have e1 : swI f m i (5 * m + 5 + i) = f (5 * m + 5 + i) := by unfold swI; rw [if_neg (by omega), if_neg (by omega)]
  have e2 : swI f m i (5 * m + i) = f (5 * m + i) := by unfold swI; rw [if_neg (by omega), if_neg (by omega)]
  rw [e1, e2]
  by_cases c : q = 5 * m + 5 + i
  · subst c
    rw [uI_s]
    unfold swI
    rw [if_neg (by omega), if_pos (by omega)]
    congr 1
    omega
  · rw [uI_n _ _ c]
    by_cases d : q = 5 * m + i
    · subst d
      rw [uI_s]
      unfold swI
      rw [if_pos (by omega)]
      congr 1
      omega
    · rw [uI_n _ _ d]
      unfold swI
      by_cases a : 5 * m ≤ q ∧ q < 5 * m + i
      · rw [if_pos a, if_pos (by omega)]
      · rw [if_neg a]
        by_cases b : 5 * m + 5 ≤ q ∧ q < 5 * m + 5 + i
        · rw [if_pos b, if_neg (show ¬ (5 * m ≤ q ∧ q < 5 * m + (i + 1)) by omega), if_pos (by omega)]
        · rw [if_neg b, if_neg (show ¬ (5 * m ≤ q ∧ q < 5 * m + (i + 1)) by omega), if_neg (by omega)]
def swR (r : Int → Int × Int × Int × Int) (m q : Int) : Int × Int × Int × Int := r (if q = m then m + 1 else if q = m + 1 then m else q)
theorem lR_sw (f : Int → Int) (m : Int) : lR (swI f m 4) = swR (lR f) m := by
  funext q
  have e : ∀ c x, x = 5 * q + c → 0 ≤ c → c < 4 → swI f m 4 x = f (5 * (if q = m then m + 1 else if q = m + 1 then m else q) + c) := by
    intro c x hx c0 c1
    unfold swI
    by_cases a : q = m
    · rw [if_pos (by omega), if_pos a]
      congr 1
      omega
    · rw [if_neg (by omega), if_neg a]
      by_cases b : q = m + 1
      · rw [if_pos (by omega), if_pos b]
        congr 1
        omega
      · rw [if_neg (by omega), if_neg b]
        congr 1
  show (swI f m 4 (5 * q), swI f m 4 (5 * q + 1), swI f m 4 (5 * q + 2), swI f m 4 (5 * q + 3)) = lR f (if q = m then m + 1 else if q = m + 1 then m else q)
  rw [e 0 (5 * q) (by omega) (by omega) (by omega), e 1 (5 * q + 1) rfl (by omega) (by omega), e 2 (5 * q + 2) rfl (by omega) (by omega), e 3 (5 * q + 3) rfl (by omega) (by omega), Int.add_zero]
  rfl
def SP (N i : Int) (r0 r : Int → Int × Int × Int × Int) : Prop := (∀ j, 0 ≤ j → j < N → ∃ k, 0 ≤ k ∧ k < N ∧ r j = r0 k) ∧ (∀ j k, 0 ≤ j → j < k → k < N → (r j).1 ≠ (r k).1) ∧ (∀ j k, 0 ≤ j → j < k → k < N → N - i ≤ k → (r j).1 < (r k).1)
def SQ (N i m : Int) (r : Int → Int × Int × Int × Int) : Prop := (m ≤ N - 1 - i → ∀ j, 0 ≤ j → j < m → (r j).1 < (r m).1) ∧ (N - 1 - i < m → ∀ j, 0 ≤ j → j < N - 1 - i → (r j).1 < (r (N - 1 - i)).1)
theorem sw_step {N i m : Int} {r0 r : Int → Int × Int × Int × Int} (hP : SP N i r0 r) (hQ : SQ N i m r) (m0 : 0 ≤ m) (m1 : m + 1 < N) (i0 : 0 ≤ i) (hlt : (r (m + 1)).1 < (r m).1) : SP N i r0 (swR r m) ∧ SQ N i (m + 1) (swR r m) := by
  obtain ⟨P0, D, P1⟩ := hP
  have hm : m + 1 < N - i := by
    by_cases h : N - i ≤ m + 1
    · have := P1 m (m + 1) m0 (by omega) m1 h
      omega
    · omega
  have D' : ∀ a b, 0 ≤ a → a < N → 0 ≤ b → b < N → a ≠ b → (r a).1 ≠ (r b).1 := by
    intro a b a0 a1 b0 b1 hab
    by_cases h : a < b
    · exact D a b a0 h b1
    · exact (D b a b0 (by omega) a1).symm
  refine ⟨⟨fun j j0 j1 => ?_, fun j k j0 jk k1 => ?_, fun j k j0 jk k1 hk => ?_⟩, fun h j j0 j1 => ?_, fun h => by omega⟩
  · exact P0 _ (by split <;> (try split) <;> omega) (by split <;> (try split) <;> omega)
  · exact D' _ _ (by split <;> (try split) <;> omega) (by split <;> (try split) <;> omega) (by split <;> (try split) <;> omega) (by split <;> (try split) <;> omega) (by (repeat' split) <;> omega)
  · unfold swR
    rw [if_neg (by omega : ¬ k = m), if_neg (by omega : ¬ k = m + 1)]
    exact P1 _ k (by split <;> (try split) <;> omega) (by split <;> (try split) <;> omega) k1 hk
  · unfold swR
    rw [if_neg (by omega : ¬ m + 1 = m), if_pos (rfl : m + 1 = m + 1)]
    by_cases c : j = m
    · rw [if_pos c]; exact hlt
    · rw [if_neg c, if_neg (by omega)]
      exact hQ.1 (by omega) j j0 (by omega)
theorem ns_step {N i m : Int} {r0 r : Int → Int × Int × Int × Int} (hP : SP N i r0 r) (hQ : SQ N i m r) (m0 : 0 ≤ m) (m1 : m + 1 < N) (hle : ¬ (r (m + 1)).1 < (r m).1) : SQ N i (m + 1) r := by
  have hne := hP.2.1 m (m + 1) m0 (by omega) m1
  refine ⟨fun h j j0 j1 => ?_, fun h j j0 j1 => ?_⟩
  · by_cases c : j = m
    · rw [c]; omega
    · have := hQ.1 (by omega) j j0 (by omega)
      omega
  · by_cases c : N - 1 - i < m
    · exact hQ.2 c j j0 j1
    · have e : N - 1 - i = m := by omega
      rw [e] at j1 ⊢
      exact hQ.1 (by omega) j j0 j1
theorem se_step {N i : Int} {r0 r : Int → Int × Int × Int × Int} (hP : SP N i r0 r) (hQ : SQ N i (N - 1) r) (i0 : 0 ≤ i) (i1 : i < N) : SP N (i + 1) r0 r := by
  refine ⟨hP.1, hP.2.1, fun j k j0 jk k1 hk => ?_⟩
  by_cases c : N - i ≤ k
  · exact hP.2.2 j k j0 jk k1 c
  · have e : k = N - 1 - i := by omega
    subst e
    by_cases d : N - 1 - i < N - 1
    · exact hQ.2 d j j0 jk
    · have e2 : N - 1 - i = N - 1 := by omega
      rw [e2] at jk ⊢
      exact hQ.1 (by omega) j j0 jk
/-- two rows in order, each of the one in the other: the same -/
theorem srt_eq {n : Int} {f g : Int → Int × Int × Int × Int} (hf : ∀ j k, 0 ≤ j → j < k → k < n → (f j).1 < (f k).1) (hg : ∀ j k, 0 ≤ j → j < k → k < n → (g j).1 < (g k).1) (hm : ∀ j, 0 ≤ j → j < n → ∃ i, 0 ≤ i ∧ i < n ∧ f j = g i) : ∀ j, 0 ≤ j → j < n → f j = g j := by
  have lt_of : ∀ a b, 0 ≤ a → a < n → 0 ≤ b → b < n → (g a).1 < (g b).1 → a < b := by
    intro a b a0 a1 b0 b1 h
    rcases Int.lt_trichotomy a b with h1 | h1 | h1
    · exact h1
    · subst h1; omega
    · have := hg b a b0 h1 a1
      omega
  have up : ∀ (m : Nat), (m : Int) < n → ∃ i, (m : Int) ≤ i ∧ i < n ∧ f m = g i := by
    intro m
    induction m with
    | zero =>
      intro h
      obtain ⟨i, i0, i1, e⟩ := hm 0 (by omega) (by omega)
      exact ⟨i, i0, i1, e⟩
    | succ m ih =>
      intro h
      obtain ⟨i, i0, i1, e⟩ := ih (by omega)
      obtain ⟨k, k0, k1, e2⟩ := hm ((m + 1 : Nat) : Int) (by omega) h
      have h3 := hf (m : Int) ((m + 1 : Nat) : Int) (by omega) (by omega) h
      rw [e, e2] at h3
      have := lt_of i k (by omega) i1 k0 k1 h3
      exact ⟨k, by omega, k1, e2⟩
  have dn : ∀ (m : Nat), 0 ≤ n - 1 - (m : Int) → ∃ i, 0 ≤ i ∧ i ≤ n - 1 - (m : Int) ∧ f (n - 1 - (m : Int)) = g i := by
    intro m
    induction m with
    | zero =>
      intro h
      obtain ⟨i, i0, i1, e⟩ := hm (n - 1 - ((0 : Nat) : Int)) h (by omega)
      exact ⟨i, i0, by omega, e⟩
    | succ m ih =>
      intro h
      obtain ⟨i, i0, i1, e⟩ := ih (by omega)
      obtain ⟨k, k0, k1, e2⟩ := hm (n - 1 - ((m + 1 : Nat) : Int)) h (by omega)
      have h3 := hf (n - 1 - ((m + 1 : Nat) : Int)) (n - 1 - (m : Int)) h (by omega) (by omega)
      rw [e, e2] at h3
      have := lt_of k i k0 k1 i0 (by omega) h3
      exact ⟨k, k0, by omega, e2⟩
  intro j j0 j1
  obtain ⟨i, i0, i1, e⟩ := up j.toNat (by omega)
  obtain ⟨k, k0, k1, e2⟩ := dn (n - 1 - j).toNat (by omega)
  rw [show ((j.toNat : Nat) : Int) = j by omega] at i0 e
  rw [show n - 1 - (((n - 1 - j).toNat : Nat) : Int) = j by omega] at k1 e2
  rcases Int.lt_trichotomy i k with h | h | h
  · omega
  · have : i = j := by omega
    rw [e, this]
  · have h3 := hg k i k0 h i1
    rw [← e, ← e2] at h3
    omega
section Q71
variable {fu : Nat} {lq ln se tr fi la sh ac : Int → Int} {no : Int}
theorem L_sort {N : Int} (hN : lq 4 = N) (h0 : 0 ≤ N) (h12 : N ≤ 12) (hk : ∀ k, 0 ≤ k → k < N → 0 ≤ ln (5 * k) ∧ ln (5 * k) < 100000) (hd : ∀ j k, 0 ≤ j → j < k → k < N → ln (5 * j) ≠ ln (5 * k)) (hf : 100 ≤ fu) :
    ∃ ln', f_L_sort fu lq ln = some ln' ∧ SP N N (lR ln) (lR ln') := by
  have hrg : ∀ (s : Int → Int) (i : Int), SP N i (lR ln) (lR s) → ∀ j, 0 ≤ j → j < N → 0 ≤ s (5 * j) ∧ s (5 * j) < 100000 := by
    intro s i hP j j0 j1
    obtain ⟨k, k0, k1, e⟩ := hP.1 j j0 j1
    have e1 : s (5 * j) = ln (5 * k) := congrArg Prod.fst e
    rw [e1]
    exact hk k k0 k1
  unfold f_L_sort
  obtain ⟨p, e, i1, i2⟩ := loop_upI (L := fun q (s : Int → Int) i => f_L_sort_L2 fu lq (f_L_sort_X105 fu) q s i) (f_L_sort_X105 fu)
    (fun i s => 0 ≤ i ∧ SP N i (lR ln) (lR s)) N
    (fun q s hI => by
      show f_L_sort_L2_b fu lq _ _ s N = _
      unfold f_L_sort_L2_b
      rw [jix_of (by omega) (by omega), hN, jck_of (by omega) (by omega) (by omega) (by omega), if_pos (by omega)])
    (fun q s i hi hI => by
      obtain ⟨i1, i2⟩ := hI
      obtain ⟨p, e, j0, j1, j2⟩ := loop_upI (L := fun r (s : Int → Int) m => f_L_sort_L11 fu lq (f_L_sort_X99 fu i (f_L_sort_L2 fu lq (f_L_sort_X105 fu) q)) r s m) (f_L_sort_X99 fu i (f_L_sort_L2 fu lq (f_L_sort_X105 fu) q))
        (fun m s => 0 ≤ m ∧ SP N i (lR ln) (lR s) ∧ SQ N i m (lR s)) (N - 1)
        (fun r s hI => by
          show f_L_sort_L11_b fu lq _ _ s (N - 1) = _
          unfold f_L_sort_L11_b
          rw [jix_of (by omega) (by omega), hN, jck_of (by omega) (by omega) (by omega) (by omega), if_pos (by omega)])
        (fun r s m hm hI => by
          obtain ⟨m0, hP, hQ⟩ := hI
          have g1 := hrg s i hP m m0 (by omega)
          have g2 := hrg s i hP (m + 1) (by omega) (by omega)
          rw [show 5 * (m + 1) = 5 * m + 5 by omega] at g2
          have ek : (lR s (m + 1)).1 = s (5 * m + 5) := by show s (5 * (m + 1)) = _; rw [show 5 * (m + 1) = 5 * m + 5 by omega]
          have ek0 : (lR s m).1 = s (5 * m) := rfl
          by_cases c : s (5 * m + 5) < s (5 * m)
          · have hst := sw_step hP hQ m0 (by omega) i1 (by rw [ek, ek0]; exact c)
            rw [← lR_sw] at hst
            refine ⟨swI s m 4, ?_, by omega, hst.1, hst.2⟩
            show f_L_sort_L11_b fu lq _ _ s m = _
            unfold f_L_sort_L11_b
            rw [jix_of (by omega) (by omega), hN, jck_of (by omega) (by omega) (by omega) (by omega), if_neg (by omega), jix_of (by omega) (by omega), jix_of (by omega) (by omega), jck_of (by omega) (by omega) (by omega) (by omega), if_pos c]
            obtain ⟨w, ew, w0, w1⟩ := loop_upI (L := fun y (s : Int → Int) x => f_L_sort_L41 fu m (f_L_sort_X93 fu m (f_L_sort_L11 fu lq (f_L_sort_X99 fu i (f_L_sort_L2 fu lq (f_L_sort_X105 fu) q)) r)) y s x) (f_L_sort_X93 fu m (f_L_sort_L11 fu lq (f_L_sort_X99 fu i (f_L_sort_L2 fu lq (f_L_sort_X105 fu) q)) r))
              (fun x v => 0 ≤ x ∧ v = swI s m x) 4
              (fun y v hI => by
                show f_L_sort_L41_b fu m _ _ v 4 = _
                unfold f_L_sort_L41_b
                rw [jck_of (by omega) (by omega) (by omega) (by omega), if_pos (by omega)])
              (fun y v x hx hI => by
                obtain ⟨x0, rfl⟩ := hI
                refine ⟨swI s m (x + 1), ?_, by omega, rfl⟩
                show f_L_sort_L41_b fu m _ _ (swI s m x) x = _
                unfold f_L_sort_L41_b
                rw [jck_of (by omega) (by omega) (by omega) (by omega), if_neg (by omega), jix_of (by omega) (by omega), jix_of (by omega) (by omega), jix_of (by omega) (by omega), jix_of (by omega) (by omega), swI_s s m x0 (by omega)])
              4 fu s 0 (by omega) (by omega) ⟨by omega, by rw [swI_0]⟩
            have ew' : f_L_sort_L41 fu m (f_L_sort_X93 fu m (f_L_sort_L11 fu lq (f_L_sort_X99 fu i (f_L_sort_L2 fu lq (f_L_sort_X105 fu) q)) r)) fu s 0 = f_L_sort_X93 fu m (f_L_sort_L11 fu lq (f_L_sort_X99 fu i (f_L_sort_L2 fu lq (f_L_sort_X105 fu) q)) r) w := ew
            rw [ew', w1]
            rfl
          · refine ⟨s, ?_, by omega, hP, ns_step hP hQ m0 (by omega) (by rw [ek, ek0]; exact c)⟩
            show f_L_sort_L11_b fu lq _ _ s m = _
            unfold f_L_sort_L11_b
            rw [jix_of (by omega) (by omega), hN, jck_of (by omega) (by omega) (by omega) (by omega), if_neg (by omega), jix_of (by omega) (by omega), jix_of (by omega) (by omega), jck_of (by omega) (by omega) (by omega) (by omega), if_neg c])
        (N - 1).toNat fu s 0 (by omega) (by omega) ⟨by omega, i2, fun h j j0 j1 => by omega, fun h j j0 j1 => by omega⟩
      refine ⟨p, ?_, by omega, se_step j1 j2 i1 hi⟩
      show f_L_sort_L2_b fu lq _ _ s i = _
      unfold f_L_sort_L2_b
      rw [jix_of (by omega) (by omega), hN, jck_of (by omega) (by omega) (by omega) (by omega), if_neg (by omega)]
      exact e)
    N.toNat fu ln 0 (by omega) (by omega) ⟨by omega, fun j j0 j1 => ⟨j, j0, j1, rfl⟩, fun j k j0 jk k1 => hd j k j0 jk k1, fun j k j0 jk k1 hk => by omega⟩
  have e' : f_L_sort_L2 fu lq (f_L_sort_X105 fu) fu ln 0 = f_L_sort_X105 fu p := e
  rw [e']
  exact ⟨p, rfl, i2⟩
theorem key_lt (hI : INV tr fi la sh ac no) : ∀ j k, 0 ≤ j → j < k → k < no → (cR tr fi la sh ac j).1 < (cR tr fi la sh ac k).1 := by
  intro j k j0 jk k1
  have h := hI.2.2.1 j k j0 jk k1
  obtain ⟨a1, a2, -⟩ := hI.1.2.2 j j0 (by omega)
  obtain ⟨b1, b2, -⟩ := hI.1.2.2 k (by omega) k1
  unfold kO at h
  show 100 * fi j + tr j < 100 * fi k + tr k
  omega
theorem L_sortC (hq : lq 4 = no) (hI : INV tr fi la sh ac no) (n12 : no ≤ 12) (hm : ∀ j, 0 ≤ j → j < no → ∃ q, 0 ≤ q ∧ q < no ∧ lR ln j = cR tr fi la sh ac q) (hd : ∀ j k, 0 ≤ j → j < k → k < no → ln (5 * j) ≠ ln (5 * k)) (hf : 100 ≤ fu) :
    ∃ ln', f_L_sort fu lq ln = some ln' ∧ (∀ k, 0 ≤ k → k < no → lR ln' k = cR tr fi la sh ac k) ∧ ∀ k, 0 ≤ k → k < no → ∃ j, 0 ≤ j ∧ j < no ∧ lR ln' k = lR ln j := by
  have n0 := hI.1.1
  obtain ⟨ln', e, P0, -, P1⟩ := L_sort (fu := fu) (lq := lq) (ln := ln) (N := no) hq n0 n12 (fun k k0 k1 => by
    obtain ⟨q, q0, q1, e⟩ := hm k k0 k1
    have := congrArg Prod.fst e
    have e1 : ln (5 * k) = 100 * fi q + tr q := this
    obtain ⟨a1, a2, a3, a4, a5, -⟩ := hI.1.2.2 q q0 q1
    omega) hd hf
  refine ⟨ln', e, srt_eq (f := lR ln') (g := cR tr fi la sh ac) (fun j k j0 jk k1 => P1 j k j0 jk k1 (by omega)) (key_lt hI) (fun j j0 j1 => ?_), P0⟩
  obtain ⟨k, k0, k1, e1⟩ := P0 j j0 j1
  obtain ⟨q, q0, q1, e2⟩ := hm k k0 k1
  exact ⟨q, q0, q1, e1.trans e2⟩
theorem L_add {n t a b s_ x : Int} (hq : lq 4 = n) (n0 : 0 ≤ n) (n1 : n < 12) : ∃ ln', f_L_add fu lq ln t a b s_ x = some (uI lq 4 (n + 1), ln') ∧ lR ln' n = (100 * a + t, b, s_, x) ∧ ∀ q, q ≠ n → lR ln' q = lR ln q := by
  unfold f_L_add
  rw [jix_of (by omega) (by omega), jix_of (by omega) (by omega), hq, jix_of (by omega) (by omega), jix_of (by omega) (by omega), jix_of (by omega) (by omega), jix_of (by omega) (by omega)]
  refine ⟨_, rfl, ?_, fun q hne => ?_⟩
  · unfold lR
    rw [uI_n _ _ (show 5 * n ≠ 5 * n + 3 by omega), uI_n _ _ (show 5 * n ≠ 5 * n + 2 by omega), uI_n _ _ (show 5 * n ≠ 5 * n + 1 by omega), uI_s, uI_n _ _ (show 5 * n + 1 ≠ 5 * n + 3 by omega), uI_n _ _ (show 5 * n + 1 ≠ 5 * n + 2 by omega), uI_s, uI_n _ _ (show 5 * n + 2 ≠ 5 * n + 3 by omega), uI_s, uI_s]
  · unfold lR
    simp (disch := omega) only [uI_n]
end Q71
