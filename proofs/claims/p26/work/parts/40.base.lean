/-! plain facts of the partial functions -/
theorem jck_of {α : Type} {a b : Int} {X : Option α} (h1 : -2147483648 ≤ a) (h2 : a < 2147483648) (h3 : -2147483648 ≤ b) (h4 : b < 2147483648) : jck a b X = X := if_pos ⟨⟨h1, h2⟩, ⟨h3, h4⟩⟩
theorem jix_of {α : Type} {n i : Int} {X : Option α} (h1 : 0 ≤ i) (h2 : i < n) : jix n i X = X := if_pos ⟨h1, h2⟩
theorem jbo_of {α : Type} {x : Int} {X : Option α} (h : x = 0 ∨ x = 1) : jbo x X = X := if_pos h
theorem jch_of {α : Type} {x : Int} {X : Option α} (h1 : 0 ≤ x) (h2 : x < 65536) : jch x X = X := if_pos ⟨h1, h2⟩
theorem jre_of {α : Type} {a b : Int} {X : Option α} (h1 : 0 ≤ a) (h2 : a < 2147483648) (h3 : 0 < b) (h4 : b < 2147483648) : jre a b X = X := if_pos ⟨h1, h2, h3, h4⟩
theorem jb_s {α β : Type} (a : α) (k : α → Option β) : jb (some a) k = k a := rfl
theorem jb2_s {α β γ : Type} (a : α) (b : β) (k : α → β → Option γ) : jb2 (some (a, b)) k = k a b := rfl
theorem jb3_s {t1 t2 t3 γ : Type} (a1 : t1) (a2 : t2) (a3 : t3) (k : t1 → t2 → t3 → Option γ) : jb3 (some (a1, a2, a3)) k = k a1 a2 a3 := rfl
theorem uI_s {α : Type} (f : Int → α) (i : Int) (x : α) : uI f i x i = x := if_pos rfl
theorem uI_n {α : Type} (f : Int → α) {i j : Int} (x : α) (h : j ≠ i) : uI f i x j = f j := if_neg h
theorem uI_at {α : Type} (f : Int → α) (i j : Int) (x : α) : uI f i x j = if j = i then x else f j := rfl
-- a loop from i on, n times
def fo {σ : Type} (f : Int → σ → σ) : Nat → Int → σ → σ
  | 0, _, s => s
  | n + 1, i, s => fo f n (i + 1) (f i s)
theorem fo_0 {σ : Type} (f : Int → σ → σ) (i : Int) (s : σ) : fo f 0 i s = s := rfl
theorem fo_s {σ : Type} (f : Int → σ → σ) (n : Nat) (i : Int) (s : σ) : fo f (n + 1) i s = fo f n (i + 1) (f i s) := rfl
theorem fo_congr {σ : Type} {f g : Int → σ → σ} : ∀ (n : Nat) (i : Int) (s : σ), (∀ j s, i ≤ j → j < i + n → f j s = g j s) → fo f n i s = fo g n i s
  | 0, _, _, _ => rfl
  | n + 1, i, s, h => by
    rw [fo_s, fo_s, h i s (by omega) (by omega)]
    exact fo_congr n (i + 1) _ (fun j s h1 h2 => h j s (by omega) (by omega))
theorem fo_end {σ : Type} (f : Int → σ → σ) : ∀ (n : Nat) (i : Int) (s : σ), fo f (n + 1) i s = f (i + n) (fo f n i s)
  | 0, i, s => by simp [fo]
  | n + 1, i, s => by
    rw [fo_s, fo_end f n (i + 1) (f i s), fo_s]
    congr 1
    omega
theorem fo_inv {σ : Type} {f : Int → σ → σ} (I : Int → σ → Prop) : ∀ (n : Nat) (i : Int) (s : σ), I i s → (∀ j s, i ≤ j → j < i + n → I j s → I (j + 1) (f j s)) → I (i + n) (fo f n i s)
  | 0, i, s, h, _ => by simpa [fo] using h
  | n + 1, i, s, h, hs => by
    rw [fo_s]
    have := fo_inv I n (i + 1) (f i s) (hs i s (by omega) (by omega) h) (fun j s h1 h2 => hs j s (by omega) (by omega))
    have e : i + 1 + (n : Int) = i + ((n + 1 : Nat) : Int) := by omega
    rw [e] at this
    exact this
/-- two loops side by side -/
theorem fo_rel {σ τ : Type} {f : Int → σ → σ} {g : Int → τ → τ} (I : Int → σ → τ → Prop) : ∀ (n : Nat) (i : Int) (s : σ) (t : τ), I i s t → (∀ j s t, i ≤ j → j < i + n → I j s t → I (j + 1) (f j s) (g j t)) → I (i + n) (fo f n i s) (fo g n i t)
  | 0, i, s, t, h, _ => by simpa [fo] using h
  | n + 1, i, s, t, h, hs => by
    rw [fo_s, fo_s]
    have := fo_rel I n (i + 1) (f i s) (g i t) (hs i s t (by omega) (by omega) h) (fun j s t h1 h2 => hs j s t (by omega) (by omega))
    have e : i + 1 + (n : Int) = i + ((n + 1 : Nat) : Int) := by omega
    rw [e] at this
    exact this
/-- a loop that counts up to b: one round of it is 'stp' -/
theorem loop_up {σ α : Type} {L : Nat → σ → Int → Option α} (stp : Int → σ → σ) (k : σ → Option α) (I : Int → σ → Prop) (b : Int) (hend : ∀ q s, I b s → L (q + 1) s b = k s) (hstep : ∀ q s i, i < b → I i s → L (q + 1) s i = L q (stp i s) (i + 1) ∧ I (i + 1) (stp i s)) :
    ∀ (n fuel : Nat) (s : σ) (i : Int), i + n = b → n < fuel → I i s → L fuel s i = k (fo stp n i s) ∧ I b (fo stp n i s)
  | 0, fuel, s, i, h1, h2, h3 => by
    obtain ⟨q, rfl⟩ : ∃ q, fuel = q + 1 := ⟨fuel - 1, by omega⟩
    have e : i = b := by omega
    subst e
    exact ⟨hend q s h3, h3⟩
  | n + 1, fuel, s, i, h1, h2, h3 => by
    obtain ⟨q, rfl⟩ : ∃ q, fuel = q + 1 := ⟨fuel - 1, by omega⟩
    obtain ⟨e1, e2⟩ := hstep q s i (by omega) h3
    rw [e1, fo_s]
    exact loop_up stp k I b hend hstep n q (stp i s) (i + 1) (by omega) (by omega) e2
/-- a loop that counts down to b -/
theorem loop_dn {σ α : Type} {L : Nat → σ → Int → Option α} (stp : Int → σ → σ) (k : σ → Option α) (I : Int → σ → Prop) (b : Int) (hend : ∀ q s, I b s → L (q + 1) s b = k s) (hstep : ∀ q s i, b < i → I i s → L (q + 1) s i = L q (stp i s) (i + (-1)) ∧ I (i + (-1)) (stp i s)) :
    ∀ (n fuel : Nat) (s : σ) (i : Int), b + n = i → n < fuel → I i s → ∃ t, L fuel s i = k t ∧ I b t
  | 0, fuel, s, i, h1, h2, h3 => by
    obtain ⟨q, rfl⟩ : ∃ q, fuel = q + 1 := ⟨fuel - 1, by omega⟩
    have e : i = b := by omega
    subst e
    exact ⟨s, hend q s h3, h3⟩
  | n + 1, fuel, s, i, h1, h2, h3 => by
    obtain ⟨q, rfl⟩ : ∃ q, fuel = q + 1 := ⟨fuel - 1, by omega⟩
    obtain ⟨e1, e2⟩ := hstep q s i (by omega) h3
    rw [e1]
    exact loop_dn stp k I b hend hstep n q (stp i s) (i + (-1)) (by omega) (by omega) e2
theorem loop_upI {σ α : Type} {L : Nat → σ → Int → Option α} (k : σ → Option α) (I : Int → σ → Prop) (b : Int) (hend : ∀ q s, I b s → L (q + 1) s b = k s) (hstep : ∀ q s i, i < b → I i s → ∃ s', L (q + 1) s i = L q s' (i + 1) ∧ I (i + 1) s') :
    ∀ (n fuel : Nat) (s : σ) (i : Int), i + n = b → n < fuel → I i s → ∃ t, L fuel s i = k t ∧ I b t
  | 0, fuel, s, i, h1, h2, h3 => by
    obtain ⟨q, rfl⟩ : ∃ q, fuel = q + 1 := ⟨fuel - 1, by omega⟩
    have e : i = b := by omega
    subst e
    exact ⟨s, hend q s h3, h3⟩
  | n + 1, fuel, s, i, h1, h2, h3 => by
    obtain ⟨q, rfl⟩ : ∃ q, fuel = q + 1 := ⟨fuel - 1, by omega⟩
    obtain ⟨s', e1, e2⟩ := hstep q s i (by omega) h3
    rw [e1]
    exact loop_upI k I b hend hstep n q s' (i + 1) (by omega) (by omega) e2
/-- the value behind the rounds a, a+1, .. i-1 -/
def fdA {σ : Type} (f : Int → σ → σ) (s0 : σ) (a i : Int) : σ := fo f (i - a).toNat a s0
theorem fdA_0 {σ : Type} (f : Int → σ → σ) (s0 : σ) (a : Int) : fdA f s0 a a = s0 := by
  unfold fdA
  rw [show (a - a).toNat = 0 by omega, fo_0]
theorem fdA_s {σ : Type} (f : Int → σ → σ) (s0 : σ) {a i : Int} (h : a ≤ i) : fdA f s0 a (i + 1) = f i (fdA f s0 a i) := by
  unfold fdA
  rw [show (i + 1 - a).toNat = (i - a).toNat + 1 by omega, fo_end]
  congr 1
  omega
theorem fdA_inv {σ : Type} {f : Int → σ → σ} {s0 : σ} {a i : Int} (I : Int → σ → Prop) (h : a ≤ i) (h0 : I a s0) (hs : ∀ j s, a ≤ j → j < i → I j s → I (j + 1) (f j s)) : I i (fdA f s0 a i) := by
  have := fo_inv (f := f) I (i - a).toNat a s0 h0 (fun j s h1 h2 => hs j s h1 (by omega))
  rw [show a + ((i - a).toNat : Int) = i by omega] at this
  exact this
theorem fdA_congr {σ : Type} {f g : Int → σ → σ} {s0 : σ} {a i : Int} (h : ∀ j s, a ≤ j → j < i → f j s = g j s) : fdA f s0 a i = fdA g s0 a i := by
  unfold fdA
  by_cases hi : a ≤ i
  · exact fo_congr _ _ _ (fun j s h1 h2 => h j s h1 (by omega))
  · rw [show (i - a).toNat = 0 by omega]; rfl
theorem fdA_rel {σ τ : Type} {f : Int → σ → σ} {g : Int → τ → τ} {s0 : σ} {t0 : τ} {a i : Int} (I : Int → σ → τ → Prop) (h : a ≤ i) (h0 : I a s0 t0) (hs : ∀ j s t, a ≤ j → j < i → I j s t → I (j + 1) (f j s) (g j t)) : I i (fdA f s0 a i) (fdA g t0 a i) := by
  have := fo_rel (f := f) (g := g) I (i - a).toNat a s0 t0 h0 (fun j s t h1 h2 => hs j s t h1 (by omega))
  rw [show a + ((i - a).toNat : Int) = i by omega] at this
  exact this
-- rows moved
def shu (f : Int → Int) (p n : Int) : Int → Int := fun q => if p < q ∧ q ≤ n then f (q - 1) else f q
def shd (f : Int → Int) (p n : Int) : Int → Int := fun q => if p ≤ q ∧ q < n then f (q + 1) else f q
theorem shu_0 (f : Int → Int) (n : Int) : shu f n n = f := by funext q; unfold shu; rw [if_neg (by omega)]
theorem shu_s (f : Int → Int) {i n : Int} (h : i ≤ n) : uI (shu f i n) i (shu f i n (i - 1)) = shu f (i + (-1)) n := by
  funext q
  unfold uI shu
  by_cases c : q = i
  · subst c
    rw [if_pos rfl, if_neg (by omega), if_pos (by omega)]
  · rw [if_neg c]
    by_cases d : i < q ∧ q ≤ n
    · rw [if_pos d, if_pos (by omega)]
    · rw [if_neg d, if_neg (by omega)]
theorem shd_0 (f : Int → Int) (p : Int) : shd f p p = f := by funext q; unfold shd; rw [if_neg (by omega)]
theorem shd_s (f : Int → Int) {p i : Int} (h : p ≤ i) : uI (shd f p i) i (shd f p i (i + 1)) = shd f p (i + 1) := by
  funext q
  unfold uI shd
  by_cases c : q = i
  · subst c
    rw [if_pos rfl, if_neg (by omega), if_pos (by omega)]
  · rw [if_neg c]
    by_cases d : p ≤ q ∧ q < i
    · rw [if_pos d, if_pos (by omega)]
    · rw [if_neg d, if_neg (by omega)]
theorem jcpy_0 (f g : Int → Int) : jcpy f g 0 = g := by funext q; unfold jcpy; rw [if_neg (by omega)]
theorem jcpy_s (f g : Int → Int) {i : Int} (h : 0 ≤ i) : uI (jcpy f g i) i (f i) = jcpy f g (i + 1) := by
  funext q
  unfold uI jcpy
  by_cases c : q = i
  · subst c
    rw [if_pos rfl, if_pos (by omega)]
  · rw [if_neg c]
    by_cases d : 0 ≤ q ∧ q < i
    · rw [if_pos d, if_pos (by omega)]
    · rw [if_neg d, if_neg (by omega)]
theorem jcpy_in (f g : Int → Int) {n q : Int} (h0 : 0 ≤ q) (h : q < n) : jcpy f g n q = f q := if_pos ⟨h0, h⟩
theorem jcpy_at (f g : Int → Int) {i : Int} : jcpy f g i i = g i := by unfold jcpy; rw [if_neg (by omega)]
def ins (f : Int → Int) (p x n : Int) : Int → Int := uI (shu f p n) p x
theorem ins_lt (f : Int → Int) {p x n q : Int} (h : q < p) : ins f p x n q = f q := by unfold ins; rw [uI_n _ _ (by omega)]; unfold shu; rw [if_neg (by omega)]
theorem ins_eq (f : Int → Int) {p x n : Int} : ins f p x n p = x := uI_s _ _ _
theorem ins_gt (f : Int → Int) {p x n q : Int} (h : p < q) (h2 : q ≤ n) : ins f p x n q = f (q - 1) := by unfold ins; rw [uI_n _ _ (by omega)]; unfold shu; rw [if_pos ⟨h, h2⟩]
