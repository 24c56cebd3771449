/-! the model: what it tells -/
def sndAcc (eh : Int → Int) (t s m : Int) : Int := if jand (jshr (eh s) t) 1 = 1 ∧ (s = 0 ∨ ¬ jand (jshr (eh (s - 1)) t) 1 = 1) then m + 1 else m
theorem st_acc (eh : Int → Int) (t v : Int) {i : Int} (h : 0 ≤ i) : fdA (sndAcc eh t) v 0 i = v + stN eh t i := by
  unfold stN
  refine fdA_rel (f := sndAcc eh t) (I := fun _ a b => a = v + b) h (by omega) (fun j s t' h1 h2 h3 => ?_)
  unfold sndAcc
  split <;> omega
theorem E1_bit {f g : Int → Int} (h : E1 f g) {t s : Int} (h1 : 0 ≤ s) (h2 : s < 100) : jand (jshr (f s) t) 1 = jand (jshr (g s) t) 1 := by rw [h s h1 h2]
theorem E1_st {f g : Int → Int} (h : E1 f g) {t s : Int} (h1 : 0 ≤ s) (h2 : s < 100) : (jand (jshr (f s) t) 1 = 1 ∧ (s = 0 ∨ ¬ jand (jshr (f (s - 1)) t) 1 = 1)) = (jand (jshr (g s) t) 1 = 1 ∧ (s = 0 ∨ ¬ jand (jshr (g (s - 1)) t) 1 = 1)) := by
  rw [h s h1 h2]
  by_cases c : s = 0
  · simp [c]
  · rw [h (s - 1) (by omega) (by omega)]
theorem E1_stN {f g : Int → Int} (h : E1 f g) {t i : Int} (hi : i ≤ 100) : stN f t i = stN g t i := by
  unfold stN
  refine fdA_congr (fun j s h1 h2 => ?_)
  simp only [E1_st h h1 (by omega : j < 100)]
theorem E1_snd {f g : Int → Int} (h : E1 f g) : sndN f = sndN g := by
  unfold sndN
  refine fdA_congr (fun j s h1 h2 => ?_)
  show s + stN f j 100 = s + stN g j 100
  rw [E1_stN h (by omega)]
theorem E1_whO {f g tr fi la : Int → Int} {k : Int} (h : E1 f g) (h0 : 0 ≤ fi k) (h1 : la k < 100) : whO f tr fi la k = whO g tr fi la k := by
  unfold whO
  refine fdA_congr (fun j s k1 k2 => ?_)
  unfold whS
  rw [h j (by omega) (by omega)]
theorem E1_gap {f g tr fi la sh : Int → Int} {no : Int} (hN : NT tr fi la sh no) (h : E1 f g) : gapN f tr fi la no = gapN g tr fi la no := by
  unfold gapN
  refine fdA_congr (fun j s k1 k2 => ?_)
  obtain ⟨a1, a2, a3, a4, a5, -, -⟩ := hN.2.2 j k1 k2
  show (if whO f tr fi la j = 0 then s + 1 else s) = _
  rw [E1_whO h a3 a5]
section Q49
variable {fu : Nat} {st se tr fi la sh ac : Int → Int} {no : Int}
/-- the end of a sound is one -/
theorem end_one {eh : Int → Int} {t a r r' : Int} (h1 : a ≤ r ∧ r < 100 ∧ (∀ s, a ≤ s → s ≤ r → jand (jshr (eh s) t) 1 = 1) ∧ (r = 99 ∨ ¬ jand (jshr (eh (r + 1)) t) 1 = 1)) (h2 : a ≤ r' ∧ r' < 100 ∧ (∀ s, a ≤ s → s ≤ r' → jand (jshr (eh s) t) 1 = 1) ∧ (r' = 99 ∨ ¬ jand (jshr (eh (r' + 1)) t) 1 = 1)) : r = r' := by
  obtain ⟨a1, a2, a3, a4⟩ := h1
  obtain ⟨b1, b2, b3, b4⟩ := h2
  rcases Int.lt_trichotomy r r' with h | h | h
  · rcases a4 with h4 | h4
    · omega
    · exact absurd (b3 (r + 1) (by omega) (by omega)) h4
  · exact h
  · rcases b4 with h4 | h4
    · omega
    · exact absurd (a3 (r' + 1) (by omega) (by omega)) h4
theorem stN_mono (eh : Int → Int) (t : Int) : ∀ (n : Nat) (i : Int), 0 ≤ i → stN eh t i ≤ stN eh t (i + n)
  | 0, i, _ => by simp
  | n + 1, i, h => by
    have := stN_mono eh t n i h
    rw [show i + ((n + 1 : Nat) : Int) = i + n + 1 by omega, stN_s _ _ (by omega)]
    split <;> omega
theorem start_one {eh : Int → Int} {t r r' x : Int} (h1 : 0 ≤ r ∧ r < 100 ∧ (jand (jshr (eh r) t) 1 = 1 ∧ (r = 0 ∨ ¬ jand (jshr (eh (r - 1)) t) 1 = 1)) ∧ stN eh t r = x) (h2 : 0 ≤ r' ∧ r' < 100 ∧ (jand (jshr (eh r') t) 1 = 1 ∧ (r' = 0 ∨ ¬ jand (jshr (eh (r' - 1)) t) 1 = 1)) ∧ stN eh t r' = x) : r = r' := by
  obtain ⟨a1, a2, a3, a4⟩ := h1
  obtain ⟨b1, b2, b3, b4⟩ := h2
  rcases Int.lt_trichotomy r r' with h | h | h
  · have m := stN_mono eh t (r' - (r + 1)).toNat (r + 1) (by omega)
    rw [show r + 1 + ((r' - (r + 1)).toNat : Int) = r' by omega, stN_s _ _ a1, if_pos a3] at m
    omega
  · exact h
  · have m := stN_mono eh t (r - (r' + 1)).toNat (r' + 1) (by omega)
    rw [show r' + 1 + ((r - (r' + 1)).toNat : Int) = r by omega, stN_s _ _ b1, if_pos b3] at m
    omega
end Q49

