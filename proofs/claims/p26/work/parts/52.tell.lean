/-! the operations that only tell -/
def DJ (tr fi la : Int → Int) (no : Int) : Prop := ∀ j k, 0 ≤ j → j < k → k < no → tr j = tr k → la j < fi k
theorem rg_lo {a : Int} (h : rg a) : -2147483648 ≤ a := h.1
theorem rg_hi {a : Int} (h : rg a) : a < 2147483648 := h.2
theorem EH_congr {f g : Int → Int} {h : Int} (e : E1 f g) : E1 (EHs f h) (EHs g h) := by
  intro s h1 h2
  unfold EHs
  have m := jmax_l (a := 0) (b := s - h)
  refine fdA_congr (fun j v j1 j2 => ?_)
  show jor v (f j) = jor v (g j)
  rw [e j (by omega) (by omega)]
def sSw (EH tr fi : Int → Int) (t : Int) (i m : Int) : Int := if tr i = t ∧ 0 < fi i ∧ jand (jshr (EH (fi i - 1)) t) 1 = 1 then m + 1 else m
section Q52
variable {fu : Nat} {st se tr fi la sh ac p_eh p_hf ho eh : Int → Int} {no p_we d_le g_si : Int}
theorem start_cg {f g : Int → Int} (h : E1 f g) {t r : Int} (h1 : 0 ≤ r) (h2 : r < 100) (a : (jand (jshr (f r) t) 1 = 1 ∧ (r = 0 ∨ ¬ jand (jshr (f (r - 1)) t) 1 = 1))) : (jand (jshr (g r) t) 1 = 1 ∧ (r = 0 ∨ ¬ jand (jshr (g (r - 1)) t) 1 = 1)) := by
  rw [E1_st h h1 h2] at a; exact a
theorem q_none {x : Int} (h1 : -2147483648 ≤ x) (h2 : x < 2147483648) : f_X4_noneIfMissing fu x = some (if 0 ≤ x then x else -6) := by
  unfold f_X4_noneIfMissing
  rw [jck_of h1 h2 (by omega) (by omega)]
  by_cases c : 0 ≤ x
  · rw [if_pos c, if_pos c]
  · rw [if_neg c, if_neg c]
end Q52

