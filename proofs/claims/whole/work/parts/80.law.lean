/-! THE CLAIM OUT OF ONE WALK OF THE LAW'S BODY. Your part is whole_start (and what it stands on); all else here is the same for every law, but numbers. -/
def R_law : String := "MusicHolesLaw"
def lw_P (b : Addr) (xs : List Int32) (args : Array Value) (s : State) : Prop := args = #[.ref b] ∧ s.IntsAt b xs ∧ xs.length ≤ 2048 ∧ (Jvm.Cond.and given_1 narrow_1).before args s = true
def lw_Q (_ : Array Value) (s : State) (o : Outcome) (t : State) : Prop := o = .returned (some (.int 1)) ∧ Framed s o t [] 600000 7302250
def lw_Z (below : List Frame) (a : Array Value) (s : State) : State → Prop := fun t => ∃ o, t.status = .running ∧ Ended t below o ∧ lw_Q a s o t
/-- the law's own end, with 1 on the stack, nothing written that was there before, its room as the claim has it -/
theorem lw_ret {p : Program} {l : Launch} {e : Env} {s : State} {m : MethodId} {below : List Frame} {meth : Method} {c : Code} {b : Nat} (hx : p.tables.exec = Jvm.exec) (hb : c.code = code) (hr : meth.sig.returnType = ret) (hlocks : meth.locks = false) {pc : Nat} {H : Heap} {ls : Array Slot} (hdg : decode code pc = .ok (.ireturn, 1)) : W p l e room_1 s m #[Value.ref b] below meth c H [] 600000 7302250 (lw_Z below #[Value.ref b] s) (F0 m pc ls [.int 1]) := by
  intro T hT X
  obtain ⟨fs, hret, hrun, hended, hW, hframe⟩ := X.leave (v := some (.int 1)) (hlocks := hlocks) (fun h => by rw [hr] at h; cases h)
  have hmeth' : T.vm.method? m = some meth := X.method'
  refine ⟨T.setFrames fs, ?_, .returned (some (.int 1)), hrun, hended, rfl, ⟨_, rfl⟩, hW, hframe⟩
  jvm_step X.here [X.here.top, hx, hb, hdg, hmeth', hr, ret, narrow_b1]
  (try refine ⟨rfl, ?_⟩); (try refine ⟨rfl, ?_⟩)
  first | (intro acts; rw [hret _ acts rfl rfl rfl]) | rw [hret _ _ rfl rfl rfl]
  exact Steps.refl _
/-- what holds at the law's entry: the machine, the code, the tables' words (any of lw_tbl by 'hts w (by decide +kernel)'), the script of L ints xs at the cell b, what the Statement gives of the start (any of its parts by flat_of_before) -/
def lw_At (p : Program) (s : State) (m : MethodId) (meth : Method) (c : Code) (b L : Nat) (xs : Nat → Int32) : Prop :=
  p.tables.exec = Jvm.exec ∧ c.code = code ∧ meth.sig.returnType = ret ∧ c.maxLocals = 4 ∧ s.vm.findClass R_law = some m.cls ∧ (∀ w ∈ lw_tbl, w.before #[Value.ref b] s = true) ∧ va_X b L xs s s.heap ∧ b < s.heap.size ∧ meth.locks = false ∧ (Jvm.Cond.and given_1 narrow_1).before #[Value.ref b] s = true
def lA (s : State) : Nat → Prop := fun q => s.heap.size ≤ q
section L80
variable {p : Program} {l : Launch} {e : Env} {s : State} {m : MethodId} {below : List Frame} {meth : Method} {c : Code} {b L : Nat} {xs : Nat → Int32} {D : va_G} {y : Nat → ClassId} {z : Nat → Nat} {ha hb' : Nat} {cs ms : List va_W} {H : Heap} {locs : List Loc} {ls : Array Slot} {i : Nat} {Q : State → Prop}
/-- the script's int at i + k -/
theorem la_arg {pc k : Nat} {kc : Int} {x : Int} {rest : List Value} {cells slots : Nat} (C0 : lw_At p s m meth c b L xs) (hS : va_S (lA s) s.heap H locs) (hl : lv_has ls 4 [(3, .int (jI (i : Int))), (2, .ref hb'), (1, .ref ha), (0, .ref b)]) (hL : L ≤ 2048) (hk : i + k < L) (hkc : kc = (k : Int)) (ex : xs (i + k) = jI x) (d0 : decode code pc = .ok (.aload_n 0, 1)) (d1 : decode code (pc + 1) = .ok (.iload_n 3, 1)) (d2 : decode code (pc + 1 + 1) = .ok (.iconst kc, 1)) (d3 : decode code (pc + 1 + 1 + 1) = .ok (.iadd, 1)) (d4 : decode code (pc + 1 + 1 + 1 + 1) = .ok (.iaload, 1)) (kk : W p l e room_1 s m #[Value.ref b] below meth c H locs cells slots Q (F0 m (pc + 1 + 1 + 1 + 1 + 1) ls (.int (jI x) :: rest))) : W p l e room_1 s m #[Value.ref b] below meth c H locs cells slots Q (F0 m pc ls rest) := by
  obtain ⟨hx, hb, hr, hml, hown, hts, hX, hbl, hlocks, hgv⟩ := id C0
  refine lv_aload_n hx hb d0 rfl (lv_at hl 3 rfl) ?_
  refine lv_iload_n hx hb d1 rfl (lv_at hl 0 rfl) ?_
  refine lv_iconst (v := jI (k : Int)) hx hb d2 (by rw [hkc]; rfl) ?_
  refine lv_iadd hx hb d3 ?_
  have hz := jI_nat (x := (i : Int) + (k : Int)) (by omega) (by omega)
  rw [jI_add]
  refine va_sld hx hb hX hbl (Nat.not_le.mpr hbl) hS (jI_in (by omega) (by omega) (by omega)) d4 ?_
  rw [hz, show ((i : Int) + (k : Int)).toNat = i + k by omega, ex]
  exact kk
theorem wsL_law_m1 : ∀ w ∈ wsL_law_r1, w ∈ wsL_law := fun _ h => List.mem_append_left _ (List.mem_append_left _ (List.mem_append_left _ (List.mem_append_left _ (List.mem_append_left _ (List.mem_append_left _ (List.mem_append_left _ (List.mem_append_left _ h)))))))
theorem la_set (C0 : lw_At p s m meth c b L xs) (hM : jM D y z (lA s) s) (hL : L ≤ 2048) (hi : i + 3 < L) (h : LREL y ha hb' cs ms) (hl : lv_has ls 4 [(3, .int (jI (i : Int))), (2, .ref hb'), (1, .ref ha), (0, .ref b)]) (hP : va_P D vwCl (cs ++ ms).flatten H) (hD : va_D (lA s) (cs ++ ms).flatten) (hS : va_S (lA s) s.heap H locs) (k : ∀ cs1 ms1 H1 locs1, LREL y ha hb' cs1 ms1 → va_P D vwCl (cs1 ++ ms1).flatten H1 → va_D (lA s) (cs1 ++ ms1).flatten → va_S (lA s) s.heap H1 locs1 → W p l e room_1 s m #[Value.ref b] below meth c H1 locs1 600000 7302250 Q (F0 m 815 ls [])) : W p l e room_1 s m #[Value.ref b] below meth c H locs 600000 7302250 Q (F0 m 140 ls []) := by
  obtain ⟨hx, hb, hr, hml, hown, hts, hX, hbl, hlocks, hgv⟩ := id C0
  have hts9 : ∀ w ∈ wsL_law, w.before #[Value.ref b] s = true := fun w h9 => hts w (wsL_law_in w h9)
  obtain ⟨f4, f5, he4, he5⟩ := LREL_a h
  obtain ⟨x1, h1, e1⟩ : ∃ x : Int, rg x ∧ xs (i + 1) = jI x := ⟨_, rg_of _, (jI_of _).symm⟩
  obtain ⟨x2, h2, e2⟩ : ∃ x : Int, rg x ∧ xs (i + 2) = jI x := ⟨_, rg_of _, (jI_of _).symm⟩
  obtain ⟨r, cs1, ms1, c4, c5, h1'⟩ := st_set l D y z h1 h2 h
  refine lv_aload_n hx hb dL_law_140 rfl (lv_at hl 2 rfl) ?_
  refine la_arg (k := 1) (x := x1) C0 hS hl hL (by omega) rfl e1 dL_law_141 dL_law_142 dL_law_143 dL_law_144 dL_law_145 ?_
  refine la_arg (k := 2) (x := x2) C0 hS hl hL (by omega) rfl e2 dL_law_146 dL_law_147 dL_law_148 dL_law_149 dL_law_150 ?_
  refine jx_cvi (wr := ms) (cw := cs) (cw1 := cs1) (cs1 := cs1 ++ ms) (As := [.int (jI x1), .int (jI x2)]) (rest := []) ⟨hx, hb, hml.trans hl.1.symm, hown, hts9⟩ hM hP hD hS (fun _ h9 => h9) List.perm_append_comm List.perm_append_comm c4 2 gL_law_X4_set rfl ⟨rfl, rfl⟩ (by decide +kernel) ⟨Nat.le_of_ble_eq_true rfl, Nat.le_of_ble_eq_true rfl⟩ 0 4 he4 rfl rfl rfl rfl rfl (Nat.le_of_ble_eq_true rfl) dL_law_151 ⟨Nat.le_refl _, Nat.le_refl _⟩ (fun H locs hP hD hS => ?_)
  refine lv_aload_n hx hb dL_law_154 rfl (lv_at hl 1 rfl) ?_
  refine la_arg (k := 1) (x := x1) C0 hS hl hL (by omega) rfl e1 dL_law_155 dL_law_156 dL_law_157 dL_law_158 dL_law_159 ?_
  refine la_arg (k := 2) (x := x2) C0 hS hl hL (by omega) rfl e2 dL_law_160 dL_law_161 dL_law_162 dL_law_163 dL_law_164 ?_
  refine jx_cvi (wr := cs1) (cw := ms) (cw1 := ms1) (cs1 := cs1 ++ ms1) (As := [.int (jI x1), .int (jI x2)]) (rest := [.int (jI r)]) ⟨hx, hb, hml.trans hl.1.symm, hown, hts9⟩ hM hP hD hS (fun _ h9 => h9) (List.Perm.refl _) (List.Perm.refl _) c5 2 gL_law_X5_set rfl ⟨rfl, rfl⟩ (by decide +kernel) ⟨Nat.le_of_ble_eq_true rfl, Nat.le_of_ble_eq_true rfl⟩ 0 5 he5 rfl rfl rfl rfl rfl (Nat.le_of_ble_eq_true rfl) dL_law_165 ⟨Nat.le_refl _, Nat.le_refl _⟩ (fun H locs hP hD hS => ?_)
  refine lv_icmp_eq (tgt := 815) hx hb dL_law_168 (by decide) (fun _ => ?_) (fun q9 => absurd rfl q9)
  exact k cs1 ms1 H locs h1' hP hD hS
theorem la_note (C0 : lw_At p s m meth c b L xs) (hM : jM D y z (lA s) s) (hL : L ≤ 2048) (hi : i + 3 < L) (h : LREL y ha hb' cs ms) (hl : lv_has ls 4 [(3, .int (jI (i : Int))), (2, .ref hb'), (1, .ref ha), (0, .ref b)]) (hP : va_P D vwCl (cs ++ ms).flatten H) (hD : va_D (lA s) (cs ++ ms).flatten) (hS : va_S (lA s) s.heap H locs) (k : ∀ cs1 ms1 H1 locs1, LREL y ha hb' cs1 ms1 → va_P D vwCl (cs1 ++ ms1).flatten H1 → va_D (lA s) (cs1 ++ ms1).flatten → va_S (lA s) s.heap H1 locs1 → W p l e room_1 s m #[Value.ref b] below meth c H1 locs1 600000 7302250 Q (F0 m 815 ls [])) : W p l e room_1 s m #[Value.ref b] below meth c H locs 600000 7302250 Q (F0 m 173 ls []) := by
  obtain ⟨hx, hb, hr, hml, hown, hts, hX, hbl, hlocks, hgv⟩ := id C0
  have hts9 : ∀ w ∈ wsL_law, w.before #[Value.ref b] s = true := fun w h9 => hts w (wsL_law_in w h9)
  obtain ⟨f4, f5, he4, he5⟩ := LREL_a h
  obtain ⟨x1, h1, e1⟩ : ∃ x : Int, rg x ∧ xs (i + 1) = jI x := ⟨_, rg_of _, (jI_of _).symm⟩
  obtain ⟨x2, h2, e2⟩ : ∃ x : Int, rg x ∧ xs (i + 2) = jI x := ⟨_, rg_of _, (jI_of _).symm⟩
  obtain ⟨x3, h3, e3⟩ : ∃ x : Int, rg x ∧ xs (i + 3) = jI x := ⟨_, rg_of _, (jI_of _).symm⟩
  obtain ⟨r, cs1, ms1, c4, c5, h1'⟩ := st_note l D y z h1 h2 h3 h
  refine lv_aload_n hx hb dL_law_173 rfl (lv_at hl 2 rfl) ?_
  refine la_arg (k := 1) (x := x1) C0 hS hl hL (by omega) rfl e1 dL_law_174 dL_law_175 dL_law_176 dL_law_177 dL_law_178 ?_
  refine la_arg (k := 2) (x := x2) C0 hS hl hL (by omega) rfl e2 dL_law_179 dL_law_180 dL_law_181 dL_law_182 dL_law_183 ?_
  refine la_arg (k := 3) (x := x3) C0 hS hl hL (by omega) rfl e3 dL_law_184 dL_law_185 dL_law_186 dL_law_187 dL_law_188 ?_
  refine jx_cvi (wr := ms) (cw := cs) (cw1 := cs1) (cs1 := cs1 ++ ms) (As := [.int (jI x1), .int (jI x2), .int (jI x3)]) (rest := []) ⟨hx, hb, hml.trans hl.1.symm, hown, hts9⟩ hM hP hD hS (fun _ h9 => h9) List.perm_append_comm List.perm_append_comm c4 3 gL_law_X4_note rfl ⟨rfl, rfl⟩ (by decide +kernel) ⟨Nat.le_of_ble_eq_true rfl, Nat.le_of_ble_eq_true rfl⟩ 0 4 he4 rfl rfl rfl rfl rfl (Nat.le_of_ble_eq_true rfl) dL_law_189 ⟨Nat.le_refl _, Nat.le_refl _⟩ (fun H locs hP hD hS => ?_)
  refine lv_aload_n hx hb dL_law_192 rfl (lv_at hl 1 rfl) ?_
  refine la_arg (k := 1) (x := x1) C0 hS hl hL (by omega) rfl e1 dL_law_193 dL_law_194 dL_law_195 dL_law_196 dL_law_197 ?_
  refine la_arg (k := 2) (x := x2) C0 hS hl hL (by omega) rfl e2 dL_law_198 dL_law_199 dL_law_200 dL_law_201 dL_law_202 ?_
  refine la_arg (k := 3) (x := x3) C0 hS hl hL (by omega) rfl e3 dL_law_203 dL_law_204 dL_law_205 dL_law_206 dL_law_207 ?_
  refine jx_cvi (wr := cs1) (cw := ms) (cw1 := ms1) (cs1 := cs1 ++ ms1) (As := [.int (jI x1), .int (jI x2), .int (jI x3)]) (rest := [.int (jI r)]) ⟨hx, hb, hml.trans hl.1.symm, hown, hts9⟩ hM hP hD hS (fun _ h9 => h9) (List.Perm.refl _) (List.Perm.refl _) c5 3 gL_law_X5_note rfl ⟨rfl, rfl⟩ (by decide +kernel) ⟨Nat.le_of_ble_eq_true rfl, Nat.le_of_ble_eq_true rfl⟩ 0 5 he5 rfl rfl rfl rfl rfl (Nat.le_of_ble_eq_true rfl) dL_law_208 ⟨Nat.le_refl _, Nat.le_refl _⟩ (fun H locs hP hD hS => ?_)
  refine lv_icmp_eq (tgt := 815) hx hb dL_law_211 (by decide) (fun _ => ?_) (fun q9 => absurd rfl q9)
  exact k cs1 ms1 H locs h1' hP hD hS
theorem la_drop (C0 : lw_At p s m meth c b L xs) (hM : jM D y z (lA s) s) (hL : L ≤ 2048) (hi : i + 3 < L) (h : LREL y ha hb' cs ms) (hl : lv_has ls 4 [(3, .int (jI (i : Int))), (2, .ref hb'), (1, .ref ha), (0, .ref b)]) (hP : va_P D vwCl (cs ++ ms).flatten H) (hD : va_D (lA s) (cs ++ ms).flatten) (hS : va_S (lA s) s.heap H locs) (k : ∀ cs1 ms1 H1 locs1, LREL y ha hb' cs1 ms1 → va_P D vwCl (cs1 ++ ms1).flatten H1 → va_D (lA s) (cs1 ++ ms1).flatten → va_S (lA s) s.heap H1 locs1 → W p l e room_1 s m #[Value.ref b] below meth c H1 locs1 600000 7302250 Q (F0 m 815 ls [])) : W p l e room_1 s m #[Value.ref b] below meth c H locs 600000 7302250 Q (F0 m 216 ls []) := by
  obtain ⟨hx, hb, hr, hml, hown, hts, hX, hbl, hlocks, hgv⟩ := id C0
  have hts9 : ∀ w ∈ wsL_law, w.before #[Value.ref b] s = true := fun w h9 => hts w (wsL_law_in w h9)
  obtain ⟨f4, f5, he4, he5⟩ := LREL_a h
  obtain ⟨x1, h1, e1⟩ : ∃ x : Int, rg x ∧ xs (i + 1) = jI x := ⟨_, rg_of _, (jI_of _).symm⟩
  obtain ⟨r, cs1, ms1, c4, c5, h1'⟩ := st_drop l D y z h1 h
  refine lv_aload_n hx hb dL_law_216 rfl (lv_at hl 2 rfl) ?_
  refine la_arg (k := 1) (x := x1) C0 hS hl hL (by omega) rfl e1 dL_law_217 dL_law_218 dL_law_219 dL_law_220 dL_law_221 ?_
  refine jx_cvi (wr := ms) (cw := cs) (cw1 := cs1) (cs1 := cs1 ++ ms) (As := [.int (jI x1)]) (rest := []) ⟨hx, hb, hml.trans hl.1.symm, hown, hts9⟩ hM hP hD hS (fun _ h9 => h9) List.perm_append_comm List.perm_append_comm c4 1 gL_law_X4_drop rfl ⟨rfl, rfl⟩ (by decide +kernel) ⟨Nat.le_of_ble_eq_true rfl, Nat.le_of_ble_eq_true rfl⟩ 0 4 he4 rfl rfl rfl rfl rfl (Nat.le_of_ble_eq_true rfl) dL_law_222 ⟨Nat.le_refl _, Nat.le_refl _⟩ (fun H locs hP hD hS => ?_)
  refine lv_aload_n hx hb dL_law_225 rfl (lv_at hl 1 rfl) ?_
  refine la_arg (k := 1) (x := x1) C0 hS hl hL (by omega) rfl e1 dL_law_226 dL_law_227 dL_law_228 dL_law_229 dL_law_230 ?_
  refine jx_cvi (wr := cs1) (cw := ms) (cw1 := ms1) (cs1 := cs1 ++ ms1) (As := [.int (jI x1)]) (rest := [.int (jI r)]) ⟨hx, hb, hml.trans hl.1.symm, hown, hts9⟩ hM hP hD hS (fun _ h9 => h9) (List.Perm.refl _) (List.Perm.refl _) c5 1 gL_law_X5_drop rfl ⟨rfl, rfl⟩ (by decide +kernel) ⟨Nat.le_of_ble_eq_true rfl, Nat.le_of_ble_eq_true rfl⟩ 0 5 he5 rfl rfl rfl rfl rfl (Nat.le_of_ble_eq_true rfl) dL_law_231 ⟨Nat.le_refl _, Nat.le_refl _⟩ (fun H locs hP hD hS => ?_)
  refine lv_icmp_eq (tgt := 815) hx hb dL_law_234 (by decide) (fun _ => ?_) (fun q9 => absurd rfl q9)
  exact k cs1 ms1 H locs h1' hP hD hS
theorem la_shift (C0 : lw_At p s m meth c b L xs) (hM : jM D y z (lA s) s) (hL : L ≤ 2048) (hi : i + 3 < L) (h : LREL y ha hb' cs ms) (hl : lv_has ls 4 [(3, .int (jI (i : Int))), (2, .ref hb'), (1, .ref ha), (0, .ref b)]) (hP : va_P D vwCl (cs ++ ms).flatten H) (hD : va_D (lA s) (cs ++ ms).flatten) (hS : va_S (lA s) s.heap H locs) (k : ∀ cs1 ms1 H1 locs1, LREL y ha hb' cs1 ms1 → va_P D vwCl (cs1 ++ ms1).flatten H1 → va_D (lA s) (cs1 ++ ms1).flatten → va_S (lA s) s.heap H1 locs1 → W p l e room_1 s m #[Value.ref b] below meth c H1 locs1 600000 7302250 Q (F0 m 815 ls [])) : W p l e room_1 s m #[Value.ref b] below meth c H locs 600000 7302250 Q (F0 m 239 ls []) := by
  obtain ⟨hx, hb, hr, hml, hown, hts, hX, hbl, hlocks, hgv⟩ := id C0
  have hts9 : ∀ w ∈ wsL_law, w.before #[Value.ref b] s = true := fun w h9 => hts w (wsL_law_in w h9)
  obtain ⟨f4, f5, he4, he5⟩ := LREL_a h
  obtain ⟨x1, h1, e1⟩ : ∃ x : Int, rg x ∧ xs (i + 1) = jI x := ⟨_, rg_of _, (jI_of _).symm⟩
  obtain ⟨x2, h2, e2⟩ : ∃ x : Int, rg x ∧ xs (i + 2) = jI x := ⟨_, rg_of _, (jI_of _).symm⟩
  obtain ⟨r, cs1, ms1, c4, c5, h1'⟩ := st_shift l D y z h1 h2 h
  refine lv_aload_n hx hb dL_law_239 rfl (lv_at hl 2 rfl) ?_
  refine la_arg (k := 1) (x := x1) C0 hS hl hL (by omega) rfl e1 dL_law_240 dL_law_241 dL_law_242 dL_law_243 dL_law_244 ?_
  refine la_arg (k := 2) (x := x2) C0 hS hl hL (by omega) rfl e2 dL_law_245 dL_law_246 dL_law_247 dL_law_248 dL_law_249 ?_
  refine jx_cvi (wr := ms) (cw := cs) (cw1 := cs1) (cs1 := cs1 ++ ms) (As := [.int (jI x1), .int (jI x2)]) (rest := []) ⟨hx, hb, hml.trans hl.1.symm, hown, hts9⟩ hM hP hD hS (fun _ h9 => h9) List.perm_append_comm List.perm_append_comm c4 2 gL_law_X4_shift rfl ⟨rfl, rfl⟩ (by decide +kernel) ⟨Nat.le_of_ble_eq_true rfl, Nat.le_of_ble_eq_true rfl⟩ 0 4 he4 rfl rfl rfl rfl rfl (Nat.le_of_ble_eq_true rfl) dL_law_250 ⟨Nat.le_refl _, Nat.le_refl _⟩ (fun H locs hP hD hS => ?_)
  refine lv_aload_n hx hb dL_law_253 rfl (lv_at hl 1 rfl) ?_
  refine la_arg (k := 1) (x := x1) C0 hS hl hL (by omega) rfl e1 dL_law_254 dL_law_255 dL_law_256 dL_law_257 dL_law_258 ?_
  refine la_arg (k := 2) (x := x2) C0 hS hl hL (by omega) rfl e2 dL_law_259 dL_law_260 dL_law_261 dL_law_262 dL_law_263 ?_
  refine jx_cvi (wr := cs1) (cw := ms) (cw1 := ms1) (cs1 := cs1 ++ ms1) (As := [.int (jI x1), .int (jI x2)]) (rest := [.int (jI r)]) ⟨hx, hb, hml.trans hl.1.symm, hown, hts9⟩ hM hP hD hS (fun _ h9 => h9) (List.Perm.refl _) (List.Perm.refl _) c5 2 gL_law_X5_shift rfl ⟨rfl, rfl⟩ (by decide +kernel) ⟨Nat.le_of_ble_eq_true rfl, Nat.le_of_ble_eq_true rfl⟩ 0 5 he5 rfl rfl rfl rfl rfl (Nat.le_of_ble_eq_true rfl) dL_law_264 ⟨Nat.le_refl _, Nat.le_refl _⟩ (fun H locs hP hD hS => ?_)
  refine lv_icmp_eq (tgt := 815) hx hb dL_law_267 (by decide) (fun _ => ?_) (fun q9 => absurd rfl q9)
  exact k cs1 ms1 H locs h1' hP hD hS
theorem la_accent (C0 : lw_At p s m meth c b L xs) (hM : jM D y z (lA s) s) (hL : L ≤ 2048) (hi : i + 3 < L) (h : LREL y ha hb' cs ms) (hl : lv_has ls 4 [(3, .int (jI (i : Int))), (2, .ref hb'), (1, .ref ha), (0, .ref b)]) (hP : va_P D vwCl (cs ++ ms).flatten H) (hD : va_D (lA s) (cs ++ ms).flatten) (hS : va_S (lA s) s.heap H locs) (k : ∀ cs1 ms1 H1 locs1, LREL y ha hb' cs1 ms1 → va_P D vwCl (cs1 ++ ms1).flatten H1 → va_D (lA s) (cs1 ++ ms1).flatten → va_S (lA s) s.heap H1 locs1 → W p l e room_1 s m #[Value.ref b] below meth c H1 locs1 600000 7302250 Q (F0 m 815 ls [])) : W p l e room_1 s m #[Value.ref b] below meth c H locs 600000 7302250 Q (F0 m 272 ls []) := by
  obtain ⟨hx, hb, hr, hml, hown, hts, hX, hbl, hlocks, hgv⟩ := id C0
  have hts9 : ∀ w ∈ wsL_law, w.before #[Value.ref b] s = true := fun w h9 => hts w (wsL_law_in w h9)
  obtain ⟨f4, f5, he4, he5⟩ := LREL_a h
  obtain ⟨x1, h1, e1⟩ : ∃ x : Int, rg x ∧ xs (i + 1) = jI x := ⟨_, rg_of _, (jI_of _).symm⟩
  obtain ⟨x2, h2, e2⟩ : ∃ x : Int, rg x ∧ xs (i + 2) = jI x := ⟨_, rg_of _, (jI_of _).symm⟩
  by_cases hz : jI x2 = 0
  · obtain ⟨r, cs1, ms1, c4, c5, h1'⟩ := st_accent l D y z h1 (x2 := 0) (by omega) h
    refine lv_aload_n hx hb dL_law_272 rfl (lv_at hl 2 rfl) ?_
    refine la_arg (k := 1) (x := x1) C0 hS hl hL (by omega) rfl e1 dL_law_273 dL_law_274 dL_law_275 dL_law_276 dL_law_277 ?_
    refine la_arg (k := 2) (x := x2) C0 hS hl hL (by omega) rfl e2 dL_law_278 dL_law_279 dL_law_280 dL_law_281 dL_law_282 ?_
    refine lv_if_eq (tgt := 290) hx hb dL_law_283 (by decide) (fun _ => ?_) (fun q9 => absurd hz q9)
    refine lv_iconst (v := jI 0) hx hb dL_law_290 rfl ?_
    refine jx_cvi (wr := ms) (cw := cs) (cw1 := cs1) (cs1 := cs1 ++ ms) (As := [.int (jI x1), .int (jI 0)]) (rest := []) ⟨hx, hb, hml.trans hl.1.symm, hown, hts9⟩ hM hP hD hS (fun _ h9 => h9) List.perm_append_comm List.perm_append_comm c4 2 gL_law_X4_accent rfl ⟨rfl, rfl⟩ (by decide +kernel) ⟨Nat.le_of_ble_eq_true rfl, Nat.le_of_ble_eq_true rfl⟩ 0 4 he4 rfl rfl rfl rfl rfl (Nat.le_of_ble_eq_true rfl) dL_law_291 ⟨Nat.le_refl _, Nat.le_refl _⟩ (fun H locs hP hD hS => ?_)
    refine lv_aload_n hx hb dL_law_294 rfl (lv_at hl 1 rfl) ?_
    refine la_arg (k := 1) (x := x1) C0 hS hl hL (by omega) rfl e1 dL_law_295 dL_law_296 dL_law_297 dL_law_298 dL_law_299 ?_
    refine la_arg (k := 2) (x := x2) C0 hS hl hL (by omega) rfl e2 dL_law_300 dL_law_301 dL_law_302 dL_law_303 dL_law_304 ?_
    refine lv_if_eq (tgt := 312) hx hb dL_law_305 (by decide) (fun _ => ?_) (fun q9 => absurd hz q9)
    refine lv_iconst (v := jI 0) hx hb dL_law_312 rfl ?_
    refine jx_cvi (wr := cs1) (cw := ms) (cw1 := ms1) (cs1 := cs1 ++ ms1) (As := [.int (jI x1), .int (jI 0)]) (rest := [.int (jI r)]) ⟨hx, hb, hml.trans hl.1.symm, hown, hts9⟩ hM hP hD hS (fun _ h9 => h9) (List.Perm.refl _) (List.Perm.refl _) c5 2 gL_law_X5_accent rfl ⟨rfl, rfl⟩ (by decide +kernel) ⟨Nat.le_of_ble_eq_true rfl, Nat.le_of_ble_eq_true rfl⟩ 0 5 he5 rfl rfl rfl rfl rfl (Nat.le_of_ble_eq_true rfl) dL_law_313 ⟨Nat.le_refl _, Nat.le_refl _⟩ (fun H locs hP hD hS => ?_)
    refine lv_icmp_eq (tgt := 815) hx hb dL_law_316 (by decide) (fun _ => ?_) (fun q9 => absurd rfl q9)
    exact k cs1 ms1 H locs h1' hP hD hS
  · obtain ⟨r, cs1, ms1, c4, c5, h1'⟩ := st_accent l D y z h1 (x2 := 1) (by omega) h
    refine lv_aload_n hx hb dL_law_272 rfl (lv_at hl 2 rfl) ?_
    refine la_arg (k := 1) (x := x1) C0 hS hl hL (by omega) rfl e1 dL_law_273 dL_law_274 dL_law_275 dL_law_276 dL_law_277 ?_
    refine la_arg (k := 2) (x := x2) C0 hS hl hL (by omega) rfl e2 dL_law_278 dL_law_279 dL_law_280 dL_law_281 dL_law_282 ?_
    refine lv_if_eq (tgt := 290) hx hb dL_law_283 (by decide) (fun q9 => absurd q9 hz) (fun _ => ?_)
    refine lv_iconst (v := jI 1) hx hb dL_law_286 rfl ?_
    refine lv_goto (tgt := 291) hx hb dL_law_287 (by decide) ?_
    refine jx_cvi (wr := ms) (cw := cs) (cw1 := cs1) (cs1 := cs1 ++ ms) (As := [.int (jI x1), .int (jI 1)]) (rest := []) ⟨hx, hb, hml.trans hl.1.symm, hown, hts9⟩ hM hP hD hS (fun _ h9 => h9) List.perm_append_comm List.perm_append_comm c4 2 gL_law_X4_accent rfl ⟨rfl, rfl⟩ (by decide +kernel) ⟨Nat.le_of_ble_eq_true rfl, Nat.le_of_ble_eq_true rfl⟩ 0 4 he4 rfl rfl rfl rfl rfl (Nat.le_of_ble_eq_true rfl) dL_law_291 ⟨Nat.le_refl _, Nat.le_refl _⟩ (fun H locs hP hD hS => ?_)
    refine lv_aload_n hx hb dL_law_294 rfl (lv_at hl 1 rfl) ?_
    refine la_arg (k := 1) (x := x1) C0 hS hl hL (by omega) rfl e1 dL_law_295 dL_law_296 dL_law_297 dL_law_298 dL_law_299 ?_
    refine la_arg (k := 2) (x := x2) C0 hS hl hL (by omega) rfl e2 dL_law_300 dL_law_301 dL_law_302 dL_law_303 dL_law_304 ?_
    refine lv_if_eq (tgt := 312) hx hb dL_law_305 (by decide) (fun q9 => absurd q9 hz) (fun _ => ?_)
    refine lv_iconst (v := jI 1) hx hb dL_law_308 rfl ?_
    refine lv_goto (tgt := 313) hx hb dL_law_309 (by decide) ?_
    refine jx_cvi (wr := cs1) (cw := ms) (cw1 := ms1) (cs1 := cs1 ++ ms1) (As := [.int (jI x1), .int (jI 1)]) (rest := [.int (jI r)]) ⟨hx, hb, hml.trans hl.1.symm, hown, hts9⟩ hM hP hD hS (fun _ h9 => h9) (List.Perm.refl _) (List.Perm.refl _) c5 2 gL_law_X5_accent rfl ⟨rfl, rfl⟩ (by decide +kernel) ⟨Nat.le_of_ble_eq_true rfl, Nat.le_of_ble_eq_true rfl⟩ 0 5 he5 rfl rfl rfl rfl rfl (Nat.le_of_ble_eq_true rfl) dL_law_313 ⟨Nat.le_refl _, Nat.le_refl _⟩ (fun H locs hP hD hS => ?_)
    refine lv_icmp_eq (tgt := 815) hx hb dL_law_316 (by decide) (fun _ => ?_) (fun q9 => absurd rfl q9)
    exact k cs1 ms1 H locs h1' hP hD hS
theorem la_insert (C0 : lw_At p s m meth c b L xs) (hM : jM D y z (lA s) s) (hL : L ≤ 2048) (hi : i + 3 < L) (h : LREL y ha hb' cs ms) (hl : lv_has ls 4 [(3, .int (jI (i : Int))), (2, .ref hb'), (1, .ref ha), (0, .ref b)]) (hP : va_P D vwCl (cs ++ ms).flatten H) (hD : va_D (lA s) (cs ++ ms).flatten) (hS : va_S (lA s) s.heap H locs) (k : ∀ cs1 ms1 H1 locs1, LREL y ha hb' cs1 ms1 → va_P D vwCl (cs1 ++ ms1).flatten H1 → va_D (lA s) (cs1 ++ ms1).flatten → va_S (lA s) s.heap H1 locs1 → W p l e room_1 s m #[Value.ref b] below meth c H1 locs1 600000 7302250 Q (F0 m 815 ls [])) : W p l e room_1 s m #[Value.ref b] below meth c H locs 600000 7302250 Q (F0 m 321 ls []) := by
  obtain ⟨hx, hb, hr, hml, hown, hts, hX, hbl, hlocks, hgv⟩ := id C0
  have hts9 : ∀ w ∈ wsL_law, w.before #[Value.ref b] s = true := fun w h9 => hts w (wsL_law_in w h9)
  obtain ⟨f4, f5, he4, he5⟩ := LREL_a h
  obtain ⟨x1, h1, e1⟩ : ∃ x : Int, rg x ∧ xs (i + 1) = jI x := ⟨_, rg_of _, (jI_of _).symm⟩
  obtain ⟨x2, h2, e2⟩ : ∃ x : Int, rg x ∧ xs (i + 2) = jI x := ⟨_, rg_of _, (jI_of _).symm⟩
  obtain ⟨r, cs1, ms1, c4, c5, h1'⟩ := st_insert l D y z h1 h2 h
  refine lv_aload_n hx hb dL_law_321 rfl (lv_at hl 2 rfl) ?_
  refine la_arg (k := 1) (x := x1) C0 hS hl hL (by omega) rfl e1 dL_law_322 dL_law_323 dL_law_324 dL_law_325 dL_law_326 ?_
  refine la_arg (k := 2) (x := x2) C0 hS hl hL (by omega) rfl e2 dL_law_327 dL_law_328 dL_law_329 dL_law_330 dL_law_331 ?_
  refine jx_cvi (wr := ms) (cw := cs) (cw1 := cs1) (cs1 := cs1 ++ ms) (As := [.int (jI x1), .int (jI x2)]) (rest := []) ⟨hx, hb, hml.trans hl.1.symm, hown, hts9⟩ hM hP hD hS (fun _ h9 => h9) List.perm_append_comm List.perm_append_comm c4 2 gL_law_X4_insert rfl ⟨rfl, rfl⟩ (by decide +kernel) ⟨Nat.le_of_ble_eq_true rfl, Nat.le_of_ble_eq_true rfl⟩ 0 4 he4 rfl rfl rfl rfl rfl (Nat.le_of_ble_eq_true rfl) dL_law_332 ⟨Nat.le_refl _, Nat.le_refl _⟩ (fun H locs hP hD hS => ?_)
  refine lv_aload_n hx hb dL_law_335 rfl (lv_at hl 1 rfl) ?_
  refine la_arg (k := 1) (x := x1) C0 hS hl hL (by omega) rfl e1 dL_law_336 dL_law_337 dL_law_338 dL_law_339 dL_law_340 ?_
  refine la_arg (k := 2) (x := x2) C0 hS hl hL (by omega) rfl e2 dL_law_341 dL_law_342 dL_law_343 dL_law_344 dL_law_345 ?_
  refine jx_cvi (wr := cs1) (cw := ms) (cw1 := ms1) (cs1 := cs1 ++ ms1) (As := [.int (jI x1), .int (jI x2)]) (rest := [.int (jI r)]) ⟨hx, hb, hml.trans hl.1.symm, hown, hts9⟩ hM hP hD hS (fun _ h9 => h9) (List.Perm.refl _) (List.Perm.refl _) c5 2 gL_law_X5_insert rfl ⟨rfl, rfl⟩ (by decide +kernel) ⟨Nat.le_of_ble_eq_true rfl, Nat.le_of_ble_eq_true rfl⟩ 0 5 he5 rfl rfl rfl rfl rfl (Nat.le_of_ble_eq_true rfl) dL_law_346 ⟨Nat.le_refl _, Nat.le_refl _⟩ (fun H locs hP hD hS => ?_)
  refine lv_icmp_eq (tgt := 815) hx hb dL_law_349 (by decide) (fun _ => ?_) (fun q9 => absurd rfl q9)
  exact k cs1 ms1 H locs h1' hP hD hS
theorem la_cut (C0 : lw_At p s m meth c b L xs) (hM : jM D y z (lA s) s) (hL : L ≤ 2048) (hi : i + 3 < L) (h : LREL y ha hb' cs ms) (hl : lv_has ls 4 [(3, .int (jI (i : Int))), (2, .ref hb'), (1, .ref ha), (0, .ref b)]) (hP : va_P D vwCl (cs ++ ms).flatten H) (hD : va_D (lA s) (cs ++ ms).flatten) (hS : va_S (lA s) s.heap H locs) (k : ∀ cs1 ms1 H1 locs1, LREL y ha hb' cs1 ms1 → va_P D vwCl (cs1 ++ ms1).flatten H1 → va_D (lA s) (cs1 ++ ms1).flatten → va_S (lA s) s.heap H1 locs1 → W p l e room_1 s m #[Value.ref b] below meth c H1 locs1 600000 7302250 Q (F0 m 815 ls [])) : W p l e room_1 s m #[Value.ref b] below meth c H locs 600000 7302250 Q (F0 m 354 ls []) := by
  obtain ⟨hx, hb, hr, hml, hown, hts, hX, hbl, hlocks, hgv⟩ := id C0
  have hts9 : ∀ w ∈ wsL_law, w.before #[Value.ref b] s = true := fun w h9 => hts w (wsL_law_in w h9)
  obtain ⟨f4, f5, he4, he5⟩ := LREL_a h
  obtain ⟨x1, h1, e1⟩ : ∃ x : Int, rg x ∧ xs (i + 1) = jI x := ⟨_, rg_of _, (jI_of _).symm⟩
  obtain ⟨x2, h2, e2⟩ : ∃ x : Int, rg x ∧ xs (i + 2) = jI x := ⟨_, rg_of _, (jI_of _).symm⟩
  obtain ⟨r, cs1, ms1, c4, c5, h1'⟩ := st_cut l D y z h1 h2 h
  refine lv_aload_n hx hb dL_law_354 rfl (lv_at hl 2 rfl) ?_
  refine la_arg (k := 1) (x := x1) C0 hS hl hL (by omega) rfl e1 dL_law_355 dL_law_356 dL_law_357 dL_law_358 dL_law_359 ?_
  refine la_arg (k := 2) (x := x2) C0 hS hl hL (by omega) rfl e2 dL_law_360 dL_law_361 dL_law_362 dL_law_363 dL_law_364 ?_
  refine jx_cvi (wr := ms) (cw := cs) (cw1 := cs1) (cs1 := cs1 ++ ms) (As := [.int (jI x1), .int (jI x2)]) (rest := []) ⟨hx, hb, hml.trans hl.1.symm, hown, hts9⟩ hM hP hD hS (fun _ h9 => h9) List.perm_append_comm List.perm_append_comm c4 2 gL_law_X4_cut rfl ⟨rfl, rfl⟩ (by decide +kernel) ⟨Nat.le_of_ble_eq_true rfl, Nat.le_of_ble_eq_true rfl⟩ 0 4 he4 rfl rfl rfl rfl rfl (Nat.le_of_ble_eq_true rfl) dL_law_365 ⟨Nat.le_refl _, Nat.le_refl _⟩ (fun H locs hP hD hS => ?_)
  refine lv_aload_n hx hb dL_law_368 rfl (lv_at hl 1 rfl) ?_
  refine la_arg (k := 1) (x := x1) C0 hS hl hL (by omega) rfl e1 dL_law_369 dL_law_370 dL_law_371 dL_law_372 dL_law_373 ?_
  refine la_arg (k := 2) (x := x2) C0 hS hl hL (by omega) rfl e2 dL_law_374 dL_law_375 dL_law_376 dL_law_377 dL_law_378 ?_
  refine jx_cvi (wr := cs1) (cw := ms) (cw1 := ms1) (cs1 := cs1 ++ ms1) (As := [.int (jI x1), .int (jI x2)]) (rest := [.int (jI r)]) ⟨hx, hb, hml.trans hl.1.symm, hown, hts9⟩ hM hP hD hS (fun _ h9 => h9) (List.Perm.refl _) (List.Perm.refl _) c5 2 gL_law_X5_cut rfl ⟨rfl, rfl⟩ (by decide +kernel) ⟨Nat.le_of_ble_eq_true rfl, Nat.le_of_ble_eq_true rfl⟩ 0 5 he5 rfl rfl rfl rfl rfl (Nat.le_of_ble_eq_true rfl) dL_law_379 ⟨Nat.le_refl _, Nat.le_refl _⟩ (fun H locs hP hD hS => ?_)
  refine lv_icmp_eq (tgt := 815) hx hb dL_law_382 (by decide) (fun _ => ?_) (fun q9 => absurd rfl q9)
  exact k cs1 ms1 H locs h1' hP hD hS
theorem la_copy (C0 : lw_At p s m meth c b L xs) (hM : jM D y z (lA s) s) (hL : L ≤ 2048) (hi : i + 3 < L) (h : LREL y ha hb' cs ms) (hl : lv_has ls 4 [(3, .int (jI (i : Int))), (2, .ref hb'), (1, .ref ha), (0, .ref b)]) (hP : va_P D vwCl (cs ++ ms).flatten H) (hD : va_D (lA s) (cs ++ ms).flatten) (hS : va_S (lA s) s.heap H locs) (k : ∀ cs1 ms1 H1 locs1, LREL y ha hb' cs1 ms1 → va_P D vwCl (cs1 ++ ms1).flatten H1 → va_D (lA s) (cs1 ++ ms1).flatten → va_S (lA s) s.heap H1 locs1 → W p l e room_1 s m #[Value.ref b] below meth c H1 locs1 600000 7302250 Q (F0 m 815 ls [])) : W p l e room_1 s m #[Value.ref b] below meth c H locs 600000 7302250 Q (F0 m 387 ls []) := by
  obtain ⟨hx, hb, hr, hml, hown, hts, hX, hbl, hlocks, hgv⟩ := id C0
  have hts9 : ∀ w ∈ wsL_law, w.before #[Value.ref b] s = true := fun w h9 => hts w (wsL_law_in w h9)
  obtain ⟨f4, f5, he4, he5⟩ := LREL_a h
  obtain ⟨x1, h1, e1⟩ : ∃ x : Int, rg x ∧ xs (i + 1) = jI x := ⟨_, rg_of _, (jI_of _).symm⟩
  obtain ⟨x2, h2, e2⟩ : ∃ x : Int, rg x ∧ xs (i + 2) = jI x := ⟨_, rg_of _, (jI_of _).symm⟩
  obtain ⟨x3, h3, e3⟩ : ∃ x : Int, rg x ∧ xs (i + 3) = jI x := ⟨_, rg_of _, (jI_of _).symm⟩
  obtain ⟨r, cs1, ms1, c4, c5, h1'⟩ := st_copy l D y z h1 h2 h3 h
  refine lv_aload_n hx hb dL_law_387 rfl (lv_at hl 2 rfl) ?_
  refine la_arg (k := 1) (x := x1) C0 hS hl hL (by omega) rfl e1 dL_law_388 dL_law_389 dL_law_390 dL_law_391 dL_law_392 ?_
  refine la_arg (k := 2) (x := x2) C0 hS hl hL (by omega) rfl e2 dL_law_393 dL_law_394 dL_law_395 dL_law_396 dL_law_397 ?_
  refine la_arg (k := 3) (x := x3) C0 hS hl hL (by omega) rfl e3 dL_law_398 dL_law_399 dL_law_400 dL_law_401 dL_law_402 ?_
  refine jx_cvi (wr := ms) (cw := cs) (cw1 := cs1) (cs1 := cs1 ++ ms) (As := [.int (jI x1), .int (jI x2), .int (jI x3)]) (rest := []) ⟨hx, hb, hml.trans hl.1.symm, hown, hts9⟩ hM hP hD hS (fun _ h9 => h9) List.perm_append_comm List.perm_append_comm c4 3 gL_law_X4_copy rfl ⟨rfl, rfl⟩ (by decide +kernel) ⟨Nat.le_of_ble_eq_true rfl, Nat.le_of_ble_eq_true rfl⟩ 0 4 he4 rfl rfl rfl rfl rfl (Nat.le_of_ble_eq_true rfl) dL_law_403 ⟨Nat.le_refl _, Nat.le_refl _⟩ (fun H locs hP hD hS => ?_)
  refine lv_aload_n hx hb dL_law_406 rfl (lv_at hl 1 rfl) ?_
  refine la_arg (k := 1) (x := x1) C0 hS hl hL (by omega) rfl e1 dL_law_407 dL_law_408 dL_law_409 dL_law_410 dL_law_411 ?_
  refine la_arg (k := 2) (x := x2) C0 hS hl hL (by omega) rfl e2 dL_law_412 dL_law_413 dL_law_414 dL_law_415 dL_law_416 ?_
  refine la_arg (k := 3) (x := x3) C0 hS hl hL (by omega) rfl e3 dL_law_417 dL_law_418 dL_law_419 dL_law_420 dL_law_421 ?_
  refine jx_cvi (wr := cs1) (cw := ms) (cw1 := ms1) (cs1 := cs1 ++ ms1) (As := [.int (jI x1), .int (jI x2), .int (jI x3)]) (rest := [.int (jI r)]) ⟨hx, hb, hml.trans hl.1.symm, hown, hts9⟩ hM hP hD hS (fun _ h9 => h9) (List.Perm.refl _) (List.Perm.refl _) c5 3 gL_law_X5_copy rfl ⟨rfl, rfl⟩ (by decide +kernel) ⟨Nat.le_of_ble_eq_true rfl, Nat.le_of_ble_eq_true rfl⟩ 0 5 he5 rfl rfl rfl rfl rfl (Nat.le_of_ble_eq_true rfl) dL_law_422 ⟨Nat.le_refl _, Nat.le_refl _⟩ (fun H locs hP hD hS => ?_)
  refine lv_icmp_eq (tgt := 815) hx hb dL_law_425 (by decide) (fun _ => ?_) (fun q9 => absurd rfl q9)
  exact k cs1 ms1 H locs h1' hP hD hS
theorem la_read (C0 : lw_At p s m meth c b L xs) (hM : jM D y z (lA s) s) (hL : L ≤ 2048) (hi : i + 3 < L) (h : LREL y ha hb' cs ms) (hl : lv_has ls 4 [(3, .int (jI (i : Int))), (2, .ref hb'), (1, .ref ha), (0, .ref b)]) (hP : va_P D vwCl (cs ++ ms).flatten H) (hD : va_D (lA s) (cs ++ ms).flatten) (hS : va_S (lA s) s.heap H locs) (k : ∀ cs1 ms1 H1 locs1, LREL y ha hb' cs1 ms1 → va_P D vwCl (cs1 ++ ms1).flatten H1 → va_D (lA s) (cs1 ++ ms1).flatten → va_S (lA s) s.heap H1 locs1 → W p l e room_1 s m #[Value.ref b] below meth c H1 locs1 600000 7302250 Q (F0 m 815 ls [])) : W p l e room_1 s m #[Value.ref b] below meth c H locs 600000 7302250 Q (F0 m 430 ls []) := by
  obtain ⟨hx, hb, hr, hml, hown, hts, hX, hbl, hlocks, hgv⟩ := id C0
  have hts9 : ∀ w ∈ wsL_law, w.before #[Value.ref b] s = true := fun w h9 => hts w (wsL_law_in w h9)
  obtain ⟨f4, f5, he4, he5⟩ := LREL_a h
  obtain ⟨r, cs1, ms1, c4, c5, h1'⟩ := st_read l D y z h
  refine lv_aload_n hx hb dL_law_430 rfl (lv_at hl 2 rfl) ?_
  refine jx_cvi (wr := ms) (cw := cs) (cw1 := cs1) (cs1 := cs1 ++ ms) (As := []) (rest := []) ⟨hx, hb, hml.trans hl.1.symm, hown, hts9⟩ hM hP hD hS (fun _ h9 => h9) List.perm_append_comm List.perm_append_comm c4 0 gL_law_X4_read rfl ⟨rfl, rfl⟩ (by decide +kernel) ⟨Nat.le_of_ble_eq_true rfl, Nat.le_of_ble_eq_true rfl⟩ 0 4 he4 rfl rfl rfl rfl rfl (Nat.le_of_ble_eq_true rfl) dL_law_431 ⟨Nat.le_refl _, Nat.le_refl _⟩ (fun H locs hP hD hS => ?_)
  refine lv_aload_n hx hb dL_law_434 rfl (lv_at hl 1 rfl) ?_
  refine jx_cvi (wr := cs1) (cw := ms) (cw1 := ms1) (cs1 := cs1 ++ ms1) (As := []) (rest := [.int (jI r)]) ⟨hx, hb, hml.trans hl.1.symm, hown, hts9⟩ hM hP hD hS (fun _ h9 => h9) (List.Perm.refl _) (List.Perm.refl _) c5 0 gL_law_X5_read rfl ⟨rfl, rfl⟩ (by decide +kernel) ⟨Nat.le_of_ble_eq_true rfl, Nat.le_of_ble_eq_true rfl⟩ 0 5 he5 rfl rfl rfl rfl rfl (Nat.le_of_ble_eq_true rfl) dL_law_435 ⟨Nat.le_refl _, Nat.le_refl _⟩ (fun H locs hP hD hS => ?_)
  refine lv_icmp_eq (tgt := 815) hx hb dL_law_438 (by decide) (fun _ => ?_) (fun q9 => absurd rfl q9)
  exact k cs1 ms1 H locs h1' hP hD hS
theorem la_of (C0 : lw_At p s m meth c b L xs) (hM : jM D y z (lA s) s) (hL : L ≤ 2048) (hi : i + 3 < L) (h : LREL y ha hb' cs ms) (hl : lv_has ls 4 [(3, .int (jI (i : Int))), (2, .ref hb'), (1, .ref ha), (0, .ref b)]) (hP : va_P D vwCl (cs ++ ms).flatten H) (hD : va_D (lA s) (cs ++ ms).flatten) (hS : va_S (lA s) s.heap H locs) (k : ∀ cs1 ms1 H1 locs1, LREL y ha hb' cs1 ms1 → va_P D vwCl (cs1 ++ ms1).flatten H1 → va_D (lA s) (cs1 ++ ms1).flatten → va_S (lA s) s.heap H1 locs1 → W p l e room_1 s m #[Value.ref b] below meth c H1 locs1 600000 7302250 Q (F0 m 815 ls [])) : W p l e room_1 s m #[Value.ref b] below meth c H locs 600000 7302250 Q (F0 m 443 ls []) := by
  obtain ⟨hx, hb, hr, hml, hown, hts, hX, hbl, hlocks, hgv⟩ := id C0
  have hts9 : ∀ w ∈ wsL_law, w.before #[Value.ref b] s = true := fun w h9 => hts w (wsL_law_in w h9)
  obtain ⟨f4, f5, he4, he5⟩ := LREL_a h
  obtain ⟨x1, h1, e1⟩ : ∃ x : Int, rg x ∧ xs (i + 1) = jI x := ⟨_, rg_of _, (jI_of _).symm⟩
  obtain ⟨x2, h2, e2⟩ : ∃ x : Int, rg x ∧ xs (i + 2) = jI x := ⟨_, rg_of _, (jI_of _).symm⟩
  obtain ⟨r, cs1, ms1, c4, c5, h1'⟩ := st_of l D y z h1 h2 h
  refine lv_aload_n hx hb dL_law_443 rfl (lv_at hl 2 rfl) ?_
  refine la_arg (k := 1) (x := x1) C0 hS hl hL (by omega) rfl e1 dL_law_444 dL_law_445 dL_law_446 dL_law_447 dL_law_448 ?_
  refine la_arg (k := 2) (x := x2) C0 hS hl hL (by omega) rfl e2 dL_law_449 dL_law_450 dL_law_451 dL_law_452 dL_law_453 ?_
  refine jx_cvi (wr := ms) (cw := cs) (cw1 := cs1) (cs1 := cs1 ++ ms) (As := [.int (jI x1), .int (jI x2)]) (rest := []) ⟨hx, hb, hml.trans hl.1.symm, hown, hts9⟩ hM hP hD hS (fun _ h9 => h9) List.perm_append_comm List.perm_append_comm c4 2 gL_law_X4_of rfl ⟨rfl, rfl⟩ (by decide +kernel) ⟨Nat.le_of_ble_eq_true rfl, Nat.le_of_ble_eq_true rfl⟩ 0 4 he4 rfl rfl rfl rfl rfl (Nat.le_of_ble_eq_true rfl) dL_law_454 ⟨Nat.le_refl _, Nat.le_refl _⟩ (fun H locs hP hD hS => ?_)
  refine lv_aload_n hx hb dL_law_457 rfl (lv_at hl 1 rfl) ?_
  refine la_arg (k := 1) (x := x1) C0 hS hl hL (by omega) rfl e1 dL_law_458 dL_law_459 dL_law_460 dL_law_461 dL_law_462 ?_
  refine la_arg (k := 2) (x := x2) C0 hS hl hL (by omega) rfl e2 dL_law_463 dL_law_464 dL_law_465 dL_law_466 dL_law_467 ?_
  refine jx_cvi (wr := cs1) (cw := ms) (cw1 := ms1) (cs1 := cs1 ++ ms1) (As := [.int (jI x1), .int (jI x2)]) (rest := [.int (jI r)]) ⟨hx, hb, hml.trans hl.1.symm, hown, hts9⟩ hM hP hD hS (fun _ h9 => h9) (List.Perm.refl _) (List.Perm.refl _) c5 2 gL_law_X5_of rfl ⟨rfl, rfl⟩ (by decide +kernel) ⟨Nat.le_of_ble_eq_true rfl, Nat.le_of_ble_eq_true rfl⟩ 0 5 he5 rfl rfl rfl rfl rfl (Nat.le_of_ble_eq_true rfl) dL_law_468 ⟨Nat.le_refl _, Nat.le_refl _⟩ (fun H locs hP hD hS => ?_)
  refine lv_icmp_eq (tgt := 815) hx hb dL_law_471 (by decide) (fun _ => ?_) (fun q9 => absurd rfl q9)
  exact k cs1 ms1 H locs h1' hP hD hS
theorem la_at (C0 : lw_At p s m meth c b L xs) (hM : jM D y z (lA s) s) (hL : L ≤ 2048) (hi : i + 3 < L) (h : LREL y ha hb' cs ms) (hl : lv_has ls 4 [(3, .int (jI (i : Int))), (2, .ref hb'), (1, .ref ha), (0, .ref b)]) (hP : va_P D vwCl (cs ++ ms).flatten H) (hD : va_D (lA s) (cs ++ ms).flatten) (hS : va_S (lA s) s.heap H locs) (k : ∀ cs1 ms1 H1 locs1, LREL y ha hb' cs1 ms1 → va_P D vwCl (cs1 ++ ms1).flatten H1 → va_D (lA s) (cs1 ++ ms1).flatten → va_S (lA s) s.heap H1 locs1 → W p l e room_1 s m #[Value.ref b] below meth c H1 locs1 600000 7302250 Q (F0 m 815 ls [])) : W p l e room_1 s m #[Value.ref b] below meth c H locs 600000 7302250 Q (F0 m 476 ls []) := by
  obtain ⟨hx, hb, hr, hml, hown, hts, hX, hbl, hlocks, hgv⟩ := id C0
  have hts9 : ∀ w ∈ wsL_law, w.before #[Value.ref b] s = true := fun w h9 => hts w (wsL_law_in w h9)
  obtain ⟨f4, f5, he4, he5⟩ := LREL_a h
  obtain ⟨x1, h1, e1⟩ : ∃ x : Int, rg x ∧ xs (i + 1) = jI x := ⟨_, rg_of _, (jI_of _).symm⟩
  obtain ⟨x2, h2, e2⟩ : ∃ x : Int, rg x ∧ xs (i + 2) = jI x := ⟨_, rg_of _, (jI_of _).symm⟩
  obtain ⟨r, cs1, ms1, c4, c5, h1'⟩ := st_at l D y z h1 h2 h
  refine lv_aload_n hx hb dL_law_476 rfl (lv_at hl 2 rfl) ?_
  refine la_arg (k := 1) (x := x1) C0 hS hl hL (by omega) rfl e1 dL_law_477 dL_law_478 dL_law_479 dL_law_480 dL_law_481 ?_
  refine la_arg (k := 2) (x := x2) C0 hS hl hL (by omega) rfl e2 dL_law_482 dL_law_483 dL_law_484 dL_law_485 dL_law_486 ?_
  refine jx_cvi (wr := ms) (cw := cs) (cw1 := cs1) (cs1 := cs1 ++ ms) (As := [.int (jI x1), .int (jI x2)]) (rest := []) ⟨hx, hb, hml.trans hl.1.symm, hown, hts9⟩ hM hP hD hS (fun _ h9 => h9) List.perm_append_comm List.perm_append_comm c4 2 gL_law_X4_at rfl ⟨rfl, rfl⟩ (by decide +kernel) ⟨Nat.le_of_ble_eq_true rfl, Nat.le_of_ble_eq_true rfl⟩ 0 4 he4 rfl rfl rfl rfl rfl (Nat.le_of_ble_eq_true rfl) dL_law_487 ⟨Nat.le_refl _, Nat.le_refl _⟩ (fun H locs hP hD hS => ?_)
  refine lv_aload_n hx hb dL_law_490 rfl (lv_at hl 1 rfl) ?_
  refine la_arg (k := 1) (x := x1) C0 hS hl hL (by omega) rfl e1 dL_law_491 dL_law_492 dL_law_493 dL_law_494 dL_law_495 ?_
  refine la_arg (k := 2) (x := x2) C0 hS hl hL (by omega) rfl e2 dL_law_496 dL_law_497 dL_law_498 dL_law_499 dL_law_500 ?_
  refine jx_cvi (wr := cs1) (cw := ms) (cw1 := ms1) (cs1 := cs1 ++ ms1) (As := [.int (jI x1), .int (jI x2)]) (rest := [.int (jI r)]) ⟨hx, hb, hml.trans hl.1.symm, hown, hts9⟩ hM hP hD hS (fun _ h9 => h9) (List.Perm.refl _) (List.Perm.refl _) c5 2 gL_law_X5_at rfl ⟨rfl, rfl⟩ (by decide +kernel) ⟨Nat.le_of_ble_eq_true rfl, Nat.le_of_ble_eq_true rfl⟩ 0 5 he5 rfl rfl rfl rfl rfl (Nat.le_of_ble_eq_true rfl) dL_law_501 ⟨Nat.le_refl _, Nat.le_refl _⟩ (fun H locs hP hD hS => ?_)
  refine lv_icmp_eq (tgt := 815) hx hb dL_law_504 (by decide) (fun _ => ?_) (fun q9 => absurd rfl q9)
  exact k cs1 ms1 H locs h1' hP hD hS
theorem la_sound (C0 : lw_At p s m meth c b L xs) (hM : jM D y z (lA s) s) (hL : L ≤ 2048) (hi : i + 3 < L) (h : LREL y ha hb' cs ms) (hl : lv_has ls 4 [(3, .int (jI (i : Int))), (2, .ref hb'), (1, .ref ha), (0, .ref b)]) (hP : va_P D vwCl (cs ++ ms).flatten H) (hD : va_D (lA s) (cs ++ ms).flatten) (hS : va_S (lA s) s.heap H locs) (k : ∀ cs1 ms1 H1 locs1, LREL y ha hb' cs1 ms1 → va_P D vwCl (cs1 ++ ms1).flatten H1 → va_D (lA s) (cs1 ++ ms1).flatten → va_S (lA s) s.heap H1 locs1 → W p l e room_1 s m #[Value.ref b] below meth c H1 locs1 600000 7302250 Q (F0 m 815 ls [])) : W p l e room_1 s m #[Value.ref b] below meth c H locs 600000 7302250 Q (F0 m 509 ls []) := by
  obtain ⟨hx, hb, hr, hml, hown, hts, hX, hbl, hlocks, hgv⟩ := id C0
  have hts9 : ∀ w ∈ wsL_law, w.before #[Value.ref b] s = true := fun w h9 => hts w (wsL_law_in w h9)
  obtain ⟨f4, f5, he4, he5⟩ := LREL_a h
  obtain ⟨x1, h1, e1⟩ : ∃ x : Int, rg x ∧ xs (i + 1) = jI x := ⟨_, rg_of _, (jI_of _).symm⟩
  obtain ⟨x2, h2, e2⟩ : ∃ x : Int, rg x ∧ xs (i + 2) = jI x := ⟨_, rg_of _, (jI_of _).symm⟩
  obtain ⟨x3, h3, e3⟩ : ∃ x : Int, rg x ∧ xs (i + 3) = jI x := ⟨_, rg_of _, (jI_of _).symm⟩
  obtain ⟨r, cs1, ms1, c4, c5, h1'⟩ := st_sound l D y z h1 h2 h3 h
  refine lv_aload_n hx hb dL_law_509 rfl (lv_at hl 2 rfl) ?_
  refine la_arg (k := 1) (x := x1) C0 hS hl hL (by omega) rfl e1 dL_law_510 dL_law_511 dL_law_512 dL_law_513 dL_law_514 ?_
  refine la_arg (k := 2) (x := x2) C0 hS hl hL (by omega) rfl e2 dL_law_515 dL_law_516 dL_law_517 dL_law_518 dL_law_519 ?_
  refine la_arg (k := 3) (x := x3) C0 hS hl hL (by omega) rfl e3 dL_law_520 dL_law_521 dL_law_522 dL_law_523 dL_law_524 ?_
  refine jx_cvi (wr := ms) (cw := cs) (cw1 := cs1) (cs1 := cs1 ++ ms) (As := [.int (jI x1), .int (jI x2), .int (jI x3)]) (rest := []) ⟨hx, hb, hml.trans hl.1.symm, hown, hts9⟩ hM hP hD hS (fun _ h9 => h9) List.perm_append_comm List.perm_append_comm c4 3 gL_law_X4_sound rfl ⟨rfl, rfl⟩ (by decide +kernel) ⟨Nat.le_of_ble_eq_true rfl, Nat.le_of_ble_eq_true rfl⟩ 0 4 he4 rfl rfl rfl rfl rfl (Nat.le_of_ble_eq_true rfl) dL_law_525 ⟨Nat.le_refl _, Nat.le_refl _⟩ (fun H locs hP hD hS => ?_)
  refine lv_aload_n hx hb dL_law_528 rfl (lv_at hl 1 rfl) ?_
  refine la_arg (k := 1) (x := x1) C0 hS hl hL (by omega) rfl e1 dL_law_529 dL_law_530 dL_law_531 dL_law_532 dL_law_533 ?_
  refine la_arg (k := 2) (x := x2) C0 hS hl hL (by omega) rfl e2 dL_law_534 dL_law_535 dL_law_536 dL_law_537 dL_law_538 ?_
  refine la_arg (k := 3) (x := x3) C0 hS hl hL (by omega) rfl e3 dL_law_539 dL_law_540 dL_law_541 dL_law_542 dL_law_543 ?_
  refine jx_cvi (wr := cs1) (cw := ms) (cw1 := ms1) (cs1 := cs1 ++ ms1) (As := [.int (jI x1), .int (jI x2), .int (jI x3)]) (rest := [.int (jI r)]) ⟨hx, hb, hml.trans hl.1.symm, hown, hts9⟩ hM hP hD hS (fun _ h9 => h9) (List.Perm.refl _) (List.Perm.refl _) c5 3 gL_law_X5_sound rfl ⟨rfl, rfl⟩ (by decide +kernel) ⟨Nat.le_of_ble_eq_true rfl, Nat.le_of_ble_eq_true rfl⟩ 0 5 he5 rfl rfl rfl rfl rfl (Nat.le_of_ble_eq_true rfl) dL_law_544 ⟨Nat.le_refl _, Nat.le_refl _⟩ (fun H locs hP hD hS => ?_)
  refine lv_icmp_eq (tgt := 815) hx hb dL_law_547 (by decide) (fun _ => ?_) (fun q9 => absurd rfl q9)
  exact k cs1 ms1 H locs h1' hP hD hS
theorem la_count (C0 : lw_At p s m meth c b L xs) (hM : jM D y z (lA s) s) (hL : L ≤ 2048) (hi : i + 3 < L) (h : LREL y ha hb' cs ms) (hl : lv_has ls 4 [(3, .int (jI (i : Int))), (2, .ref hb'), (1, .ref ha), (0, .ref b)]) (hP : va_P D vwCl (cs ++ ms).flatten H) (hD : va_D (lA s) (cs ++ ms).flatten) (hS : va_S (lA s) s.heap H locs) (k : ∀ cs1 ms1 H1 locs1, LREL y ha hb' cs1 ms1 → va_P D vwCl (cs1 ++ ms1).flatten H1 → va_D (lA s) (cs1 ++ ms1).flatten → va_S (lA s) s.heap H1 locs1 → W p l e room_1 s m #[Value.ref b] below meth c H1 locs1 600000 7302250 Q (F0 m 815 ls [])) : W p l e room_1 s m #[Value.ref b] below meth c H locs 600000 7302250 Q (F0 m 552 ls []) := by
  obtain ⟨hx, hb, hr, hml, hown, hts, hX, hbl, hlocks, hgv⟩ := id C0
  have hts9 : ∀ w ∈ wsL_law, w.before #[Value.ref b] s = true := fun w h9 => hts w (wsL_law_in w h9)
  obtain ⟨f4, f5, he4, he5⟩ := LREL_a h
  obtain ⟨x1, h1, e1⟩ : ∃ x : Int, rg x ∧ xs (i + 1) = jI x := ⟨_, rg_of _, (jI_of _).symm⟩
  obtain ⟨r, cs1, ms1, c4, c5, h1'⟩ := st_count l D y z h1 h
  refine lv_aload_n hx hb dL_law_552 rfl (lv_at hl 2 rfl) ?_
  refine la_arg (k := 1) (x := x1) C0 hS hl hL (by omega) rfl e1 dL_law_553 dL_law_554 dL_law_555 dL_law_556 dL_law_557 ?_
  refine jx_cvi (wr := ms) (cw := cs) (cw1 := cs1) (cs1 := cs1 ++ ms) (As := [.int (jI x1)]) (rest := []) ⟨hx, hb, hml.trans hl.1.symm, hown, hts9⟩ hM hP hD hS (fun _ h9 => h9) List.perm_append_comm List.perm_append_comm c4 1 gL_law_X4_count rfl ⟨rfl, rfl⟩ (by decide +kernel) ⟨Nat.le_of_ble_eq_true rfl, Nat.le_of_ble_eq_true rfl⟩ 0 4 he4 rfl rfl rfl rfl rfl (Nat.le_of_ble_eq_true rfl) dL_law_558 ⟨Nat.le_refl _, Nat.le_refl _⟩ (fun H locs hP hD hS => ?_)
  refine lv_aload_n hx hb dL_law_561 rfl (lv_at hl 1 rfl) ?_
  refine la_arg (k := 1) (x := x1) C0 hS hl hL (by omega) rfl e1 dL_law_562 dL_law_563 dL_law_564 dL_law_565 dL_law_566 ?_
  refine jx_cvi (wr := cs1) (cw := ms) (cw1 := ms1) (cs1 := cs1 ++ ms1) (As := [.int (jI x1)]) (rest := [.int (jI r)]) ⟨hx, hb, hml.trans hl.1.symm, hown, hts9⟩ hM hP hD hS (fun _ h9 => h9) (List.Perm.refl _) (List.Perm.refl _) c5 1 gL_law_X5_count rfl ⟨rfl, rfl⟩ (by decide +kernel) ⟨Nat.le_of_ble_eq_true rfl, Nat.le_of_ble_eq_true rfl⟩ 0 5 he5 rfl rfl rfl rfl rfl (Nat.le_of_ble_eq_true rfl) dL_law_567 ⟨Nat.le_refl _, Nat.le_refl _⟩ (fun H locs hP hD hS => ?_)
  refine lv_icmp_eq (tgt := 815) hx hb dL_law_570 (by decide) (fun _ => ?_) (fun q9 => absurd rfl q9)
  exact k cs1 ms1 H locs h1' hP hD hS
theorem la_bestShift (C0 : lw_At p s m meth c b L xs) (hM : jM D y z (lA s) s) (hL : L ≤ 2048) (hi : i + 3 < L) (h : LREL y ha hb' cs ms) (hl : lv_has ls 4 [(3, .int (jI (i : Int))), (2, .ref hb'), (1, .ref ha), (0, .ref b)]) (hP : va_P D vwCl (cs ++ ms).flatten H) (hD : va_D (lA s) (cs ++ ms).flatten) (hS : va_S (lA s) s.heap H locs) (k : ∀ cs1 ms1 H1 locs1, LREL y ha hb' cs1 ms1 → va_P D vwCl (cs1 ++ ms1).flatten H1 → va_D (lA s) (cs1 ++ ms1).flatten → va_S (lA s) s.heap H1 locs1 → W p l e room_1 s m #[Value.ref b] below meth c H1 locs1 600000 7302250 Q (F0 m 815 ls [])) : W p l e room_1 s m #[Value.ref b] below meth c H locs 600000 7302250 Q (F0 m 575 ls []) := by
  obtain ⟨hx, hb, hr, hml, hown, hts, hX, hbl, hlocks, hgv⟩ := id C0
  have hts9 : ∀ w ∈ wsL_law, w.before #[Value.ref b] s = true := fun w h9 => hts w (wsL_law_in w h9)
  obtain ⟨f4, f5, he4, he5⟩ := LREL_a h
  obtain ⟨x1, h1, e1⟩ : ∃ x : Int, rg x ∧ xs (i + 1) = jI x := ⟨_, rg_of _, (jI_of _).symm⟩
  obtain ⟨x2, h2, e2⟩ : ∃ x : Int, rg x ∧ xs (i + 2) = jI x := ⟨_, rg_of _, (jI_of _).symm⟩
  obtain ⟨r, cs1, ms1, c4, c5, h1'⟩ := st_bestShift l D y z h1 h2 h
  refine lv_aload_n hx hb dL_law_575 rfl (lv_at hl 2 rfl) ?_
  refine la_arg (k := 1) (x := x1) C0 hS hl hL (by omega) rfl e1 dL_law_576 dL_law_577 dL_law_578 dL_law_579 dL_law_580 ?_
  refine la_arg (k := 2) (x := x2) C0 hS hl hL (by omega) rfl e2 dL_law_581 dL_law_582 dL_law_583 dL_law_584 dL_law_585 ?_
  refine jx_cvi (wr := ms) (cw := cs) (cw1 := cs1) (cs1 := cs1 ++ ms) (As := [.int (jI x1), .int (jI x2)]) (rest := []) ⟨hx, hb, hml.trans hl.1.symm, hown, hts9⟩ hM hP hD hS (fun _ h9 => h9) List.perm_append_comm List.perm_append_comm c4 2 gL_law_X4_bestShift rfl ⟨rfl, rfl⟩ (by decide +kernel) ⟨Nat.le_of_ble_eq_true rfl, Nat.le_of_ble_eq_true rfl⟩ 0 4 he4 rfl rfl rfl rfl rfl (Nat.le_of_ble_eq_true rfl) dL_law_586 ⟨Nat.le_refl _, Nat.le_refl _⟩ (fun H locs hP hD hS => ?_)
  refine lv_aload_n hx hb dL_law_589 rfl (lv_at hl 1 rfl) ?_
  refine la_arg (k := 1) (x := x1) C0 hS hl hL (by omega) rfl e1 dL_law_590 dL_law_591 dL_law_592 dL_law_593 dL_law_594 ?_
  refine la_arg (k := 2) (x := x2) C0 hS hl hL (by omega) rfl e2 dL_law_595 dL_law_596 dL_law_597 dL_law_598 dL_law_599 ?_
  refine jx_cvi (wr := cs1) (cw := ms) (cw1 := ms1) (cs1 := cs1 ++ ms1) (As := [.int (jI x1), .int (jI x2)]) (rest := [.int (jI r)]) ⟨hx, hb, hml.trans hl.1.symm, hown, hts9⟩ hM hP hD hS (fun _ h9 => h9) (List.Perm.refl _) (List.Perm.refl _) c5 2 gL_law_X5_bestShift rfl ⟨rfl, rfl⟩ (by decide +kernel) ⟨Nat.le_of_ble_eq_true rfl, Nat.le_of_ble_eq_true rfl⟩ 0 5 he5 rfl rfl rfl rfl rfl (Nat.le_of_ble_eq_true rfl) dL_law_600 ⟨Nat.le_refl _, Nat.le_refl _⟩ (fun H locs hP hD hS => ?_)
  refine lv_icmp_eq (tgt := 815) hx hb dL_law_603 (by decide) (fun _ => ?_) (fun q9 => absurd rfl q9)
  exact k cs1 ms1 H locs h1' hP hD hS
theorem la_greatestRun (C0 : lw_At p s m meth c b L xs) (hM : jM D y z (lA s) s) (hL : L ≤ 2048) (hi : i + 3 < L) (h : LREL y ha hb' cs ms) (hl : lv_has ls 4 [(3, .int (jI (i : Int))), (2, .ref hb'), (1, .ref ha), (0, .ref b)]) (hP : va_P D vwCl (cs ++ ms).flatten H) (hD : va_D (lA s) (cs ++ ms).flatten) (hS : va_S (lA s) s.heap H locs) (k : ∀ cs1 ms1 H1 locs1, LREL y ha hb' cs1 ms1 → va_P D vwCl (cs1 ++ ms1).flatten H1 → va_D (lA s) (cs1 ++ ms1).flatten → va_S (lA s) s.heap H1 locs1 → W p l e room_1 s m #[Value.ref b] below meth c H1 locs1 600000 7302250 Q (F0 m 815 ls [])) : W p l e room_1 s m #[Value.ref b] below meth c H locs 600000 7302250 Q (F0 m 608 ls []) := by
  obtain ⟨hx, hb, hr, hml, hown, hts, hX, hbl, hlocks, hgv⟩ := id C0
  have hts9 : ∀ w ∈ wsL_law, w.before #[Value.ref b] s = true := fun w h9 => hts w (wsL_law_in w h9)
  obtain ⟨f4, f5, he4, he5⟩ := LREL_a h
  obtain ⟨r, cs1, ms1, c4, c5, h1'⟩ := st_greatestRun l D y z h
  refine lv_aload_n hx hb dL_law_608 rfl (lv_at hl 2 rfl) ?_
  refine jx_cvi (wr := ms) (cw := cs) (cw1 := cs1) (cs1 := cs1 ++ ms) (As := []) (rest := []) ⟨hx, hb, hml.trans hl.1.symm, hown, hts9⟩ hM hP hD hS (fun _ h9 => h9) List.perm_append_comm List.perm_append_comm c4 0 gL_law_X4_greatestRun rfl ⟨rfl, rfl⟩ (by decide +kernel) ⟨Nat.le_of_ble_eq_true rfl, Nat.le_of_ble_eq_true rfl⟩ 0 4 he4 rfl rfl rfl rfl rfl (Nat.le_of_ble_eq_true rfl) dL_law_609 ⟨Nat.le_refl _, Nat.le_refl _⟩ (fun H locs hP hD hS => ?_)
  refine lv_aload_n hx hb dL_law_612 rfl (lv_at hl 1 rfl) ?_
  refine jx_cvi (wr := cs1) (cw := ms) (cw1 := ms1) (cs1 := cs1 ++ ms1) (As := []) (rest := [.int (jI r)]) ⟨hx, hb, hml.trans hl.1.symm, hown, hts9⟩ hM hP hD hS (fun _ h9 => h9) (List.Perm.refl _) (List.Perm.refl _) c5 0 gL_law_X5_greatestRun rfl ⟨rfl, rfl⟩ (by decide +kernel) ⟨Nat.le_of_ble_eq_true rfl, Nat.le_of_ble_eq_true rfl⟩ 0 5 he5 rfl rfl rfl rfl rfl (Nat.le_of_ble_eq_true rfl) dL_law_613 ⟨Nat.le_refl _, Nat.le_refl _⟩ (fun H locs hP hD hS => ?_)
  refine lv_icmp_eq (tgt := 815) hx hb dL_law_616 (by decide) (fun _ => ?_) (fun q9 => absurd rfl q9)
  exact k cs1 ms1 H locs h1' hP hD hS
theorem la_swallowed (C0 : lw_At p s m meth c b L xs) (hM : jM D y z (lA s) s) (hL : L ≤ 2048) (hi : i + 3 < L) (h : LREL y ha hb' cs ms) (hl : lv_has ls 4 [(3, .int (jI (i : Int))), (2, .ref hb'), (1, .ref ha), (0, .ref b)]) (hP : va_P D vwCl (cs ++ ms).flatten H) (hD : va_D (lA s) (cs ++ ms).flatten) (hS : va_S (lA s) s.heap H locs) (k : ∀ cs1 ms1 H1 locs1, LREL y ha hb' cs1 ms1 → va_P D vwCl (cs1 ++ ms1).flatten H1 → va_D (lA s) (cs1 ++ ms1).flatten → va_S (lA s) s.heap H1 locs1 → W p l e room_1 s m #[Value.ref b] below meth c H1 locs1 600000 7302250 Q (F0 m 815 ls [])) : W p l e room_1 s m #[Value.ref b] below meth c H locs 600000 7302250 Q (F0 m 621 ls []) := by
  obtain ⟨hx, hb, hr, hml, hown, hts, hX, hbl, hlocks, hgv⟩ := id C0
  have hts9 : ∀ w ∈ wsL_law, w.before #[Value.ref b] s = true := fun w h9 => hts w (wsL_law_in w h9)
  obtain ⟨f4, f5, he4, he5⟩ := LREL_a h
  obtain ⟨x1, h1, e1⟩ : ∃ x : Int, rg x ∧ xs (i + 1) = jI x := ⟨_, rg_of _, (jI_of _).symm⟩
  obtain ⟨r, cs1, ms1, c4, c5, h1'⟩ := st_swallowed l D y z h1 h
  refine lv_aload_n hx hb dL_law_621 rfl (lv_at hl 2 rfl) ?_
  refine la_arg (k := 1) (x := x1) C0 hS hl hL (by omega) rfl e1 dL_law_622 dL_law_623 dL_law_624 dL_law_625 dL_law_626 ?_
  refine jx_cvi (wr := ms) (cw := cs) (cw1 := cs1) (cs1 := cs1 ++ ms) (As := [.int (jI x1)]) (rest := []) ⟨hx, hb, hml.trans hl.1.symm, hown, hts9⟩ hM hP hD hS (fun _ h9 => h9) List.perm_append_comm List.perm_append_comm c4 1 gL_law_X4_swallowed rfl ⟨rfl, rfl⟩ (by decide +kernel) ⟨Nat.le_of_ble_eq_true rfl, Nat.le_of_ble_eq_true rfl⟩ 0 4 he4 rfl rfl rfl rfl rfl (Nat.le_of_ble_eq_true rfl) dL_law_627 ⟨Nat.le_refl _, Nat.le_refl _⟩ (fun H locs hP hD hS => ?_)
  refine lv_aload_n hx hb dL_law_630 rfl (lv_at hl 1 rfl) ?_
  refine la_arg (k := 1) (x := x1) C0 hS hl hL (by omega) rfl e1 dL_law_631 dL_law_632 dL_law_633 dL_law_634 dL_law_635 ?_
  refine jx_cvi (wr := cs1) (cw := ms) (cw1 := ms1) (cs1 := cs1 ++ ms1) (As := [.int (jI x1)]) (rest := [.int (jI r)]) ⟨hx, hb, hml.trans hl.1.symm, hown, hts9⟩ hM hP hD hS (fun _ h9 => h9) (List.Perm.refl _) (List.Perm.refl _) c5 1 gL_law_X5_swallowed rfl ⟨rfl, rfl⟩ (by decide +kernel) ⟨Nat.le_of_ble_eq_true rfl, Nat.le_of_ble_eq_true rfl⟩ 0 5 he5 rfl rfl rfl rfl rfl (Nat.le_of_ble_eq_true rfl) dL_law_636 ⟨Nat.le_refl _, Nat.le_refl _⟩ (fun H locs hP hD hS => ?_)
  refine lv_icmp_eq (tgt := 815) hx hb dL_law_639 (by decide) (fun _ => ?_) (fun q9 => absurd rfl q9)
  exact k cs1 ms1 H locs h1' hP hD hS
theorem la_freeGoal (C0 : lw_At p s m meth c b L xs) (hM : jM D y z (lA s) s) (hL : L ≤ 2048) (hi : i + 3 < L) (h : LREL y ha hb' cs ms) (hl : lv_has ls 4 [(3, .int (jI (i : Int))), (2, .ref hb'), (1, .ref ha), (0, .ref b)]) (hP : va_P D vwCl (cs ++ ms).flatten H) (hD : va_D (lA s) (cs ++ ms).flatten) (hS : va_S (lA s) s.heap H locs) (k : ∀ cs1 ms1 H1 locs1, LREL y ha hb' cs1 ms1 → va_P D vwCl (cs1 ++ ms1).flatten H1 → va_D (lA s) (cs1 ++ ms1).flatten → va_S (lA s) s.heap H1 locs1 → W p l e room_1 s m #[Value.ref b] below meth c H1 locs1 600000 7302250 Q (F0 m 815 ls [])) : W p l e room_1 s m #[Value.ref b] below meth c H locs 600000 7302250 Q (F0 m 644 ls []) := by
  obtain ⟨hx, hb, hr, hml, hown, hts, hX, hbl, hlocks, hgv⟩ := id C0
  have hts9 : ∀ w ∈ wsL_law, w.before #[Value.ref b] s = true := fun w h9 => hts w (wsL_law_in w h9)
  obtain ⟨f4, f5, he4, he5⟩ := LREL_a h
  obtain ⟨x1, h1, e1⟩ : ∃ x : Int, rg x ∧ xs (i + 1) = jI x := ⟨_, rg_of _, (jI_of _).symm⟩
  obtain ⟨x2, h2, e2⟩ : ∃ x : Int, rg x ∧ xs (i + 2) = jI x := ⟨_, rg_of _, (jI_of _).symm⟩
  obtain ⟨r, cs1, ms1, c4, c5, h1'⟩ := st_freeGoal l D y z h1 h2 h
  refine lv_aload_n hx hb dL_law_644 rfl (lv_at hl 2 rfl) ?_
  refine la_arg (k := 1) (x := x1) C0 hS hl hL (by omega) rfl e1 dL_law_645 dL_law_646 dL_law_647 dL_law_648 dL_law_649 ?_
  refine la_arg (k := 2) (x := x2) C0 hS hl hL (by omega) rfl e2 dL_law_650 dL_law_651 dL_law_652 dL_law_653 dL_law_654 ?_
  refine jx_cvi (wr := ms) (cw := cs) (cw1 := cs1) (cs1 := cs1 ++ ms) (As := [.int (jI x1), .int (jI x2)]) (rest := []) ⟨hx, hb, hml.trans hl.1.symm, hown, hts9⟩ hM hP hD hS (fun _ h9 => h9) List.perm_append_comm List.perm_append_comm c4 2 gL_law_X4_freeGoal rfl ⟨rfl, rfl⟩ (by decide +kernel) ⟨Nat.le_of_ble_eq_true rfl, Nat.le_of_ble_eq_true rfl⟩ 0 4 he4 rfl rfl rfl rfl rfl (Nat.le_of_ble_eq_true rfl) dL_law_655 ⟨Nat.le_refl _, Nat.le_refl _⟩ (fun H locs hP hD hS => ?_)
  refine lv_aload_n hx hb dL_law_658 rfl (lv_at hl 1 rfl) ?_
  refine la_arg (k := 1) (x := x1) C0 hS hl hL (by omega) rfl e1 dL_law_659 dL_law_660 dL_law_661 dL_law_662 dL_law_663 ?_
  refine la_arg (k := 2) (x := x2) C0 hS hl hL (by omega) rfl e2 dL_law_664 dL_law_665 dL_law_666 dL_law_667 dL_law_668 ?_
  refine jx_cvi (wr := cs1) (cw := ms) (cw1 := ms1) (cs1 := cs1 ++ ms1) (As := [.int (jI x1), .int (jI x2)]) (rest := [.int (jI r)]) ⟨hx, hb, hml.trans hl.1.symm, hown, hts9⟩ hM hP hD hS (fun _ h9 => h9) (List.Perm.refl _) (List.Perm.refl _) c5 2 gL_law_X5_freeGoal rfl ⟨rfl, rfl⟩ (by decide +kernel) ⟨Nat.le_of_ble_eq_true rfl, Nat.le_of_ble_eq_true rfl⟩ 0 5 he5 rfl rfl rfl rfl rfl (Nat.le_of_ble_eq_true rfl) dL_law_669 ⟨Nat.le_refl _, Nat.le_refl _⟩ (fun H locs hP hD hS => ?_)
  refine lv_icmp_eq (tgt := 815) hx hb dL_law_672 (by decide) (fun _ => ?_) (fun q9 => absurd rfl q9)
  exact k cs1 ms1 H locs h1' hP hD hS
theorem la_put (C0 : lw_At p s m meth c b L xs) (hM : jM D y z (lA s) s) (hL : L ≤ 2048) (hi : i + 3 < L) (h : LREL y ha hb' cs ms) (hl : lv_has ls 4 [(3, .int (jI (i : Int))), (2, .ref hb'), (1, .ref ha), (0, .ref b)]) (hP : va_P D vwCl (cs ++ ms).flatten H) (hD : va_D (lA s) (cs ++ ms).flatten) (hS : va_S (lA s) s.heap H locs) (k : ∀ cs1 ms1 H1 locs1, LREL y ha hb' cs1 ms1 → va_P D vwCl (cs1 ++ ms1).flatten H1 → va_D (lA s) (cs1 ++ ms1).flatten → va_S (lA s) s.heap H1 locs1 → W p l e room_1 s m #[Value.ref b] below meth c H1 locs1 600000 7302250 Q (F0 m 815 ls [])) : W p l e room_1 s m #[Value.ref b] below meth c H locs 600000 7302250 Q (F0 m 677 ls []) := by
  obtain ⟨hx, hb, hr, hml, hown, hts, hX, hbl, hlocks, hgv⟩ := id C0
  have hts9 : ∀ w ∈ wsL_law, w.before #[Value.ref b] s = true := fun w h9 => hts w (wsL_law_in w h9)
  obtain ⟨f4, f5, he4, he5⟩ := LREL_a h
  obtain ⟨x1, h1, e1⟩ : ∃ x : Int, rg x ∧ xs (i + 1) = jI x := ⟨_, rg_of _, (jI_of _).symm⟩
  obtain ⟨x2, h2, e2⟩ : ∃ x : Int, rg x ∧ xs (i + 2) = jI x := ⟨_, rg_of _, (jI_of _).symm⟩
  have hconst : (Cond.constantLong RL 86 4294967295).before #[Value.ref b] s = true := hts9 _ (wsL_law_m1 _ (by decide +kernel))
  obtain ⟨r, cs1, ms1, c4, c5, h1'⟩ := st_put l D y z (((jI x1).toInt64 <<< ((32 : Int32).toInt64 &&& 63)) ||| ((jI x2).toInt64 &&& 4294967295)) h
  refine lv_aload_n hx hb dL_law_677 rfl (lv_at hl 2 rfl) ?_
  refine la_arg (k := 1) (x := x1) C0 hS hl hL (by omega) rfl e1 dL_law_678 dL_law_679 dL_law_680 dL_law_681 dL_law_682 ?_
  refine lv_i2l hx hb dL_law_683 rfl ?_
  refine lv_bipush (v := 32) hx hb dL_law_684 (by decide) ?_
  refine lv_lshl hx hb dL_law_686 rfl ?_
  refine la_arg (k := 2) (x := x2) C0 hS hl hL (by omega) rfl e2 dL_law_687 dL_law_688 dL_law_689 dL_law_690 dL_law_691 ?_
  refine lv_i2l hx hb dL_law_692 rfl ?_
  refine lv_ldc2 (v := 4294967295) hx hb hown hconst dL_law_693 ?_
  refine lv_land hx hb dL_law_696 ?_
  refine lv_lor hx hb dL_law_697 ?_
  refine jx_cvi (wr := ms) (cw := cs) (cw1 := cs1) (cs1 := cs1 ++ ms) (As := [.long (((jI x1).toInt64 <<< ((32 : Int32).toInt64 &&& 63)) ||| ((jI x2).toInt64 &&& 4294967295))]) (rest := []) ⟨hx, hb, hml.trans hl.1.symm, hown, hts9⟩ hM hP hD hS (fun _ h9 => h9) List.perm_append_comm List.perm_append_comm c4 1 gL_law_X4_put rfl ⟨rfl, rfl⟩ (by decide +kernel) ⟨Nat.le_of_ble_eq_true rfl, Nat.le_of_ble_eq_true rfl⟩ 0 4 he4 rfl rfl rfl rfl rfl (Nat.le_of_ble_eq_true rfl) dL_law_698 ⟨Nat.le_refl _, Nat.le_refl _⟩ (fun H locs hP hD hS => ?_)
  refine lv_aload_n hx hb dL_law_701 rfl (lv_at hl 1 rfl) ?_
  refine la_arg (k := 1) (x := x1) C0 hS hl hL (by omega) rfl e1 dL_law_702 dL_law_703 dL_law_704 dL_law_705 dL_law_706 ?_
  refine lv_i2l hx hb dL_law_707 rfl ?_
  refine lv_bipush (v := 32) hx hb dL_law_708 (by decide) ?_
  refine lv_lshl hx hb dL_law_710 rfl ?_
  refine la_arg (k := 2) (x := x2) C0 hS hl hL (by omega) rfl e2 dL_law_711 dL_law_712 dL_law_713 dL_law_714 dL_law_715 ?_
  refine lv_i2l hx hb dL_law_716 rfl ?_
  refine lv_ldc2 (v := 4294967295) hx hb hown hconst dL_law_717 ?_
  refine lv_land hx hb dL_law_720 ?_
  refine lv_lor hx hb dL_law_721 ?_
  refine jx_cvi (wr := cs1) (cw := ms) (cw1 := ms1) (cs1 := cs1 ++ ms1) (As := [.long (((jI x1).toInt64 <<< ((32 : Int32).toInt64 &&& 63)) ||| ((jI x2).toInt64 &&& 4294967295))]) (rest := [.int (jI r)]) ⟨hx, hb, hml.trans hl.1.symm, hown, hts9⟩ hM hP hD hS (fun _ h9 => h9) (List.Perm.refl _) (List.Perm.refl _) c5 1 gL_law_X5_put rfl ⟨rfl, rfl⟩ (by decide +kernel) ⟨Nat.le_of_ble_eq_true rfl, Nat.le_of_ble_eq_true rfl⟩ 0 5 he5 rfl rfl rfl rfl rfl (Nat.le_of_ble_eq_true rfl) dL_law_722 ⟨Nat.le_refl _, Nat.le_refl _⟩ (fun H locs hP hD hS => ?_)
  refine lv_icmp_eq (tgt := 815) hx hb dL_law_725 (by decide) (fun _ => ?_) (fun q9 => absurd rfl q9)
  exact k cs1 ms1 H locs h1' hP hD hS
theorem la_wipe (C0 : lw_At p s m meth c b L xs) (hM : jM D y z (lA s) s) (hL : L ≤ 2048) (hi : i + 3 < L) (h : LREL y ha hb' cs ms) (hl : lv_has ls 4 [(3, .int (jI (i : Int))), (2, .ref hb'), (1, .ref ha), (0, .ref b)]) (hP : va_P D vwCl (cs ++ ms).flatten H) (hD : va_D (lA s) (cs ++ ms).flatten) (hS : va_S (lA s) s.heap H locs) (k : ∀ cs1 ms1 H1 locs1, LREL y ha hb' cs1 ms1 → va_P D vwCl (cs1 ++ ms1).flatten H1 → va_D (lA s) (cs1 ++ ms1).flatten → va_S (lA s) s.heap H1 locs1 → W p l e room_1 s m #[Value.ref b] below meth c H1 locs1 600000 7302250 Q (F0 m 815 ls [])) : W p l e room_1 s m #[Value.ref b] below meth c H locs 600000 7302250 Q (F0 m 730 ls []) := by
  obtain ⟨hx, hb, hr, hml, hown, hts, hX, hbl, hlocks, hgv⟩ := id C0
  have hts9 : ∀ w ∈ wsL_law, w.before #[Value.ref b] s = true := fun w h9 => hts w (wsL_law_in w h9)
  obtain ⟨f4, f5, he4, he5⟩ := LREL_a h
  obtain ⟨r, cs1, ms1, c4, c5, h1'⟩ := st_wipe l D y z h
  refine lv_aload_n hx hb dL_law_730 rfl (lv_at hl 2 rfl) ?_
  refine jx_cvi (wr := ms) (cw := cs) (cw1 := cs1) (cs1 := cs1 ++ ms) (As := []) (rest := []) ⟨hx, hb, hml.trans hl.1.symm, hown, hts9⟩ hM hP hD hS (fun _ h9 => h9) List.perm_append_comm List.perm_append_comm c4 0 gL_law_X4_wipe rfl ⟨rfl, rfl⟩ (by decide +kernel) ⟨Nat.le_of_ble_eq_true rfl, Nat.le_of_ble_eq_true rfl⟩ 0 4 he4 rfl rfl rfl rfl rfl (Nat.le_of_ble_eq_true rfl) dL_law_731 ⟨Nat.le_refl _, Nat.le_refl _⟩ (fun H locs hP hD hS => ?_)
  refine lv_aload_n hx hb dL_law_734 rfl (lv_at hl 1 rfl) ?_
  refine jx_cvi (wr := cs1) (cw := ms) (cw1 := ms1) (cs1 := cs1 ++ ms1) (As := []) (rest := [.int (jI r)]) ⟨hx, hb, hml.trans hl.1.symm, hown, hts9⟩ hM hP hD hS (fun _ h9 => h9) (List.Perm.refl _) (List.Perm.refl _) c5 0 gL_law_X5_wipe rfl ⟨rfl, rfl⟩ (by decide +kernel) ⟨Nat.le_of_ble_eq_true rfl, Nat.le_of_ble_eq_true rfl⟩ 0 5 he5 rfl rfl rfl rfl rfl (Nat.le_of_ble_eq_true rfl) dL_law_735 ⟨Nat.le_refl _, Nat.le_refl _⟩ (fun H locs hP hD hS => ?_)
  refine lv_icmp_eq (tgt := 815) hx hb dL_law_738 (by decide) (fun _ => ?_) (fun q9 => absurd rfl q9)
  exact k cs1 ms1 H locs h1' hP hD hS
theorem la_fault (C0 : lw_At p s m meth c b L xs) (hM : jM D y z (lA s) s) (hL : L ≤ 2048) (hi : i + 3 < L) (h : LREL y ha hb' cs ms) (hl : lv_has ls 4 [(3, .int (jI (i : Int))), (2, .ref hb'), (1, .ref ha), (0, .ref b)]) (hP : va_P D vwCl (cs ++ ms).flatten H) (hD : va_D (lA s) (cs ++ ms).flatten) (hS : va_S (lA s) s.heap H locs) (k : ∀ cs1 ms1 H1 locs1, LREL y ha hb' cs1 ms1 → va_P D vwCl (cs1 ++ ms1).flatten H1 → va_D (lA s) (cs1 ++ ms1).flatten → va_S (lA s) s.heap H1 locs1 → W p l e room_1 s m #[Value.ref b] below meth c H1 locs1 600000 7302250 Q (F0 m 815 ls [])) : W p l e room_1 s m #[Value.ref b] below meth c H locs 600000 7302250 Q (F0 m 743 ls []) := by
  obtain ⟨hx, hb, hr, hml, hown, hts, hX, hbl, hlocks, hgv⟩ := id C0
  have hts9 : ∀ w ∈ wsL_law, w.before #[Value.ref b] s = true := fun w h9 => hts w (wsL_law_in w h9)
  obtain ⟨f4, f5, he4, he5⟩ := LREL_a h
  obtain ⟨r, cs1, ms1, c4, c5, h1'⟩ := st_fault l D y z h
  refine lv_aload_n hx hb dL_law_743 rfl (lv_at hl 2 rfl) ?_
  refine jx_cvi (wr := ms) (cw := cs) (cw1 := cs1) (cs1 := cs1 ++ ms) (As := []) (rest := []) ⟨hx, hb, hml.trans hl.1.symm, hown, hts9⟩ hM hP hD hS (fun _ h9 => h9) List.perm_append_comm List.perm_append_comm c4 0 gL_law_X4_fault rfl ⟨rfl, rfl⟩ (by decide +kernel) ⟨Nat.le_of_ble_eq_true rfl, Nat.le_of_ble_eq_true rfl⟩ 0 4 he4 rfl rfl rfl rfl rfl (Nat.le_of_ble_eq_true rfl) dL_law_744 ⟨Nat.le_refl _, Nat.le_refl _⟩ (fun H locs hP hD hS => ?_)
  refine lv_aload_n hx hb dL_law_747 rfl (lv_at hl 1 rfl) ?_
  refine jx_cvi (wr := cs1) (cw := ms) (cw1 := ms1) (cs1 := cs1 ++ ms1) (As := []) (rest := [.int (jI r)]) ⟨hx, hb, hml.trans hl.1.symm, hown, hts9⟩ hM hP hD hS (fun _ h9 => h9) (List.Perm.refl _) (List.Perm.refl _) c5 0 gL_law_X5_fault rfl ⟨rfl, rfl⟩ (by decide +kernel) ⟨Nat.le_of_ble_eq_true rfl, Nat.le_of_ble_eq_true rfl⟩ 0 5 he5 rfl rfl rfl rfl rfl (Nat.le_of_ble_eq_true rfl) dL_law_748 ⟨Nat.le_refl _, Nat.le_refl _⟩ (fun H locs hP hD hS => ?_)
  refine lv_icmp_eq (tgt := 815) hx hb dL_law_751 (by decide) (fun _ => ?_) (fun q9 => absurd rfl q9)
  exact k cs1 ms1 H locs h1' hP hD hS
theorem la_undo (C0 : lw_At p s m meth c b L xs) (hM : jM D y z (lA s) s) (hL : L ≤ 2048) (hi : i + 3 < L) (h : LREL y ha hb' cs ms) (hl : lv_has ls 4 [(3, .int (jI (i : Int))), (2, .ref hb'), (1, .ref ha), (0, .ref b)]) (hP : va_P D vwCl (cs ++ ms).flatten H) (hD : va_D (lA s) (cs ++ ms).flatten) (hS : va_S (lA s) s.heap H locs) (k : ∀ cs1 ms1 H1 locs1, LREL y ha hb' cs1 ms1 → va_P D vwCl (cs1 ++ ms1).flatten H1 → va_D (lA s) (cs1 ++ ms1).flatten → va_S (lA s) s.heap H1 locs1 → W p l e room_1 s m #[Value.ref b] below meth c H1 locs1 600000 7302250 Q (F0 m 815 ls [])) : W p l e room_1 s m #[Value.ref b] below meth c H locs 600000 7302250 Q (F0 m 756 ls []) := by
  obtain ⟨hx, hb, hr, hml, hown, hts, hX, hbl, hlocks, hgv⟩ := id C0
  have hts9 : ∀ w ∈ wsL_law, w.before #[Value.ref b] s = true := fun w h9 => hts w (wsL_law_in w h9)
  obtain ⟨f4, f5, he4, he5⟩ := LREL_a h
  obtain ⟨r, cs1, ms1, c4, c5, h1'⟩ := st_undo l D y z h
  refine lv_aload_n hx hb dL_law_756 rfl (lv_at hl 2 rfl) ?_
  refine jx_cvi (wr := ms) (cw := cs) (cw1 := cs1) (cs1 := cs1 ++ ms) (As := []) (rest := []) ⟨hx, hb, hml.trans hl.1.symm, hown, hts9⟩ hM hP hD hS (fun _ h9 => h9) List.perm_append_comm List.perm_append_comm c4 0 gL_law_X4_undo rfl ⟨rfl, rfl⟩ (by decide +kernel) ⟨Nat.le_of_ble_eq_true rfl, Nat.le_of_ble_eq_true rfl⟩ 0 4 he4 rfl rfl rfl rfl rfl (Nat.le_of_ble_eq_true rfl) dL_law_757 ⟨Nat.le_refl _, Nat.le_refl _⟩ (fun H locs hP hD hS => ?_)
  refine lv_aload_n hx hb dL_law_760 rfl (lv_at hl 1 rfl) ?_
  refine jx_cvi (wr := cs1) (cw := ms) (cw1 := ms1) (cs1 := cs1 ++ ms1) (As := []) (rest := [.int (jI r)]) ⟨hx, hb, hml.trans hl.1.symm, hown, hts9⟩ hM hP hD hS (fun _ h9 => h9) (List.Perm.refl _) (List.Perm.refl _) c5 0 gL_law_X5_undo rfl ⟨rfl, rfl⟩ (by decide +kernel) ⟨Nat.le_of_ble_eq_true rfl, Nat.le_of_ble_eq_true rfl⟩ 0 5 he5 rfl rfl rfl rfl rfl (Nat.le_of_ble_eq_true rfl) dL_law_761 ⟨Nat.le_refl _, Nat.le_refl _⟩ (fun H locs hP hD hS => ?_)
  refine lv_icmp_eq (tgt := 815) hx hb dL_law_764 (by decide) (fun _ => ?_) (fun q9 => absurd rfl q9)
  exact k cs1 ms1 H locs h1' hP hD hS
theorem la_save (C0 : lw_At p s m meth c b L xs) (hM : jM D y z (lA s) s) (hL : L ≤ 2048) (hi : i + 3 < L) (h : LREL y ha hb' cs ms) (hl : lv_has ls 4 [(3, .int (jI (i : Int))), (2, .ref hb'), (1, .ref ha), (0, .ref b)]) (hP : va_P D vwCl (cs ++ ms).flatten H) (hD : va_D (lA s) (cs ++ ms).flatten) (hS : va_S (lA s) s.heap H locs) (k : ∀ cs1 ms1 H1 locs1, LREL y ha hb' cs1 ms1 → va_P D vwCl (cs1 ++ ms1).flatten H1 → va_D (lA s) (cs1 ++ ms1).flatten → va_S (lA s) s.heap H1 locs1 → W p l e room_1 s m #[Value.ref b] below meth c H1 locs1 600000 7302250 Q (F0 m 815 ls [])) : W p l e room_1 s m #[Value.ref b] below meth c H locs 600000 7302250 Q (F0 m 769 ls []) := by
  obtain ⟨hx, hb, hr, hml, hown, hts, hX, hbl, hlocks, hgv⟩ := id C0
  have hts9 : ∀ w ∈ wsL_law, w.before #[Value.ref b] s = true := fun w h9 => hts w (wsL_law_in w h9)
  obtain ⟨f4, f5, he4, he5⟩ := LREL_a h
  obtain ⟨x1, h1, e1⟩ : ∃ x : Int, rg x ∧ xs (i + 1) = jI x := ⟨_, rg_of _, (jI_of _).symm⟩
  obtain ⟨r, cs1, ms1, c4, c5, h1'⟩ := st_save l D y z h1 h
  refine lv_aload_n hx hb dL_law_769 rfl (lv_at hl 2 rfl) ?_
  refine la_arg (k := 1) (x := x1) C0 hS hl hL (by omega) rfl e1 dL_law_770 dL_law_771 dL_law_772 dL_law_773 dL_law_774 ?_
  refine jx_cvi (wr := ms) (cw := cs) (cw1 := cs1) (cs1 := cs1 ++ ms) (As := [.int (jI x1)]) (rest := []) ⟨hx, hb, hml.trans hl.1.symm, hown, hts9⟩ hM hP hD hS (fun _ h9 => h9) List.perm_append_comm List.perm_append_comm c4 1 gL_law_X4_save rfl ⟨rfl, rfl⟩ (by decide +kernel) ⟨Nat.le_of_ble_eq_true rfl, Nat.le_of_ble_eq_true rfl⟩ 0 4 he4 rfl rfl rfl rfl rfl (Nat.le_of_ble_eq_true rfl) dL_law_775 ⟨Nat.le_refl _, Nat.le_refl _⟩ (fun H locs hP hD hS => ?_)
  refine lv_aload_n hx hb dL_law_778 rfl (lv_at hl 1 rfl) ?_
  refine la_arg (k := 1) (x := x1) C0 hS hl hL (by omega) rfl e1 dL_law_779 dL_law_780 dL_law_781 dL_law_782 dL_law_783 ?_
  refine jx_cvi (wr := cs1) (cw := ms) (cw1 := ms1) (cs1 := cs1 ++ ms1) (As := [.int (jI x1)]) (rest := [.int (jI r)]) ⟨hx, hb, hml.trans hl.1.symm, hown, hts9⟩ hM hP hD hS (fun _ h9 => h9) (List.Perm.refl _) (List.Perm.refl _) c5 1 gL_law_X5_save rfl ⟨rfl, rfl⟩ (by decide +kernel) ⟨Nat.le_of_ble_eq_true rfl, Nat.le_of_ble_eq_true rfl⟩ 0 5 he5 rfl rfl rfl rfl rfl (Nat.le_of_ble_eq_true rfl) dL_law_784 ⟨Nat.le_refl _, Nat.le_refl _⟩ (fun H locs hP hD hS => ?_)
  refine lv_icmp_eq (tgt := 815) hx hb dL_law_787 (by decide) (fun _ => ?_) (fun q9 => absurd rfl q9)
  exact k cs1 ms1 H locs h1' hP hD hS
theorem la_restore (C0 : lw_At p s m meth c b L xs) (hM : jM D y z (lA s) s) (hL : L ≤ 2048) (hi : i + 3 < L) (h : LREL y ha hb' cs ms) (hl : lv_has ls 4 [(3, .int (jI (i : Int))), (2, .ref hb'), (1, .ref ha), (0, .ref b)]) (hP : va_P D vwCl (cs ++ ms).flatten H) (hD : va_D (lA s) (cs ++ ms).flatten) (hS : va_S (lA s) s.heap H locs) (k : ∀ cs1 ms1 H1 locs1, LREL y ha hb' cs1 ms1 → va_P D vwCl (cs1 ++ ms1).flatten H1 → va_D (lA s) (cs1 ++ ms1).flatten → va_S (lA s) s.heap H1 locs1 → W p l e room_1 s m #[Value.ref b] below meth c H1 locs1 600000 7302250 Q (F0 m 815 ls [])) : W p l e room_1 s m #[Value.ref b] below meth c H locs 600000 7302250 Q (F0 m 792 ls []) := by
  obtain ⟨hx, hb, hr, hml, hown, hts, hX, hbl, hlocks, hgv⟩ := id C0
  have hts9 : ∀ w ∈ wsL_law, w.before #[Value.ref b] s = true := fun w h9 => hts w (wsL_law_in w h9)
  obtain ⟨f4, f5, he4, he5⟩ := LREL_a h
  obtain ⟨x1, h1, e1⟩ : ∃ x : Int, rg x ∧ xs (i + 1) = jI x := ⟨_, rg_of _, (jI_of _).symm⟩
  obtain ⟨r, cs1, ms1, c4, c5, h1'⟩ := st_restore l D y z h1 h
  refine lv_aload_n hx hb dL_law_792 rfl (lv_at hl 2 rfl) ?_
  refine la_arg (k := 1) (x := x1) C0 hS hl hL (by omega) rfl e1 dL_law_793 dL_law_794 dL_law_795 dL_law_796 dL_law_797 ?_
  refine jx_cvi (wr := ms) (cw := cs) (cw1 := cs1) (cs1 := cs1 ++ ms) (As := [.int (jI x1)]) (rest := []) ⟨hx, hb, hml.trans hl.1.symm, hown, hts9⟩ hM hP hD hS (fun _ h9 => h9) List.perm_append_comm List.perm_append_comm c4 1 gL_law_X4_restore rfl ⟨rfl, rfl⟩ (by decide +kernel) ⟨Nat.le_of_ble_eq_true rfl, Nat.le_of_ble_eq_true rfl⟩ 0 4 he4 rfl rfl rfl rfl rfl (Nat.le_of_ble_eq_true rfl) dL_law_798 ⟨Nat.le_refl _, Nat.le_refl _⟩ (fun H locs hP hD hS => ?_)
  refine lv_aload_n hx hb dL_law_801 rfl (lv_at hl 1 rfl) ?_
  refine la_arg (k := 1) (x := x1) C0 hS hl hL (by omega) rfl e1 dL_law_802 dL_law_803 dL_law_804 dL_law_805 dL_law_806 ?_
  refine jx_cvi (wr := cs1) (cw := ms) (cw1 := ms1) (cs1 := cs1 ++ ms1) (As := [.int (jI x1)]) (rest := [.int (jI r)]) ⟨hx, hb, hml.trans hl.1.symm, hown, hts9⟩ hM hP hD hS (fun _ h9 => h9) (List.Perm.refl _) (List.Perm.refl _) c5 1 gL_law_X5_restore rfl ⟨rfl, rfl⟩ (by decide +kernel) ⟨Nat.le_of_ble_eq_true rfl, Nat.le_of_ble_eq_true rfl⟩ 0 5 he5 rfl rfl rfl rfl rfl (Nat.le_of_ble_eq_true rfl) dL_law_807 ⟨Nat.le_refl _, Nat.le_refl _⟩ (fun H locs hP hD hS => ?_)
  refine lv_icmp_eq (tgt := 815) hx hb dL_law_810 (by decide) (fun _ => ?_) (fun q9 => absurd rfl q9)
  exact k cs1 ms1 H locs h1' hP hD hS
end L80
