/-! THE CLAIM OUT OF ONE WALK OF THE LAW'S BODY. Your part is whole_start (and what it stands on); all else here is the same for every law, but numbers. -/
def R_law : String := "SwornPoundsLaw"
def lw_P (b : Addr) (xs : List Int32) (args : Array Value) (s : State) : Prop := args = #[.ref b] ∧ s.IntsAt b xs ∧ xs.length ≤ 448 ∧ (Jvm.Cond.and given_1 narrow_1).before args s = true
def lw_Q (_ : Array Value) (s : State) (o : Outcome) (t : State) : Prop := o = .returned (some (.int 1)) ∧ Framed s o t [] 600000 7302250
def lw_Z (below : List Frame) (a : Array Value) (s : State) : State → Prop := fun t => ∃ o, t.status = .running ∧ Ended t below o ∧ lw_Q a s o t
/-- the law's own end, with 1 on the stack, nothing written that was there before, its room as the claim has it -/
theorem lw_ret {p : Program} {l : Launch} {e : Env} {s : State} {m : MethodId} {below : List Frame} {meth : Method} {c : Code} {b : Nat} (hx : p.tables.exec = Jvm.exec) (hb : c.code = code) (hr : meth.sig.returnType = ret) (hlocks : meth.locks = false) {pc : Nat} {H : Heap} {ls : Array Slot} (hdg : decode code pc = .ok (.ireturn, 1)) : W p l e room_1 s m #[Value.ref b] below meth c H [] 600000 7302250 (lw_Z below #[Value.ref b] s) (F0 m pc ls [.int 1]) := by
  intro T hT X
  obtain ⟨fs, hret, hrun, hended, hW, hframe⟩ := X.leave (v := some (.int 1)) (hlocks := hlocks) (fun h => by rw [hr] at h; cases h)
  have hmeth' : T.vm.method? m = some meth := X.method'
  refine ⟨T.setFrames fs, ?_, .returned (some (.int 1)), hrun, hended, rfl, ⟨_, rfl⟩, hW, hframe⟩
  jvm_step X.here [X.here.top, hx, hb, hdg, hmeth', hr, ret, narrow_b1]
  (try refine ⟨rfl, ?_⟩); (try refine ⟨rfl, ?_⟩)
  first | (intro acts; rw [hret _ acts rfl rfl rfl]) | rw [hret _ _ rfl rfl rfl]
  exact Steps.refl _
/-- what holds at the law's entry: the machine, the code, the tables' words (any of lw_tbl by 'hts w (by decide +kernel)'), the script of L ints xs at the cell b, what the Statement gives of the start (any of its parts by flat_of_before) -/
def lw_At (p : Program) (s : State) (m : MethodId) (meth : Method) (c : Code) (b L : Nat) (xs : Nat → Int32) : Prop :=
  p.tables.exec = Jvm.exec ∧ c.code = code ∧ meth.sig.returnType = ret ∧ c.maxLocals = 4 ∧ s.vm.findClass R_law = some m.cls ∧ (∀ w ∈ lw_tbl, w.before #[Value.ref b] s = true) ∧ va_X b L xs s s.heap ∧ b < s.heap.size ∧ meth.locks = false ∧ (Jvm.Cond.and given_1 narrow_1).before #[Value.ref b] s = true
/-! the law's judgement: the script beside the cells -/
def la_κ (b L : Nat) (xs : Nat → Int32) : KT := fun _ _ s _ args below meth _ A cells slots Q => meth.sig.returnType = ret ∧ meth.locks = false ∧ cells = 600000 ∧ slots = 7302250 ∧ A = (fun q : Nat => s.heap.size ≤ q) ∧ Q = lw_Z below args s ∧ args = #[Value.ref b] ∧ va_X b L xs s s.heap ∧ b < s.heap.size
abbrev la_lv (G : GT) (b i : Nat) : List (Option Value) := [some (.ref b), some (.ref (G.2.1 0)), some (.ref (G.2.1 58)), some (.int (nI i))]
abbrev LY (l : Launch) (G : GT) (b L : Nat) (xs : Nat → Int32) (i : Nat) (μ : MemT) (pc : Nat) (st : List Value) : Prop := Yj l G room_1 (la_κ b L xs) cL_law 4 RL μ pc (la_lv G b i) st
abbrev RelE (μ : MemT) : Prop := ∃ t k c, Rel t k c μ
theorem la_ld {l : Launch} {G : GT} {b L : Nat} {xs : Nat → Int32} {μ : MemT} {pc : Nat} {lv : List (Option Value)} {st : List Value} {x : Int32} (d : decode cL_law pc = .ok (.iaload, 1)) (j : Nat) (hj : x = nI j) (hlt : j < L) (hL : L ≤ 448) (h : Yj l G room_1 (la_κ b L xs) cL_law 4 RL μ (pc + 1) lv (.int (xs j) :: st)) : Yj l G room_1 (la_κ b L xs) cL_law 4 RL μ pc lv (.int x :: .ref b :: st) := by
  intro p e s m args below meth c A cells slots Q hk F H locs ls hP hS hl
  obtain ⟨hr, hlk, hc1, hc2, hA, hQ, ha, hX, hbl⟩ := id hk
  have hcl : x.toNatClampNeg = j := by rw [hj]; exact nI_clamp (by omega)
  have hin : vp_in x L := by rw [hj]; exact vp_in_nI hlt (by omega)
  have h2 := h p e s m args below meth c A cells slots Q hk F H locs ls hP hS hl
  rw [← hcl] at h2
  exact va_sld F.1 F.2.1 hX hbl (by rw [hA]; exact Nat.not_le.mpr hbl) hS hin d h2
theorem la_len {l : Launch} {G : GT} {b L : Nat} {xs : Nat → Int32} {μ : MemT} {pc : Nat} {lv : List (Option Value)} {st : List Value} (d : decode cL_law pc = .ok (.arraylength, 1)) (h : Yj l G room_1 (la_κ b L xs) cL_law 4 RL μ (pc + 1) lv (.int (nI L) :: st)) : Yj l G room_1 (la_κ b L xs) cL_law 4 RL μ pc lv (.ref b :: st) := by
  intro p e s m args below meth c A cells slots Q hk F H locs ls hP hS hl
  obtain ⟨hr, hlk, hc1, hc2, hA, hQ, ha, hX, hbl⟩ := id hk
  exact va_slen F.1 F.2.1 hX hbl (by rw [hA]; exact Nat.not_le.mpr hbl) hS d (h p e s m args below meth c A cells slots Q hk F H locs ls hP hS hl)
theorem la_ret {l : Launch} {G : GT} {b L : Nat} {xs : Nat → Int32} {μ : MemT} {pc : Nat} {lv : List (Option Value)} (d : decode cL_law pc = .ok (.ireturn, 1)) : Yj l G room_1 (la_κ b L xs) cL_law 4 RL μ pc lv [.int 1] := by
  intro p e s m args below meth c A cells slots Q hk F H locs ls hP hS hl
  obtain ⟨hr, hlk, rfl, rfl, rfl, rfl, rfl, hX, hbl⟩ := hk
  exact va_forget (fun q hq => hS.2.2 q hq) (lw_ret F.1 F.2.1 hr hlk d)
/-! what the class leaves as it was -/
theorem hx_person (x s w d : Int32) (μ : MemT) : (xPerson x s w d μ).2 58 = μ 58 := by
  unfold xPerson
  split
  · rfl
  · split <;> rfl
theorem hx_leave (x : Int32) (μ : MemT) : (xLeave x μ).2 58 = μ 58 ∧ (xLeave x μ).2 62 = μ 62 := by
  unfold xLeave
  split <;> exact ⟨rfl, rfl⟩
theorem hx_marry (x y : Int32) (B : Bool) (μ : MemT) : (xMarry x y B μ).2 62 = μ 62 := by
  unfold xMarry
  split
  · rfl
  · split
    · split <;> rfl
    · split <;> rfl
theorem hx_say (c : Nat) (x : Int32) (μ : MemT) : (xSay c x μ).2 58 = μ 58 := by
  unfold xSay
  split
  · split <;> rfl
  · rfl
theorem hx_hold (c : Nat) (μ : MemT) : (xHold c μ).2 58 = μ 58 := by
  unfold xHold
  split
  · exact hold_58 c μ 58 (by decide)
  · rfl
theorem hx_judge (c : Nat) (w : Int32) (μ : MemT) : (xJudge c w μ).2 58 = μ 58 := by
  unfold xJudge
  split
  · split <;> exact hx_hold c μ
  · rfl
theorem hx_behind (c : Nat) (x w : Int32) (μ : MemT) : (xBehind c x w μ).2 58 = μ 58 := by
  unfold xBehind
  split
  · rfl
  · split
    · rfl
    · split <;> exact hx_hold c μ
theorem hx_done (c : Nat) (μ : MemT) : (xDone c μ).2 58 = μ 58 := by
  unfold xDone
  split
  · show mset (twCopy 18 42 (xHold c μ).2) 3 (upd ((xHold c μ).2 3) 1 0) 58 = μ 58
    rw [mset_ne _ _ (by decide), cp_ne (by decide)]
    exact hx_hold c μ
  · exact hx_hold c μ
theorem hx_seen (k : Nat) (x y z : Int32) (μ : MemT) : (xSeen k x y z μ).2 58 = μ 58 := by
  unfold xSeen
  split
  · rfl
  · split
    · rfl
    · split <;> rfl
theorem hx_airs (k : Nat) (w : Int32) (μ : MemT) : (xAirs k w μ).2 58 = μ 58 := by
  unfold xAirs
  split
  · exact find_ne (r := 58) (by decide) k μ
  · rfl
theorem hx_air (k : Nat) (x : Int32) (μ : MemT) : (xAir k x μ).2 58 = μ 58 := by
  unfold xAir
  split
  · exact find_ne (r := 58) (by decide) k μ
  · rfl
theorem hx_cpM (n : Nat) (m : MemT) {r : Nat} (h1 : r ≠ 11) (h2 : r ≠ 15) : cpM n m r = m r := by
  have tS : ∀ (T : Int32) (p q : Nat) (m : MemT), cpS n p T q m r = m r := fun T p q m => by
    unfold cpS
    split
    · exact tryM_ne n p q m h1 h2
    · rfl
  have tO : ∀ (T : Int32) (a j p : Nat) (m : MemT), itr (cpS n p T) a j m r = m r := by
    intro T a
    induction a with
    | zero => intro j p m; rfl
    | succ a ih => intro j p m; rw [itr_S, ih _ _ _, tS T p j m]
  have tA : ∀ (T : Int32) (a j : Nat) (m : MemT), itr (cpO n T) a j m r = m r := by
    intro T a
    induction a with
    | zero => intro j m; rfl
    | succ a ih => intro j m; rw [itr_S, ih _ _, cpO, tO]
  rw [cpM]
  split
  · exact mset_ne _ _ h1
  · rw [tA, mset_ne _ _ h1]
theorem hx_cross (k : Nat) (w : Int32) (μ : MemT) : (xCross k w μ).2 58 = μ 58 := by
  unfold xCross
  split
  · exact (hx_cpM _ _ (by decide) (by decide)).trans (find_ne (r := 58) (by decide) k μ)
  · rfl
theorem rl_p8 {t k c : Nat} {μ : MemT} (h : Rel t k c μ) : μ 58 0 = nI t := (show mI μ 0 = nI t from tr_bps (rl_tw h))
theorem rl_k8 {t k c : Nat} {μ : MemT} (h : Rel t k c μ) : μ 58 11 = nI k := (show mI μ 4 = nI k from tr_bsg (rl_tw h))
theorem hx_okM {t k c : Nat} {μ : MemT} (h : Rel t k c μ) : okM (μ 62) := by
  intro p hp
  have := tr_sp (rl_tw h) p hp
  have e : μ 22 p = μ 62 p := this.1
  have g : spOk t (μ 22) p := this.2
  rcases g with g | ⟨q, hq, -, g, -⟩
  · exact Or.inl (by rw [← e, g]; decide)
  · exact Or.inr ⟨q, hq, by rw [← e, g]⟩
set_option maxRecDepth 100000 in
set_option maxHeartbeats 4000000 in
theorem lc_person {l : Launch} {G : GT} {b L : Nat} {xs : Nat → Int32} {i t k c : Nat} {μ : MemT} (hL : L ≤ 448) (hi : i + 7 ≤ L) (h : Rel t k c μ) (nx : ∀ μ2, RelE μ2 → LY l G b L xs i μ2 1085 []) : LY l G b L xs i μ 168 [] := by
  have R := rl_person h (xs (i + 1)) (xs (i + 2)) (xs (i + 3)) (xs (i + 4))
  refine y_aload_n dL_law_168 rfl rfl ?_
  refine y_aload_n dL_law_169 rfl rfl ?_
  refine y_iload_n dL_law_170 rfl rfl ?_
  refine y_iconst dL_law_171 ic_1 ?_
  refine y_iadd dL_law_172 ?_
  refine la_ld dL_law_173 (i + 1) (nI_addN i 1) (by omega) hL ?_
  refine y_aload_n dL_law_174 rfl rfl ?_
  refine y_iload_n dL_law_175 rfl rfl ?_
  refine y_iconst dL_law_176 ic_2 ?_
  refine y_iadd dL_law_177 ?_
  refine la_ld dL_law_178 (i + 2) (nI_addN i 2) (by omega) hL ?_
  refine y_aload_n dL_law_179 rfl rfl ?_
  refine y_iload_n dL_law_180 rfl rfl ?_
  refine y_iconst dL_law_181 ic_3 ?_
  refine y_iadd dL_law_182 ?_
  refine la_ld dL_law_183 (i + 3) (nI_addN i 3) (by omega) hL ?_
  refine y_aload_n dL_law_184 rfl rfl ?_
  refine y_iload_n dL_law_185 rfl rfl ?_
  refine y_iconst dL_law_186 ic_4 ?_
  refine y_iadd dL_law_187 ?_
  refine la_ld dL_law_188 (i + 4) (nI_addN i 4) (by omega) hL ?_
  refine y_cV4 dL_law_189 meX7_person clX7 kd_0 wm_ml_L_13 (kX7_person) ⟨Nat.le_of_ble_eq_true rfl, Nat.le_of_ble_eq_true rfl⟩ ⟨rfl, rfl⟩ (Nat.le_of_ble_eq_true rfl) (fun v189 μ189 hp189 => ?_)
  obtain ⟨rfl, he189⟩ := hp189
  replace he189 := he189.symm
  subst he189
  refine y_ri ?_
  refine y_aload_n dL_law_192 rfl rfl ?_
  refine y_aload_n dL_law_193 rfl rfl ?_
  refine y_iload_n dL_law_194 rfl rfl ?_
  refine y_iconst dL_law_195 ic_1 ?_
  refine y_iadd dL_law_196 ?_
  refine la_ld dL_law_197 (i + 1) (nI_addN i 1) (by omega) hL ?_
  refine y_aload_n dL_law_198 rfl rfl ?_
  refine y_iload_n dL_law_199 rfl rfl ?_
  refine y_iconst dL_law_200 ic_2 ?_
  refine y_iadd dL_law_201 ?_
  refine la_ld dL_law_202 (i + 2) (nI_addN i 2) (by omega) hL ?_
  refine y_aload_n dL_law_203 rfl rfl ?_
  refine y_iload_n dL_law_204 rfl rfl ?_
  refine y_iconst dL_law_205 ic_3 ?_
  refine y_iadd dL_law_206 ?_
  refine la_ld dL_law_207 (i + 3) (nI_addN i 3) (by omega) hL ?_
  refine y_aload_n dL_law_208 rfl rfl ?_
  refine y_iload_n dL_law_209 rfl rfl ?_
  refine y_iconst dL_law_210 ic_4 ?_
  refine y_iadd dL_law_211 ?_
  refine la_ld dL_law_212 (i + 4) (nI_addN i 4) (by omega) hL ?_
  refine y_cV4 dL_law_213 meX8_person clX8 kd_58 wm_ml_L_17 (kX8_person (tr_ht (rl_tw h)) (by rw [hx_person]; exact rl_p8 h)) ⟨Nat.le_of_ble_eq_true rfl, Nat.le_of_ble_eq_true rfl⟩ ⟨rfl, rfl⟩ (Nat.le_of_ble_eq_true rfl) (fun v213 μ213 hp213 => ?_)
  obtain ⟨rfl, he213⟩ := hp213
  replace he213 := he213.symm
  subst he213
  refine y_ri ?_
  exact y_icmp_eq 1085 dL_law_216 (by decide) (fun _ => nx _ (R.2.elim (fun _ g => ⟨_, _, _, g⟩))) (fun hq => absurd (R.1).symm hq)
set_option maxRecDepth 100000 in
set_option maxHeartbeats 4000000 in
theorem lc_leave {l : Launch} {G : GT} {b L : Nat} {xs : Nat → Int32} {i t k c : Nat} {μ : MemT} (hL : L ≤ 448) (hi : i + 7 ≤ L) (h : Rel t k c μ) (nx : ∀ μ2, RelE μ2 → LY l G b L xs i μ2 1085 []) : LY l G b L xs i μ 221 [] := by
  have R := rl_leave h (xs (i + 1))
  refine y_aload_n dL_law_221 rfl rfl ?_
  refine y_aload_n dL_law_222 rfl rfl ?_
  refine y_iload_n dL_law_223 rfl rfl ?_
  refine y_iconst dL_law_224 ic_1 ?_
  refine y_iadd dL_law_225 ?_
  refine la_ld dL_law_226 (i + 1) (nI_addN i 1) (by omega) hL ?_
  refine y_cV1 dL_law_227 meX7_leave clX7 kd_0 wm_ml_L_18 (kX7_leave) ⟨Nat.le_of_ble_eq_true rfl, Nat.le_of_ble_eq_true rfl⟩ ⟨rfl, rfl⟩ (Nat.le_of_ble_eq_true rfl) (fun v227 μ227 hp227 => ?_)
  obtain ⟨rfl, he227⟩ := hp227
  replace he227 := he227.symm
  subst he227
  refine y_ri ?_
  refine y_aload_n dL_law_230 rfl rfl ?_
  refine y_aload_n dL_law_231 rfl rfl ?_
  refine y_iload_n dL_law_232 rfl rfl ?_
  refine y_iconst dL_law_233 ic_1 ?_
  refine y_iadd dL_law_234 ?_
  refine la_ld dL_law_235 (i + 1) (nI_addN i 1) (by omega) hL ?_
  refine y_cV1 dL_law_236 meX8_leave clX8 kd_58 wm_ml_L_22 (kX8_leave (tr_ht (rl_tw h)) (by rw [(hx_leave _ _).1]; exact rl_p8 h) (by rw [(hx_leave _ _).2]; exact hx_okM h)) ⟨Nat.le_of_ble_eq_true rfl, Nat.le_of_ble_eq_true rfl⟩ ⟨rfl, rfl⟩ (Nat.le_of_ble_eq_true rfl) (fun v236 μ236 hp236 => ?_)
  obtain ⟨rfl, he236⟩ := hp236
  replace he236 := he236.symm
  subst he236
  refine y_ri ?_
  exact y_icmp_eq 1085 dL_law_239 (by decide) (fun _ => nx _ (R.2.elim (fun _ g => ⟨_, _, _, g⟩))) (fun hq => absurd (R.1).symm hq)
set_option maxRecDepth 100000 in
set_option maxHeartbeats 4000000 in
theorem lc_marry {l : Launch} {G : GT} {b L : Nat} {xs : Nat → Int32} {i t k c : Nat} {μ : MemT} (hL : L ≤ 448) (hi : i + 7 ≤ L) (h : Rel t k c μ) (nx : ∀ μ2, RelE μ2 → LY l G b L xs i μ2 1085 []) : LY l G b L xs i μ 244 [] := by
  by_cases hB : xs (i + 3) = 0
  · have R := rl_marry h (xs (i + 1)) (xs (i + 2)) false
    refine y_aload_n dL_law_244 rfl rfl ?_
    refine y_aload_n dL_law_245 rfl rfl ?_
    refine y_iload_n dL_law_246 rfl rfl ?_
    refine y_iconst dL_law_247 ic_1 ?_
    refine y_iadd dL_law_248 ?_
    refine la_ld dL_law_249 (i + 1) (nI_addN i 1) (by omega) hL ?_
    refine y_aload_n dL_law_250 rfl rfl ?_
    refine y_iload_n dL_law_251 rfl rfl ?_
    refine y_iconst dL_law_252 ic_2 ?_
    refine y_iadd dL_law_253 ?_
    refine la_ld dL_law_254 (i + 2) (nI_addN i 2) (by omega) hL ?_
    refine y_aload_n dL_law_255 rfl rfl ?_
    refine y_iload_n dL_law_256 rfl rfl ?_
    refine y_iconst dL_law_257 ic_3 ?_
    refine y_iadd dL_law_258 ?_
    refine la_ld dL_law_259 (i + 3) (nI_addN i 3) (by omega) hL ?_
    refine y_if_eq 267 dL_law_260 (by decide) (fun _ => ?_) (fun hq => absurd hB hq)
    refine y_iconst dL_law_267 ic_0 ?_
    refine y_cV3 dL_law_268 meX7_marry clX7 kd_0 wm_ml_L_23 (kX7_marry (B := false)) ⟨Nat.le_of_ble_eq_true rfl, Nat.le_of_ble_eq_true rfl⟩ ⟨rfl, rfl⟩ (Nat.le_of_ble_eq_true rfl) (fun v268 μ268 hp268 => ?_)
    obtain ⟨rfl, he268⟩ := hp268
    replace he268 := he268.symm
    subst he268
    refine y_ri ?_
    refine y_aload_n dL_law_271 rfl rfl ?_
    refine y_aload_n dL_law_272 rfl rfl ?_
    refine y_iload_n dL_law_273 rfl rfl ?_
    refine y_iconst dL_law_274 ic_1 ?_
    refine y_iadd dL_law_275 ?_
    refine la_ld dL_law_276 (i + 1) (nI_addN i 1) (by omega) hL ?_
    refine y_aload_n dL_law_277 rfl rfl ?_
    refine y_iload_n dL_law_278 rfl rfl ?_
    refine y_iconst dL_law_279 ic_2 ?_
    refine y_iadd dL_law_280 ?_
    refine la_ld dL_law_281 (i + 2) (nI_addN i 2) (by omega) hL ?_
    refine y_aload_n dL_law_282 rfl rfl ?_
    refine y_iload_n dL_law_283 rfl rfl ?_
    refine y_iconst dL_law_284 ic_3 ?_
    refine y_iadd dL_law_285 ?_
    refine la_ld dL_law_286 (i + 3) (nI_addN i 3) (by omega) hL ?_
    refine y_if_eq 294 dL_law_287 (by decide) (fun _ => ?_) (fun hq => absurd hB hq)
    refine y_iconst dL_law_294 ic_0 ?_
    refine y_cV3 dL_law_295 meX8_marry clX8 kd_58 wm_ml_L_27 (kX8_marry (B := false) (by rw [hx_marry]; exact hx_okM h)) ⟨Nat.le_of_ble_eq_true rfl, Nat.le_of_ble_eq_true rfl⟩ ⟨rfl, rfl⟩ (Nat.le_of_ble_eq_true rfl) (fun v295 μ295 hp295 => ?_)
    obtain ⟨rfl, he295⟩ := hp295
    replace he295 := he295.symm
    subst he295
    refine y_ri ?_
    exact y_icmp_eq 1085 dL_law_298 (by decide) (fun _ => nx _ (⟨_, _, _, R.2⟩)) (fun hq => absurd (R.1).symm hq)
  · have R := rl_marry h (xs (i + 1)) (xs (i + 2)) true
    refine y_aload_n dL_law_244 rfl rfl ?_
    refine y_aload_n dL_law_245 rfl rfl ?_
    refine y_iload_n dL_law_246 rfl rfl ?_
    refine y_iconst dL_law_247 ic_1 ?_
    refine y_iadd dL_law_248 ?_
    refine la_ld dL_law_249 (i + 1) (nI_addN i 1) (by omega) hL ?_
    refine y_aload_n dL_law_250 rfl rfl ?_
    refine y_iload_n dL_law_251 rfl rfl ?_
    refine y_iconst dL_law_252 ic_2 ?_
    refine y_iadd dL_law_253 ?_
    refine la_ld dL_law_254 (i + 2) (nI_addN i 2) (by omega) hL ?_
    refine y_aload_n dL_law_255 rfl rfl ?_
    refine y_iload_n dL_law_256 rfl rfl ?_
    refine y_iconst dL_law_257 ic_3 ?_
    refine y_iadd dL_law_258 ?_
    refine la_ld dL_law_259 (i + 3) (nI_addN i 3) (by omega) hL ?_
    refine y_if_eq 267 dL_law_260 (by decide) (fun hq => absurd hq hB) (fun _ => ?_)
    refine y_iconst dL_law_263 ic_1 ?_
    refine y_goto 268 dL_law_264 (by decide) ?_
    refine y_cV3 dL_law_268 meX7_marry clX7 kd_0 wm_ml_L_23 (kX7_marry (B := true)) ⟨Nat.le_of_ble_eq_true rfl, Nat.le_of_ble_eq_true rfl⟩ ⟨rfl, rfl⟩ (Nat.le_of_ble_eq_true rfl) (fun v268 μ268 hp268 => ?_)
    obtain ⟨rfl, he268⟩ := hp268
    replace he268 := he268.symm
    subst he268
    refine y_ri ?_
    refine y_aload_n dL_law_271 rfl rfl ?_
    refine y_aload_n dL_law_272 rfl rfl ?_
    refine y_iload_n dL_law_273 rfl rfl ?_
    refine y_iconst dL_law_274 ic_1 ?_
    refine y_iadd dL_law_275 ?_
    refine la_ld dL_law_276 (i + 1) (nI_addN i 1) (by omega) hL ?_
    refine y_aload_n dL_law_277 rfl rfl ?_
    refine y_iload_n dL_law_278 rfl rfl ?_
    refine y_iconst dL_law_279 ic_2 ?_
    refine y_iadd dL_law_280 ?_
    refine la_ld dL_law_281 (i + 2) (nI_addN i 2) (by omega) hL ?_
    refine y_aload_n dL_law_282 rfl rfl ?_
    refine y_iload_n dL_law_283 rfl rfl ?_
    refine y_iconst dL_law_284 ic_3 ?_
    refine y_iadd dL_law_285 ?_
    refine la_ld dL_law_286 (i + 3) (nI_addN i 3) (by omega) hL ?_
    refine y_if_eq 294 dL_law_287 (by decide) (fun hq => absurd hq hB) (fun _ => ?_)
    refine y_iconst dL_law_290 ic_1 ?_
    refine y_goto 295 dL_law_291 (by decide) ?_
    refine y_cV3 dL_law_295 meX8_marry clX8 kd_58 wm_ml_L_27 (kX8_marry (B := true) (by rw [hx_marry]; exact hx_okM h)) ⟨Nat.le_of_ble_eq_true rfl, Nat.le_of_ble_eq_true rfl⟩ ⟨rfl, rfl⟩ (Nat.le_of_ble_eq_true rfl) (fun v295 μ295 hp295 => ?_)
    obtain ⟨rfl, he295⟩ := hp295
    replace he295 := he295.symm
    subst he295
    refine y_ri ?_
    exact y_icmp_eq 1085 dL_law_298 (by decide) (fun _ => nx _ (⟨_, _, _, R.2⟩)) (fun hq => absurd (R.1).symm hq)
set_option maxRecDepth 100000 in
set_option maxHeartbeats 4000000 in
theorem lc_limit {l : Launch} {G : GT} {b L : Nat} {xs : Nat → Int32} {i t k c : Nat} {μ : MemT} (hL : L ≤ 448) (hi : i + 7 ≤ L) (h : Rel t k c μ) (nx : ∀ μ2, RelE μ2 → LY l G b L xs i μ2 1085 []) : LY l G b L xs i μ 303 [] := by
  have R := rl_limit h (xs (i + 1))
  refine y_aload_n dL_law_303 rfl rfl ?_
  refine y_aload_n dL_law_304 rfl rfl ?_
  refine y_iload_n dL_law_305 rfl rfl ?_
  refine y_iconst dL_law_306 ic_1 ?_
  refine y_iadd dL_law_307 ?_
  refine la_ld dL_law_308 (i + 1) (nI_addN i 1) (by omega) hL ?_
  refine y_cV1 dL_law_309 meX7_limit clX7 kd_0 wm_ml_L_28 (kX7_limit) ⟨Nat.le_of_ble_eq_true rfl, Nat.le_of_ble_eq_true rfl⟩ ⟨rfl, rfl⟩ (Nat.le_of_ble_eq_true rfl) (fun v309 μ309 hp309 => ?_)
  obtain ⟨rfl, he309⟩ := hp309
  replace he309 := he309.symm
  subst he309
  refine y_ri ?_
  refine y_aload_n dL_law_312 rfl rfl ?_
  refine y_aload_n dL_law_313 rfl rfl ?_
  refine y_iload_n dL_law_314 rfl rfl ?_
  refine y_iconst dL_law_315 ic_1 ?_
  refine y_iadd dL_law_316 ?_
  refine la_ld dL_law_317 (i + 1) (nI_addN i 1) (by omega) hL ?_
  refine y_cV1 dL_law_318 meX8_limit clX8 kd_58 wm_ml_L_31 (kX8_limit) ⟨Nat.le_of_ble_eq_true rfl, Nat.le_of_ble_eq_true rfl⟩ ⟨rfl, rfl⟩ (Nat.le_of_ble_eq_true rfl) (fun v318 μ318 hp318 => ?_)
  obtain ⟨rfl, he318⟩ := hp318
  replace he318 := he318.symm
  subst he318
  refine y_ri ?_
  exact y_icmp_eq 1085 dL_law_321 (by decide) (fun _ => nx _ (⟨_, _, _, R.2⟩)) (fun hq => absurd (R.1).symm hq)
set_option maxRecDepth 100000 in
set_option maxHeartbeats 4000000 in
theorem lc_say {l : Launch} {G : GT} {b L : Nat} {xs : Nat → Int32} {i t k c : Nat} {μ : MemT} (hL : L ≤ 448) (hi : i + 7 ≤ L) (h : Rel t k c μ) (nx : ∀ μ2, RelE μ2 → LY l G b L xs i μ2 1085 []) : LY l G b L xs i μ 326 [] := by
  have R := rl_say h (xs (i + 1))
  refine y_aload_n dL_law_326 rfl rfl ?_
  refine y_aload_n dL_law_327 rfl rfl ?_
  refine y_iload_n dL_law_328 rfl rfl ?_
  refine y_iconst dL_law_329 ic_1 ?_
  refine y_iadd dL_law_330 ?_
  refine la_ld dL_law_331 (i + 1) (nI_addN i 1) (by omega) hL ?_
  refine y_cV1 dL_law_332 meX7_say clX7 kd_0 wm_ml_L_32 (kX7_say (pr_hc (rl_pd h)) (by exact pr_ac (rl_pd h))) ⟨Nat.le_of_ble_eq_true rfl, Nat.le_of_ble_eq_true rfl⟩ ⟨rfl, rfl⟩ (Nat.le_of_ble_eq_true rfl) (fun v332 μ332 hp332 => ?_)
  obtain ⟨rfl, he332⟩ := hp332
  replace he332 := he332.symm
  subst he332
  refine y_ri ?_
  refine y_aload_n dL_law_335 rfl rfl ?_
  refine y_aload_n dL_law_336 rfl rfl ?_
  refine y_iload_n dL_law_337 rfl rfl ?_
  refine y_iconst dL_law_338 ic_1 ?_
  refine y_iadd dL_law_339 ?_
  refine la_ld dL_law_340 (i + 1) (nI_addN i 1) (by omega) hL ?_
  refine y_cV1 dL_law_341 meX8_say clX8 kd_58 wm_ml_L_35 (kX8_say (pr_hc (rl_pd h)) (by rw [hx_say]; exact pr_bc (rl_pd h))) ⟨Nat.le_of_ble_eq_true rfl, Nat.le_of_ble_eq_true rfl⟩ ⟨rfl, rfl⟩ (Nat.le_of_ble_eq_true rfl) (fun v341 μ341 hp341 => ?_)
  obtain ⟨rfl, he341⟩ := hp341
  replace he341 := he341.symm
  subst he341
  refine y_ri ?_
  exact y_icmp_eq 1085 dL_law_344 (by decide) (fun _ => nx _ (R.2.elim (fun _ g => ⟨_, _, _, g⟩))) (fun hq => absurd (R.1).symm hq)
set_option maxRecDepth 100000 in
set_option maxHeartbeats 4000000 in
theorem lc_wipe {l : Launch} {G : GT} {b L : Nat} {xs : Nat → Int32} {i t k c : Nat} {μ : MemT} (hL : L ≤ 448) (hi : i + 7 ≤ L) (h : Rel t k c μ) (nx : ∀ μ2, RelE μ2 → LY l G b L xs i μ2 1085 []) : LY l G b L xs i μ 349 [] := by
  have R := rl_wipe h
  refine y_aload_n dL_law_349 rfl rfl ?_
  refine y_cV0 dL_law_350 meX7_wipe clX7 kd_0 wm_ml_L_36 (kX7_wipe) ⟨Nat.le_of_ble_eq_true rfl, Nat.le_of_ble_eq_true rfl⟩ ⟨rfl, rfl⟩ (Nat.le_of_ble_eq_true rfl) (fun v350 μ350 hp350 => ?_)
  obtain ⟨rfl, he350⟩ := hp350
  replace he350 := he350.symm
  subst he350
  refine y_ri ?_
  refine y_aload_n dL_law_353 rfl rfl ?_
  refine y_cV0 dL_law_354 meX8_wipe clX8 kd_58 wm_ml_L_40 (kX8_wipe) ⟨Nat.le_of_ble_eq_true rfl, Nat.le_of_ble_eq_true rfl⟩ ⟨rfl, rfl⟩ (Nat.le_of_ble_eq_true rfl) (fun v354 μ354 hp354 => ?_)
  obtain ⟨rfl, he354⟩ := hp354
  replace he354 := he354.symm
  subst he354
  refine y_ri ?_
  exact y_icmp_eq 1085 dL_law_357 (by decide) (fun _ => nx _ (⟨_, _, _, R.2⟩)) (fun hq => absurd (R.1).symm hq)
set_option maxRecDepth 100000 in
set_option maxHeartbeats 4000000 in
theorem lc_fault {l : Launch} {G : GT} {b L : Nat} {xs : Nat → Int32} {i t k c : Nat} {μ : MemT} (hL : L ≤ 448) (hi : i + 7 ≤ L) (h : Rel t k c μ) (nx : ∀ μ2, RelE μ2 → LY l G b L xs i μ2 1085 []) : LY l G b L xs i μ 362 [] := by
  have R := rl_fault h
  refine y_aload_n dL_law_362 rfl rfl ?_
  refine y_cV0 dL_law_363 meX7_fault clX7 kd_0 wm_ml_L_41 (kX7_fault (pr_hc (rl_pd h)) (by exact pr_ac (rl_pd h))) ⟨Nat.le_of_ble_eq_true rfl, Nat.le_of_ble_eq_true rfl⟩ ⟨rfl, rfl⟩ (Nat.le_of_ble_eq_true rfl) (fun v363 μ363 hp363 => ?_)
  obtain ⟨rfl, he363⟩ := hp363
  replace he363 := he363.symm
  subst he363
  refine y_ri ?_
  refine y_aload_n dL_law_366 rfl rfl ?_
  refine y_cV0 dL_law_367 meX8_fault clX8 kd_58 wm_ml_L_44 (kX8_fault (pr_hc (rl_pd h)) (by exact pr_bc (rl_pd h))) ⟨Nat.le_of_ble_eq_true rfl, Nat.le_of_ble_eq_true rfl⟩ ⟨rfl, rfl⟩ (Nat.le_of_ble_eq_true rfl) (fun v367 μ367 hp367 => ?_)
  obtain ⟨rfl, he367⟩ := hp367
  replace he367 := he367.symm
  subst he367
  refine y_ri ?_
  exact y_icmp_eq 1085 dL_law_370 (by decide) (fun _ => nx _ (⟨_, _, _, R.2⟩)) (fun hq => absurd (R.1).symm hq)
set_option maxRecDepth 100000 in
set_option maxHeartbeats 4000000 in
theorem lc_judge {l : Launch} {G : GT} {b L : Nat} {xs : Nat → Int32} {i t k c : Nat} {μ : MemT} (hL : L ≤ 448) (hi : i + 7 ≤ L) (h : Rel t k c μ) (nx : ∀ μ2, RelE μ2 → LY l G b L xs i μ2 1085 []) : LY l G b L xs i μ 375 [] := by
  have R := rl_judge h (xs (i + 1))
  refine y_aload_n dL_law_375 rfl rfl ?_
  refine y_aload_n dL_law_376 rfl rfl ?_
  refine y_iload_n dL_law_377 rfl rfl ?_
  refine y_iconst dL_law_378 ic_1 ?_
  refine y_iadd dL_law_379 ?_
  refine la_ld dL_law_380 (i + 1) (nI_addN i 1) (by omega) hL ?_
  refine y_cV1 dL_law_381 meX7_judge clX7 kd_0 wm_ml_L_45 (kX7_judge (pr_hc (rl_pd h)) (by exact pr_ac (rl_pd h))) ⟨Nat.le_of_ble_eq_true rfl, Nat.le_of_ble_eq_true rfl⟩ ⟨rfl, rfl⟩ (Nat.le_of_ble_eq_true rfl) (fun v381 μ381 hp381 => ?_)
  obtain ⟨rfl, he381⟩ := hp381
  replace he381 := he381.symm
  subst he381
  refine y_ri ?_
  refine y_aload_n dL_law_384 rfl rfl ?_
  refine y_aload_n dL_law_385 rfl rfl ?_
  refine y_iload_n dL_law_386 rfl rfl ?_
  refine y_iconst dL_law_387 ic_1 ?_
  refine y_iadd dL_law_388 ?_
  refine la_ld dL_law_389 (i + 1) (nI_addN i 1) (by omega) hL ?_
  refine y_cV1 dL_law_390 meX8_judge clX8 kd_58 wm_ml_L_48 (kX8_judge (pr_hc (rl_pd h)) (by rw [hx_judge]; exact pr_bc (rl_pd h))) ⟨Nat.le_of_ble_eq_true rfl, Nat.le_of_ble_eq_true rfl⟩ ⟨rfl, rfl⟩ (Nat.le_of_ble_eq_true rfl) (fun v390 μ390 hp390 => ?_)
  obtain ⟨rfl, he390⟩ := hp390
  replace he390 := he390.symm
  subst he390
  refine y_ri ?_
  exact y_icmp_eq 1085 dL_law_393 (by decide) (fun _ => nx _ (⟨_, _, _, R.2⟩)) (fun hq => absurd (R.1).symm hq)
set_option maxRecDepth 100000 in
set_option maxHeartbeats 4000000 in
theorem lc_behind {l : Launch} {G : GT} {b L : Nat} {xs : Nat → Int32} {i t k c : Nat} {μ : MemT} (hL : L ≤ 448) (hi : i + 7 ≤ L) (h : Rel t k c μ) (nx : ∀ μ2, RelE μ2 → LY l G b L xs i μ2 1085 []) : LY l G b L xs i μ 398 [] := by
  have R := rl_behind h (xs (i + 1)) (xs (i + 2))
  refine y_aload_n dL_law_398 rfl rfl ?_
  refine y_aload_n dL_law_399 rfl rfl ?_
  refine y_iload_n dL_law_400 rfl rfl ?_
  refine y_iconst dL_law_401 ic_1 ?_
  refine y_iadd dL_law_402 ?_
  refine la_ld dL_law_403 (i + 1) (nI_addN i 1) (by omega) hL ?_
  refine y_aload_n dL_law_404 rfl rfl ?_
  refine y_iload_n dL_law_405 rfl rfl ?_
  refine y_iconst dL_law_406 ic_2 ?_
  refine y_iadd dL_law_407 ?_
  refine la_ld dL_law_408 (i + 2) (nI_addN i 2) (by omega) hL ?_
  refine y_cV2 dL_law_409 meX7_behind clX7 kd_0 wm_ml_L_49 (kX7_behind (pr_hc (rl_pd h)) (by exact pr_ac (rl_pd h))) ⟨Nat.le_of_ble_eq_true rfl, Nat.le_of_ble_eq_true rfl⟩ ⟨rfl, rfl⟩ (Nat.le_of_ble_eq_true rfl) (fun v409 μ409 hp409 => ?_)
  obtain ⟨rfl, he409⟩ := hp409
  replace he409 := he409.symm
  subst he409
  refine y_ri ?_
  refine y_aload_n dL_law_412 rfl rfl ?_
  refine y_aload_n dL_law_413 rfl rfl ?_
  refine y_iload_n dL_law_414 rfl rfl ?_
  refine y_iconst dL_law_415 ic_1 ?_
  refine y_iadd dL_law_416 ?_
  refine la_ld dL_law_417 (i + 1) (nI_addN i 1) (by omega) hL ?_
  refine y_aload_n dL_law_418 rfl rfl ?_
  refine y_iload_n dL_law_419 rfl rfl ?_
  refine y_iconst dL_law_420 ic_2 ?_
  refine y_iadd dL_law_421 ?_
  refine la_ld dL_law_422 (i + 2) (nI_addN i 2) (by omega) hL ?_
  refine y_cV2 dL_law_423 meX8_behind clX8 kd_58 wm_ml_L_53 (kX8_behind (pr_hc (rl_pd h)) (by rw [hx_behind]; exact pr_bc (rl_pd h))) ⟨Nat.le_of_ble_eq_true rfl, Nat.le_of_ble_eq_true rfl⟩ ⟨rfl, rfl⟩ (Nat.le_of_ble_eq_true rfl) (fun v423 μ423 hp423 => ?_)
  obtain ⟨rfl, he423⟩ := hp423
  replace he423 := he423.symm
  subst he423
  refine y_ri ?_
  exact y_icmp_eq 1085 dL_law_426 (by decide) (fun _ => nx _ (⟨_, _, _, R.2⟩)) (fun hq => absurd (R.1).symm hq)
set_option maxRecDepth 100000 in
set_option maxHeartbeats 4000000 in
theorem lc_done {l : Launch} {G : GT} {b L : Nat} {xs : Nat → Int32} {i t k c : Nat} {μ : MemT} (hL : L ≤ 448) (hi : i + 7 ≤ L) (h : Rel t k c μ) (nx : ∀ μ2, RelE μ2 → LY l G b L xs i μ2 1085 []) : LY l G b L xs i μ 431 [] := by
  have R := rl_done h
  refine y_aload_n dL_law_431 rfl rfl ?_
  refine y_cV0 dL_law_432 meX7_done clX7 kd_0 wm_ml_L_54 (kX7_done (pr_hc (rl_pd h)) (by exact pr_ac (rl_pd h))) ⟨Nat.le_of_ble_eq_true rfl, Nat.le_of_ble_eq_true rfl⟩ ⟨rfl, rfl⟩ (Nat.le_of_ble_eq_true rfl) (fun v432 μ432 hp432 => ?_)
  obtain ⟨rfl, he432⟩ := hp432
  replace he432 := he432.symm
  subst he432
  refine y_ri ?_
  refine y_aload_n dL_law_435 rfl rfl ?_
  refine y_cV0 dL_law_436 meX8_done clX8 kd_58 wm_ml_L_57 (kX8_done (pr_hc (rl_pd h)) (by rw [hx_done]; exact pr_bc (rl_pd h))) ⟨Nat.le_of_ble_eq_true rfl, Nat.le_of_ble_eq_true rfl⟩ ⟨rfl, rfl⟩ (Nat.le_of_ble_eq_true rfl) (fun v436 μ436 hp436 => ?_)
  obtain ⟨rfl, he436⟩ := hp436
  replace he436 := he436.symm
  subst he436
  refine y_ri ?_
  exact y_icmp_eq 1085 dL_law_439 (by decide) (fun _ => nx _ (R.2.elim (fun _ g => ⟨_, _, _, g⟩))) (fun hq => absurd (R.1).symm hq)
set_option maxRecDepth 100000 in
set_option maxHeartbeats 4000000 in
theorem lc_weighs {l : Launch} {G : GT} {b L : Nat} {xs : Nat → Int32} {i t k c : Nat} {μ : MemT} (hL : L ≤ 448) (hi : i + 7 ≤ L) (h : Rel t k c μ) (nx : ∀ μ2, RelE μ2 → LY l G b L xs i μ2 1085 []) : LY l G b L xs i μ 444 [] := by
  have R := rl_weighs h (xs (i + 1))
  refine y_aload_n dL_law_444 rfl rfl ?_
  refine y_aload_n dL_law_445 rfl rfl ?_
  refine y_iload_n dL_law_446 rfl rfl ?_
  refine y_iconst dL_law_447 ic_1 ?_
  refine y_iadd dL_law_448 ?_
  refine la_ld dL_law_449 (i + 1) (nI_addN i 1) (by omega) hL ?_
  refine y_cV1 dL_law_450 meX7_weighs clX7 kd_0 wm_ml_L_58 (kX7_weighs) ⟨Nat.le_of_ble_eq_true rfl, Nat.le_of_ble_eq_true rfl⟩ ⟨rfl, rfl⟩ (Nat.le_of_ble_eq_true rfl) (fun v450 μ450 hp450 => ?_)
  obtain ⟨rfl, he450⟩ := hp450
  replace he450 := he450.symm
  subst he450
  refine y_ri ?_
  refine y_aload_n dL_law_453 rfl rfl ?_
  refine y_aload_n dL_law_454 rfl rfl ?_
  refine y_iload_n dL_law_455 rfl rfl ?_
  refine y_iconst dL_law_456 ic_1 ?_
  refine y_iadd dL_law_457 ?_
  refine la_ld dL_law_458 (i + 1) (nI_addN i 1) (by omega) hL ?_
  refine y_cV1 dL_law_459 meX8_weighs clX8 kd_58 wm_ml_L_61 (kX8_weighs) ⟨Nat.le_of_ble_eq_true rfl, Nat.le_of_ble_eq_true rfl⟩ ⟨rfl, rfl⟩ (Nat.le_of_ble_eq_true rfl) (fun v459 μ459 hp459 => ?_)
  obtain ⟨rfl, he459⟩ := hp459
  replace he459 := he459.symm
  subst he459
  refine y_ri ?_
  exact y_icmp_eq 1085 dL_law_462 (by decide) (fun _ => nx _ (⟨_, _, _, h⟩)) (fun hq => absurd (R).symm hq)
set_option maxRecDepth 100000 in
set_option maxHeartbeats 4000000 in
theorem lc_off {l : Launch} {G : GT} {b L : Nat} {xs : Nat → Int32} {i t k c : Nat} {μ : MemT} (hL : L ≤ 448) (hi : i + 7 ≤ L) (h : Rel t k c μ) (nx : ∀ μ2, RelE μ2 → LY l G b L xs i μ2 1085 []) : LY l G b L xs i μ 467 [] := by
  have R := rl_off h (xs (i + 1))
  refine y_aload_n dL_law_467 rfl rfl ?_
  refine y_aload_n dL_law_468 rfl rfl ?_
  refine y_iload_n dL_law_469 rfl rfl ?_
  refine y_iconst dL_law_470 ic_1 ?_
  refine y_iadd dL_law_471 ?_
  refine la_ld dL_law_472 (i + 1) (nI_addN i 1) (by omega) hL ?_
  refine y_cV1 dL_law_473 meX7_off clX7 kd_0 wm_ml_L_62 (kX7_off) ⟨Nat.le_of_ble_eq_true rfl, Nat.le_of_ble_eq_true rfl⟩ ⟨rfl, rfl⟩ (Nat.le_of_ble_eq_true rfl) (fun v473 μ473 hp473 => ?_)
  obtain ⟨rfl, he473⟩ := hp473
  replace he473 := he473.symm
  subst he473
  refine y_ri ?_
  refine y_aload_n dL_law_476 rfl rfl ?_
  refine y_aload_n dL_law_477 rfl rfl ?_
  refine y_iload_n dL_law_478 rfl rfl ?_
  refine y_iconst dL_law_479 ic_1 ?_
  refine y_iadd dL_law_480 ?_
  refine la_ld dL_law_481 (i + 1) (nI_addN i 1) (by omega) hL ?_
  refine y_cV1 dL_law_482 meX8_off clX8 kd_58 wm_ml_L_65 (kX8_off) ⟨Nat.le_of_ble_eq_true rfl, Nat.le_of_ble_eq_true rfl⟩ ⟨rfl, rfl⟩ (Nat.le_of_ble_eq_true rfl) (fun v482 μ482 hp482 => ?_)
  obtain ⟨rfl, he482⟩ := hp482
  replace he482 := he482.symm
  subst he482
  refine y_ri ?_
  exact y_icmp_eq 1085 dL_law_485 (by decide) (fun _ => nx _ (⟨_, _, _, h⟩)) (fun hq => absurd (R).symm hq)
set_option maxRecDepth 100000 in
set_option maxHeartbeats 4000000 in
theorem lc_out {l : Launch} {G : GT} {b L : Nat} {xs : Nat → Int32} {i t k c : Nat} {μ : MemT} (hL : L ≤ 448) (hi : i + 7 ≤ L) (h : Rel t k c μ) (nx : ∀ μ2, RelE μ2 → LY l G b L xs i μ2 1085 []) : LY l G b L xs i μ 490 [] := by
  have R := rl_out h (xs (i + 1))
  refine y_aload_n dL_law_490 rfl rfl ?_
  refine y_aload_n dL_law_491 rfl rfl ?_
  refine y_iload_n dL_law_492 rfl rfl ?_
  refine y_iconst dL_law_493 ic_1 ?_
  refine y_iadd dL_law_494 ?_
  refine la_ld dL_law_495 (i + 1) (nI_addN i 1) (by omega) hL ?_
  refine y_cV1 dL_law_496 meX7_out clX7 kd_0 wm_ml_L_66 (kX7_out) ⟨Nat.le_of_ble_eq_true rfl, Nat.le_of_ble_eq_true rfl⟩ ⟨rfl, rfl⟩ (Nat.le_of_ble_eq_true rfl) (fun v496 μ496 hp496 => ?_)
  obtain ⟨rfl, he496⟩ := hp496
  replace he496 := he496.symm
  subst he496
  refine y_ri ?_
  refine y_aload_n dL_law_499 rfl rfl ?_
  refine y_aload_n dL_law_500 rfl rfl ?_
  refine y_iload_n dL_law_501 rfl rfl ?_
  refine y_iconst dL_law_502 ic_1 ?_
  refine y_iadd dL_law_503 ?_
  refine la_ld dL_law_504 (i + 1) (nI_addN i 1) (by omega) hL ?_
  refine y_cV1 dL_law_505 meX8_out clX8 kd_58 wm_ml_L_69 (kX8_out) ⟨Nat.le_of_ble_eq_true rfl, Nat.le_of_ble_eq_true rfl⟩ ⟨rfl, rfl⟩ (Nat.le_of_ble_eq_true rfl) (fun v505 μ505 hp505 => ?_)
  obtain ⟨rfl, he505⟩ := hp505
  replace he505 := he505.symm
  subst he505
  refine y_ri ?_
  exact y_icmp_eq 1085 dL_law_508 (by decide) (fun _ => nx _ (⟨_, _, _, R.2⟩)) (fun hq => absurd (R.1).symm hq)
set_option maxRecDepth 100000 in
set_option maxHeartbeats 4000000 in
theorem lc_even {l : Launch} {G : GT} {b L : Nat} {xs : Nat → Int32} {i t k c : Nat} {μ : MemT} (hL : L ≤ 448) (hi : i + 7 ≤ L) (h : Rel t k c μ) (nx : ∀ μ2, RelE μ2 → LY l G b L xs i μ2 1085 []) : LY l G b L xs i μ 513 [] := by
  have R := rl_even h (xs (i + 1)) (xs (i + 2))
  refine y_aload_n dL_law_513 rfl rfl ?_
  refine y_aload_n dL_law_514 rfl rfl ?_
  refine y_iload_n dL_law_515 rfl rfl ?_
  refine y_iconst dL_law_516 ic_1 ?_
  refine y_iadd dL_law_517 ?_
  refine la_ld dL_law_518 (i + 1) (nI_addN i 1) (by omega) hL ?_
  refine y_aload_n dL_law_519 rfl rfl ?_
  refine y_iload_n dL_law_520 rfl rfl ?_
  refine y_iconst dL_law_521 ic_2 ?_
  refine y_iadd dL_law_522 ?_
  refine la_ld dL_law_523 (i + 2) (nI_addN i 2) (by omega) hL ?_
  refine y_cV2 dL_law_524 meX7_even clX7 kd_0 wm_ml_L_70 (kX7_even) ⟨Nat.le_of_ble_eq_true rfl, Nat.le_of_ble_eq_true rfl⟩ ⟨rfl, rfl⟩ (Nat.le_of_ble_eq_true rfl) (fun v524 μ524 hp524 => ?_)
  obtain ⟨rfl, he524⟩ := hp524
  replace he524 := he524.symm
  subst he524
  refine y_ri ?_
  refine y_aload_n dL_law_527 rfl rfl ?_
  refine y_aload_n dL_law_528 rfl rfl ?_
  refine y_iload_n dL_law_529 rfl rfl ?_
  refine y_iconst dL_law_530 ic_1 ?_
  refine y_iadd dL_law_531 ?_
  refine la_ld dL_law_532 (i + 1) (nI_addN i 1) (by omega) hL ?_
  refine y_aload_n dL_law_533 rfl rfl ?_
  refine y_iload_n dL_law_534 rfl rfl ?_
  refine y_iconst dL_law_535 ic_2 ?_
  refine y_iadd dL_law_536 ?_
  refine la_ld dL_law_537 (i + 2) (nI_addN i 2) (by omega) hL ?_
  refine y_cV2 dL_law_538 meX8_even clX8 kd_58 wm_ml_L_73 (kX8_even) ⟨Nat.le_of_ble_eq_true rfl, Nat.le_of_ble_eq_true rfl⟩ ⟨rfl, rfl⟩ (Nat.le_of_ble_eq_true rfl) (fun v538 μ538 hp538 => ?_)
  obtain ⟨rfl, he538⟩ := hp538
  replace he538 := he538.symm
  subst he538
  refine y_ri ?_
  exact y_icmp_eq 1085 dL_law_541 (by decide) (fun _ => nx _ (⟨_, _, _, R.2⟩)) (fun hq => absurd (R.1).symm hq)
set_option maxRecDepth 100000 in
set_option maxHeartbeats 4000000 in
theorem lc_make {l : Launch} {G : GT} {b L : Nat} {xs : Nat → Int32} {i t k c : Nat} {μ : MemT} (hL : L ≤ 448) (hi : i + 7 ≤ L) (h : Rel t k c μ) (nx : ∀ μ2, RelE μ2 → LY l G b L xs i μ2 1085 []) : LY l G b L xs i μ 546 [] := by
  by_cases hB : xs (i + 2) = 0
  · have R := rl_make h (xs (i + 1)) (xs (i + 3)) false
    refine y_aload_n dL_law_546 rfl rfl ?_
    refine y_aload_n dL_law_547 rfl rfl ?_
    refine y_iload_n dL_law_548 rfl rfl ?_
    refine y_iconst dL_law_549 ic_1 ?_
    refine y_iadd dL_law_550 ?_
    refine la_ld dL_law_551 (i + 1) (nI_addN i 1) (by omega) hL ?_
    refine y_aload_n dL_law_552 rfl rfl ?_
    refine y_iload_n dL_law_553 rfl rfl ?_
    refine y_iconst dL_law_554 ic_2 ?_
    refine y_iadd dL_law_555 ?_
    refine la_ld dL_law_556 (i + 2) (nI_addN i 2) (by omega) hL ?_
    refine y_if_eq 564 dL_law_557 (by decide) (fun _ => ?_) (fun hq => absurd hB hq)
    refine y_iconst dL_law_564 ic_0 ?_
    refine y_aload_n dL_law_565 rfl rfl ?_
    refine y_iload_n dL_law_566 rfl rfl ?_
    refine y_iconst dL_law_567 ic_3 ?_
    refine y_iadd dL_law_568 ?_
    refine la_ld dL_law_569 (i + 3) (nI_addN i 3) (by omega) hL ?_
    refine y_cV3 dL_law_570 meX7_make clX7 kd_0 wm_ml_L_74 (kX7_make (B := false) (tr_ht (rl_tw h)) (by exact tr_aps (rl_tw h))) ⟨Nat.le_of_ble_eq_true rfl, Nat.le_of_ble_eq_true rfl⟩ ⟨rfl, rfl⟩ (Nat.le_of_ble_eq_true rfl) (fun v570 μ570 hp570 => ?_)
    obtain ⟨rfl, he570⟩ := hp570
    replace he570 := he570.symm
    subst he570
    refine y_ri ?_
    refine y_aload_n dL_law_573 rfl rfl ?_
    refine y_aload_n dL_law_574 rfl rfl ?_
    refine y_iload_n dL_law_575 rfl rfl ?_
    refine y_iconst dL_law_576 ic_1 ?_
    refine y_iadd dL_law_577 ?_
    refine la_ld dL_law_578 (i + 1) (nI_addN i 1) (by omega) hL ?_
    refine y_aload_n dL_law_579 rfl rfl ?_
    refine y_iload_n dL_law_580 rfl rfl ?_
    refine y_iconst dL_law_581 ic_2 ?_
    refine y_iadd dL_law_582 ?_
    refine la_ld dL_law_583 (i + 2) (nI_addN i 2) (by omega) hL ?_
    refine y_if_eq 591 dL_law_584 (by decide) (fun _ => ?_) (fun hq => absurd hB hq)
    refine y_iconst dL_law_591 ic_0 ?_
    refine y_aload_n dL_law_592 rfl rfl ?_
    refine y_iload_n dL_law_593 rfl rfl ?_
    refine y_iconst dL_law_594 ic_3 ?_
    refine y_iadd dL_law_595 ?_
    refine la_ld dL_law_596 (i + 3) (nI_addN i 3) (by omega) hL ?_
    refine y_cV3 dL_law_597 meX8_make clX8 kd_58 wm_ml_L_78 (kX8_make (B := false) (tr_ht (rl_tw h)) (by exact rl_p8 R.2)) ⟨Nat.le_of_ble_eq_true rfl, Nat.le_of_ble_eq_true rfl⟩ ⟨rfl, rfl⟩ (Nat.le_of_ble_eq_true rfl) (fun v597 μ597 hp597 => ?_)
    obtain ⟨rfl, f597, g597, he597⟩ := hp597
    replace he597 := he597.symm
    subst he597
    refine y_ri ?_
    exact y_icmp_eq 1085 dL_law_600 (by decide) (fun _ => nx _ (⟨_, _, _, rl_seF R.2 _ _⟩)) (fun hq => absurd (R.1).symm hq)
  · have R := rl_make h (xs (i + 1)) (xs (i + 3)) true
    refine y_aload_n dL_law_546 rfl rfl ?_
    refine y_aload_n dL_law_547 rfl rfl ?_
    refine y_iload_n dL_law_548 rfl rfl ?_
    refine y_iconst dL_law_549 ic_1 ?_
    refine y_iadd dL_law_550 ?_
    refine la_ld dL_law_551 (i + 1) (nI_addN i 1) (by omega) hL ?_
    refine y_aload_n dL_law_552 rfl rfl ?_
    refine y_iload_n dL_law_553 rfl rfl ?_
    refine y_iconst dL_law_554 ic_2 ?_
    refine y_iadd dL_law_555 ?_
    refine la_ld dL_law_556 (i + 2) (nI_addN i 2) (by omega) hL ?_
    refine y_if_eq 564 dL_law_557 (by decide) (fun hq => absurd hq hB) (fun _ => ?_)
    refine y_iconst dL_law_560 ic_1 ?_
    refine y_goto 565 dL_law_561 (by decide) ?_
    refine y_aload_n dL_law_565 rfl rfl ?_
    refine y_iload_n dL_law_566 rfl rfl ?_
    refine y_iconst dL_law_567 ic_3 ?_
    refine y_iadd dL_law_568 ?_
    refine la_ld dL_law_569 (i + 3) (nI_addN i 3) (by omega) hL ?_
    refine y_cV3 dL_law_570 meX7_make clX7 kd_0 wm_ml_L_74 (kX7_make (B := true) (tr_ht (rl_tw h)) (by exact tr_aps (rl_tw h))) ⟨Nat.le_of_ble_eq_true rfl, Nat.le_of_ble_eq_true rfl⟩ ⟨rfl, rfl⟩ (Nat.le_of_ble_eq_true rfl) (fun v570 μ570 hp570 => ?_)
    obtain ⟨rfl, he570⟩ := hp570
    replace he570 := he570.symm
    subst he570
    refine y_ri ?_
    refine y_aload_n dL_law_573 rfl rfl ?_
    refine y_aload_n dL_law_574 rfl rfl ?_
    refine y_iload_n dL_law_575 rfl rfl ?_
    refine y_iconst dL_law_576 ic_1 ?_
    refine y_iadd dL_law_577 ?_
    refine la_ld dL_law_578 (i + 1) (nI_addN i 1) (by omega) hL ?_
    refine y_aload_n dL_law_579 rfl rfl ?_
    refine y_iload_n dL_law_580 rfl rfl ?_
    refine y_iconst dL_law_581 ic_2 ?_
    refine y_iadd dL_law_582 ?_
    refine la_ld dL_law_583 (i + 2) (nI_addN i 2) (by omega) hL ?_
    refine y_if_eq 591 dL_law_584 (by decide) (fun hq => absurd hq hB) (fun _ => ?_)
    refine y_iconst dL_law_587 ic_1 ?_
    refine y_goto 592 dL_law_588 (by decide) ?_
    refine y_aload_n dL_law_592 rfl rfl ?_
    refine y_iload_n dL_law_593 rfl rfl ?_
    refine y_iconst dL_law_594 ic_3 ?_
    refine y_iadd dL_law_595 ?_
    refine la_ld dL_law_596 (i + 3) (nI_addN i 3) (by omega) hL ?_
    refine y_cV3 dL_law_597 meX8_make clX8 kd_58 wm_ml_L_78 (kX8_make (B := true) (tr_ht (rl_tw h)) (by exact rl_p8 R.2)) ⟨Nat.le_of_ble_eq_true rfl, Nat.le_of_ble_eq_true rfl⟩ ⟨rfl, rfl⟩ (Nat.le_of_ble_eq_true rfl) (fun v597 μ597 hp597 => ?_)
    obtain ⟨rfl, f597, g597, he597⟩ := hp597
    replace he597 := he597.symm
    subst he597
    refine y_ri ?_
    exact y_icmp_eq 1085 dL_law_600 (by decide) (fun _ => nx _ (⟨_, _, _, rl_seF R.2 _ _⟩)) (fun hq => absurd (R.1).symm hq)
set_option maxRecDepth 100000 in
set_option maxHeartbeats 4000000 in
theorem lc_near {l : Launch} {G : GT} {b L : Nat} {xs : Nat → Int32} {i t k c : Nat} {μ : MemT} (hL : L ≤ 448) (hi : i + 7 ≤ L) (h : Rel t k c μ) (nx : ∀ μ2, RelE μ2 → LY l G b L xs i μ2 1085 []) : LY l G b L xs i μ 605 [] := by
  by_cases hB : xs (i + 2) = 0
  · have R := rl_near h (xs (i + 1)) false
    refine y_aload_n dL_law_605 rfl rfl ?_
    refine y_aload_n dL_law_606 rfl rfl ?_
    refine y_iload_n dL_law_607 rfl rfl ?_
    refine y_iconst dL_law_608 ic_1 ?_
    refine y_iadd dL_law_609 ?_
    refine la_ld dL_law_610 (i + 1) (nI_addN i 1) (by omega) hL ?_
    refine y_aload_n dL_law_611 rfl rfl ?_
    refine y_iload_n dL_law_612 rfl rfl ?_
    refine y_iconst dL_law_613 ic_2 ?_
    refine y_iadd dL_law_614 ?_
    refine la_ld dL_law_615 (i + 2) (nI_addN i 2) (by omega) hL ?_
    refine y_if_eq 623 dL_law_616 (by decide) (fun _ => ?_) (fun hq => absurd hB hq)
    refine y_iconst dL_law_623 ic_0 ?_
    refine y_cV2 dL_law_624 meX7_near clX7 kd_0 wm_ml_L_79 (kX7_near (B := false) (tr_ht (rl_tw h)) (by exact tr_aps (rl_tw h))) ⟨Nat.le_of_ble_eq_true rfl, Nat.le_of_ble_eq_true rfl⟩ ⟨rfl, rfl⟩ (Nat.le_of_ble_eq_true rfl) (fun v624 μ624 hp624 => ?_)
    obtain ⟨rfl, he624⟩ := hp624
    replace he624 := he624.symm
    subst he624
    refine y_ri ?_
    refine y_aload_n dL_law_627 rfl rfl ?_
    refine y_aload_n dL_law_628 rfl rfl ?_
    refine y_iload_n dL_law_629 rfl rfl ?_
    refine y_iconst dL_law_630 ic_1 ?_
    refine y_iadd dL_law_631 ?_
    refine la_ld dL_law_632 (i + 1) (nI_addN i 1) (by omega) hL ?_
    refine y_aload_n dL_law_633 rfl rfl ?_
    refine y_iload_n dL_law_634 rfl rfl ?_
    refine y_iconst dL_law_635 ic_2 ?_
    refine y_iadd dL_law_636 ?_
    refine la_ld dL_law_637 (i + 2) (nI_addN i 2) (by omega) hL ?_
    refine y_if_eq 645 dL_law_638 (by decide) (fun _ => ?_) (fun hq => absurd hB hq)
    refine y_iconst dL_law_645 ic_0 ?_
    refine y_cV2 dL_law_646 meX8_near clX8 kd_58 wm_ml_L_83 (kX8_near (B := false)) ⟨Nat.le_of_ble_eq_true rfl, Nat.le_of_ble_eq_true rfl⟩ ⟨rfl, rfl⟩ (Nat.le_of_ble_eq_true rfl) (fun v646 μ646 hp646 => ?_)
    obtain ⟨rfl, f646, g646, he646⟩ := hp646
    replace he646 := he646.symm
    subst he646
    refine y_ri ?_
    exact y_icmp_eq 1085 dL_law_649 (by decide) (fun _ => nx _ (⟨_, _, _, rl_seF R.2 _ _⟩)) (fun hq => absurd (R.1).symm hq)
  · have R := rl_near h (xs (i + 1)) true
    refine y_aload_n dL_law_605 rfl rfl ?_
    refine y_aload_n dL_law_606 rfl rfl ?_
    refine y_iload_n dL_law_607 rfl rfl ?_
    refine y_iconst dL_law_608 ic_1 ?_
    refine y_iadd dL_law_609 ?_
    refine la_ld dL_law_610 (i + 1) (nI_addN i 1) (by omega) hL ?_
    refine y_aload_n dL_law_611 rfl rfl ?_
    refine y_iload_n dL_law_612 rfl rfl ?_
    refine y_iconst dL_law_613 ic_2 ?_
    refine y_iadd dL_law_614 ?_
    refine la_ld dL_law_615 (i + 2) (nI_addN i 2) (by omega) hL ?_
    refine y_if_eq 623 dL_law_616 (by decide) (fun hq => absurd hq hB) (fun _ => ?_)
    refine y_iconst dL_law_619 ic_1 ?_
    refine y_goto 624 dL_law_620 (by decide) ?_
    refine y_cV2 dL_law_624 meX7_near clX7 kd_0 wm_ml_L_79 (kX7_near (B := true) (tr_ht (rl_tw h)) (by exact tr_aps (rl_tw h))) ⟨Nat.le_of_ble_eq_true rfl, Nat.le_of_ble_eq_true rfl⟩ ⟨rfl, rfl⟩ (Nat.le_of_ble_eq_true rfl) (fun v624 μ624 hp624 => ?_)
    obtain ⟨rfl, he624⟩ := hp624
    replace he624 := he624.symm
    subst he624
    refine y_ri ?_
    refine y_aload_n dL_law_627 rfl rfl ?_
    refine y_aload_n dL_law_628 rfl rfl ?_
    refine y_iload_n dL_law_629 rfl rfl ?_
    refine y_iconst dL_law_630 ic_1 ?_
    refine y_iadd dL_law_631 ?_
    refine la_ld dL_law_632 (i + 1) (nI_addN i 1) (by omega) hL ?_
    refine y_aload_n dL_law_633 rfl rfl ?_
    refine y_iload_n dL_law_634 rfl rfl ?_
    refine y_iconst dL_law_635 ic_2 ?_
    refine y_iadd dL_law_636 ?_
    refine la_ld dL_law_637 (i + 2) (nI_addN i 2) (by omega) hL ?_
    refine y_if_eq 645 dL_law_638 (by decide) (fun hq => absurd hq hB) (fun _ => ?_)
    refine y_iconst dL_law_641 ic_1 ?_
    refine y_goto 646 dL_law_642 (by decide) ?_
    refine y_cV2 dL_law_646 meX8_near clX8 kd_58 wm_ml_L_83 (kX8_near (B := true)) ⟨Nat.le_of_ble_eq_true rfl, Nat.le_of_ble_eq_true rfl⟩ ⟨rfl, rfl⟩ (Nat.le_of_ble_eq_true rfl) (fun v646 μ646 hp646 => ?_)
    obtain ⟨rfl, f646, g646, he646⟩ := hp646
    replace he646 := he646.symm
    subst he646
    refine y_ri ?_
    exact y_icmp_eq 1085 dL_law_649 (by decide) (fun _ => nx _ (⟨_, _, _, rl_seF R.2 _ _⟩)) (fun hq => absurd (R.1).symm hq)
set_option maxRecDepth 100000 in
set_option maxHeartbeats 4000000 in
theorem lc_gap {l : Launch} {G : GT} {b L : Nat} {xs : Nat → Int32} {i t k c : Nat} {μ : MemT} (hL : L ≤ 448) (hi : i + 7 ≤ L) (h : Rel t k c μ) (nx : ∀ μ2, RelE μ2 → LY l G b L xs i μ2 1085 []) : LY l G b L xs i μ 654 [] := by
  by_cases hB : xs (i + 1) = 0
  · have R := rl_gap h false
    refine y_aload_n dL_law_654 rfl rfl ?_
    refine y_aload_n dL_law_655 rfl rfl ?_
    refine y_iload_n dL_law_656 rfl rfl ?_
    refine y_iconst dL_law_657 ic_1 ?_
    refine y_iadd dL_law_658 ?_
    refine la_ld dL_law_659 (i + 1) (nI_addN i 1) (by omega) hL ?_
    refine y_if_eq 667 dL_law_660 (by decide) (fun _ => ?_) (fun hq => absurd hB hq)
    refine y_iconst dL_law_667 ic_0 ?_
    refine y_cV1 dL_law_668 meX7_gap clX7 kd_0 wm_ml_L_84 (kX7_gap (B := false) (tr_ht (rl_tw h)) (by exact tr_aps (rl_tw h))) ⟨Nat.le_of_ble_eq_true rfl, Nat.le_of_ble_eq_true rfl⟩ ⟨rfl, rfl⟩ (Nat.le_of_ble_eq_true rfl) (fun v668 μ668 hp668 => ?_)
    obtain ⟨rfl, he668⟩ := hp668
    replace he668 := he668.symm
    subst he668
    refine y_ri ?_
    refine y_aload_n dL_law_671 rfl rfl ?_
    refine y_aload_n dL_law_672 rfl rfl ?_
    refine y_iload_n dL_law_673 rfl rfl ?_
    refine y_iconst dL_law_674 ic_1 ?_
    refine y_iadd dL_law_675 ?_
    refine la_ld dL_law_676 (i + 1) (nI_addN i 1) (by omega) hL ?_
    refine y_if_eq 684 dL_law_677 (by decide) (fun _ => ?_) (fun hq => absurd hB hq)
    refine y_iconst dL_law_684 ic_0 ?_
    refine y_cV1 dL_law_685 meX8_gap clX8 kd_58 wm_ml_L_88 (kX8_gap (B := false) (by exact gapB_ok R.2 false)) ⟨Nat.le_of_ble_eq_true rfl, Nat.le_of_ble_eq_true rfl⟩ ⟨rfl, rfl⟩ (Nat.le_of_ble_eq_true rfl) (fun v685 μ685 hp685 => ?_)
    obtain ⟨rfl, f685, g685, he685⟩ := hp685
    replace he685 := he685.symm
    subst he685
    refine y_ri ?_
    exact y_icmp_eq 1085 dL_law_688 (by decide) (fun _ => nx _ (⟨_, _, _, rl_seF (rl_74 R.2 _) _ _⟩)) (fun hq => absurd (R.1).symm hq)
  · have R := rl_gap h true
    refine y_aload_n dL_law_654 rfl rfl ?_
    refine y_aload_n dL_law_655 rfl rfl ?_
    refine y_iload_n dL_law_656 rfl rfl ?_
    refine y_iconst dL_law_657 ic_1 ?_
    refine y_iadd dL_law_658 ?_
    refine la_ld dL_law_659 (i + 1) (nI_addN i 1) (by omega) hL ?_
    refine y_if_eq 667 dL_law_660 (by decide) (fun hq => absurd hq hB) (fun _ => ?_)
    refine y_iconst dL_law_663 ic_1 ?_
    refine y_goto 668 dL_law_664 (by decide) ?_
    refine y_cV1 dL_law_668 meX7_gap clX7 kd_0 wm_ml_L_84 (kX7_gap (B := true) (tr_ht (rl_tw h)) (by exact tr_aps (rl_tw h))) ⟨Nat.le_of_ble_eq_true rfl, Nat.le_of_ble_eq_true rfl⟩ ⟨rfl, rfl⟩ (Nat.le_of_ble_eq_true rfl) (fun v668 μ668 hp668 => ?_)
    obtain ⟨rfl, he668⟩ := hp668
    replace he668 := he668.symm
    subst he668
    refine y_ri ?_
    refine y_aload_n dL_law_671 rfl rfl ?_
    refine y_aload_n dL_law_672 rfl rfl ?_
    refine y_iload_n dL_law_673 rfl rfl ?_
    refine y_iconst dL_law_674 ic_1 ?_
    refine y_iadd dL_law_675 ?_
    refine la_ld dL_law_676 (i + 1) (nI_addN i 1) (by omega) hL ?_
    refine y_if_eq 684 dL_law_677 (by decide) (fun hq => absurd hq hB) (fun _ => ?_)
    refine y_iconst dL_law_680 ic_1 ?_
    refine y_goto 685 dL_law_681 (by decide) ?_
    refine y_cV1 dL_law_685 meX8_gap clX8 kd_58 wm_ml_L_88 (kX8_gap (B := true) (by exact gapB_ok R.2 true)) ⟨Nat.le_of_ble_eq_true rfl, Nat.le_of_ble_eq_true rfl⟩ ⟨rfl, rfl⟩ (Nat.le_of_ble_eq_true rfl) (fun v685 μ685 hp685 => ?_)
    obtain ⟨rfl, f685, g685, he685⟩ := hp685
    replace he685 := he685.symm
    subst he685
    refine y_ri ?_
    exact y_icmp_eq 1085 dL_law_688 (by decide) (fun _ => nx _ (⟨_, _, _, rl_seF (rl_74 R.2 _) _ _⟩)) (fun hq => absurd (R.1).symm hq)
set_option maxRecDepth 100000 in
set_option maxHeartbeats 4000000 in
theorem lc_assize {l : Launch} {G : GT} {b L : Nat} {xs : Nat → Int32} {i t k c : Nat} {μ : MemT} (hL : L ≤ 448) (hi : i + 7 ≤ L) (h : Rel t k c μ) (nx : ∀ μ2, RelE μ2 → LY l G b L xs i μ2 1085 []) : LY l G b L xs i μ 693 [] := by
  have R := rl_assize h (xs (i + 1))
  refine y_aload_n dL_law_693 rfl rfl ?_
  refine y_aload_n dL_law_694 rfl rfl ?_
  refine y_iload_n dL_law_695 rfl rfl ?_
  refine y_iconst dL_law_696 ic_1 ?_
  refine y_iadd dL_law_697 ?_
  refine la_ld dL_law_698 (i + 1) (nI_addN i 1) (by omega) hL ?_
  refine y_cV1 dL_law_699 meX7_assize clX7 kd_0 wm_ml_L_89 (kX7_assize) ⟨Nat.le_of_ble_eq_true rfl, Nat.le_of_ble_eq_true rfl⟩ ⟨rfl, rfl⟩ (Nat.le_of_ble_eq_true rfl) (fun v699 μ699 hp699 => ?_)
  obtain ⟨rfl, he699⟩ := hp699
  replace he699 := he699.symm
  subst he699
  refine y_ri ?_
  refine y_aload_n dL_law_702 rfl rfl ?_
  refine y_aload_n dL_law_703 rfl rfl ?_
  refine y_iload_n dL_law_704 rfl rfl ?_
  refine y_iconst dL_law_705 ic_1 ?_
  refine y_iadd dL_law_706 ?_
  refine la_ld dL_law_707 (i + 1) (nI_addN i 1) (by omega) hL ?_
  refine y_cV1 dL_law_708 meX8_assize clX8 kd_58 wm_ml_L_92 (kX8_assize) ⟨Nat.le_of_ble_eq_true rfl, Nat.le_of_ble_eq_true rfl⟩ ⟨rfl, rfl⟩ (Nat.le_of_ble_eq_true rfl) (fun v708 μ708 hp708 => ?_)
  obtain ⟨rfl, he708⟩ := hp708
  replace he708 := he708.symm
  subst he708
  refine y_ri ?_
  exact y_icmp_eq 1085 dL_law_711 (by decide) (fun _ => nx _ (⟨_, _, _, h⟩)) (fun hq => absurd (R).symm hq)
set_option maxRecDepth 100000 in
set_option maxHeartbeats 4000000 in
theorem lc_just {l : Launch} {G : GT} {b L : Nat} {xs : Nat → Int32} {i t k c : Nat} {μ : MemT} (hL : L ≤ 448) (hi : i + 7 ≤ L) (h : Rel t k c μ) (nx : ∀ μ2, RelE μ2 → LY l G b L xs i μ2 1085 []) : LY l G b L xs i μ 716 [] := by
  have R := rl_just h
  refine y_aload_n dL_law_716 rfl rfl ?_
  refine y_cV0 dL_law_717 meX7_just clX7 kd_0 wm_ml_L_93 (kX7_just) ⟨Nat.le_of_ble_eq_true rfl, Nat.le_of_ble_eq_true rfl⟩ ⟨rfl, rfl⟩ (Nat.le_of_ble_eq_true rfl) (fun v717 μ717 hp717 => ?_)
  obtain ⟨rfl, he717⟩ := hp717
  replace he717 := he717.symm
  subst he717
  refine y_ri ?_
  refine y_aload_n dL_law_720 rfl rfl ?_
  refine y_cV0 dL_law_721 meX8_just clX8 kd_58 wm_ml_L_96 (kX8_just) ⟨Nat.le_of_ble_eq_true rfl, Nat.le_of_ble_eq_true rfl⟩ ⟨rfl, rfl⟩ (Nat.le_of_ble_eq_true rfl) (fun v721 μ721 hp721 => ?_)
  obtain ⟨rfl, he721⟩ := hp721
  replace he721 := he721.symm
  subst he721
  refine y_ri ?_
  exact y_icmp_eq 1085 dL_law_724 (by decide) (fun _ => nx _ (⟨_, _, _, h⟩)) (fun hq => absurd (R).symm hq)
set_option maxRecDepth 100000 in
set_option maxHeartbeats 4000000 in
theorem lc_price {l : Launch} {G : GT} {b L : Nat} {xs : Nat → Int32} {i t k c : Nat} {μ : MemT} (hL : L ≤ 448) (hi : i + 7 ≤ L) (h : Rel t k c μ) (nx : ∀ μ2, RelE μ2 → LY l G b L xs i μ2 1085 []) : LY l G b L xs i μ 729 [] := by
  have R := rl_price h (xs (i + 1)) (xs (i + 2)) (xs (i + 3))
  refine y_aload_n dL_law_729 rfl rfl ?_
  refine y_aload_n dL_law_730 rfl rfl ?_
  refine y_iload_n dL_law_731 rfl rfl ?_
  refine y_iconst dL_law_732 ic_1 ?_
  refine y_iadd dL_law_733 ?_
  refine la_ld dL_law_734 (i + 1) (nI_addN i 1) (by omega) hL ?_
  refine y_aload_n dL_law_735 rfl rfl ?_
  refine y_iload_n dL_law_736 rfl rfl ?_
  refine y_iconst dL_law_737 ic_2 ?_
  refine y_iadd dL_law_738 ?_
  refine la_ld dL_law_739 (i + 2) (nI_addN i 2) (by omega) hL ?_
  refine y_aload_n dL_law_740 rfl rfl ?_
  refine y_iload_n dL_law_741 rfl rfl ?_
  refine y_iconst dL_law_742 ic_3 ?_
  refine y_iadd dL_law_743 ?_
  refine la_ld dL_law_744 (i + 3) (nI_addN i 3) (by omega) hL ?_
  refine y_cV3 dL_law_745 meX7_price clX7 kd_0 wm_ml_L_97 (kX7_price (tr_ht (rl_tw h)) (by exact tr_aps (rl_tw h))) ⟨Nat.le_of_ble_eq_true rfl, Nat.le_of_ble_eq_true rfl⟩ ⟨rfl, rfl⟩ (Nat.le_of_ble_eq_true rfl) (fun v745 μ745 hp745 => ?_)
  obtain ⟨rfl, he745⟩ := hp745
  replace he745 := he745.symm
  subst he745
  refine y_ri ?_
  refine y_aload_n dL_law_748 rfl rfl ?_
  refine y_aload_n dL_law_749 rfl rfl ?_
  refine y_iload_n dL_law_750 rfl rfl ?_
  refine y_iconst dL_law_751 ic_1 ?_
  refine y_iadd dL_law_752 ?_
  refine la_ld dL_law_753 (i + 1) (nI_addN i 1) (by omega) hL ?_
  refine y_aload_n dL_law_754 rfl rfl ?_
  refine y_iload_n dL_law_755 rfl rfl ?_
  refine y_iconst dL_law_756 ic_2 ?_
  refine y_iadd dL_law_757 ?_
  refine la_ld dL_law_758 (i + 2) (nI_addN i 2) (by omega) hL ?_
  refine y_aload_n dL_law_759 rfl rfl ?_
  refine y_iload_n dL_law_760 rfl rfl ?_
  refine y_iconst dL_law_761 ic_3 ?_
  refine y_iadd dL_law_762 ?_
  refine la_ld dL_law_763 (i + 3) (nI_addN i 3) (by omega) hL ?_
  refine y_cV3 dL_law_764 meX8_price clX8 kd_58 wm_ml_L_101 (kX8_price) ⟨Nat.le_of_ble_eq_true rfl, Nat.le_of_ble_eq_true rfl⟩ ⟨rfl, rfl⟩ (Nat.le_of_ble_eq_true rfl) (fun v764 μ764 hp764 => ?_)
  obtain ⟨rfl, he764⟩ := hp764
  replace he764 := he764.symm
  subst he764
  refine y_ri ?_
  exact y_icmp_eq 1085 dL_law_767 (by decide) (fun _ => nx _ (⟨_, _, _, R.2⟩)) (fun hq => absurd (R.1).symm hq)
set_option maxRecDepth 100000 in
set_option maxHeartbeats 4000000 in
theorem lc_seen {l : Launch} {G : GT} {b L : Nat} {xs : Nat → Int32} {i t k c : Nat} {μ : MemT} (hL : L ≤ 448) (hi : i + 7 ≤ L) (h : Rel t k c μ) (nx : ∀ μ2, RelE μ2 → LY l G b L xs i μ2 1085 []) : LY l G b L xs i μ 772 [] := by
  have R := rl_seen h (xs (i + 1)) (xs (i + 2)) (xs (i + 3))
  refine y_aload_n dL_law_772 rfl rfl ?_
  refine y_aload_n dL_law_773 rfl rfl ?_
  refine y_iload_n dL_law_774 rfl rfl ?_
  refine y_iconst dL_law_775 ic_1 ?_
  refine y_iadd dL_law_776 ?_
  refine la_ld dL_law_777 (i + 1) (nI_addN i 1) (by omega) hL ?_
  refine y_aload_n dL_law_778 rfl rfl ?_
  refine y_iload_n dL_law_779 rfl rfl ?_
  refine y_iconst dL_law_780 ic_2 ?_
  refine y_iadd dL_law_781 ?_
  refine la_ld dL_law_782 (i + 2) (nI_addN i 2) (by omega) hL ?_
  refine y_aload_n dL_law_783 rfl rfl ?_
  refine y_iload_n dL_law_784 rfl rfl ?_
  refine y_iconst dL_law_785 ic_3 ?_
  refine y_iadd dL_law_786 ?_
  refine la_ld dL_law_787 (i + 3) (nI_addN i 3) (by omega) hL ?_
  refine y_cV3 dL_law_788 meX7_seen clX7 kd_0 wm_ml_L_102 (kX7_seen (tr_hk (rl_tw h)) (by exact tr_asg (rl_tw h))) ⟨Nat.le_of_ble_eq_true rfl, Nat.le_of_ble_eq_true rfl⟩ ⟨rfl, rfl⟩ (Nat.le_of_ble_eq_true rfl) (fun v788 μ788 hp788 => ?_)
  obtain ⟨rfl, he788⟩ := hp788
  replace he788 := he788.symm
  subst he788
  refine y_ri ?_
  refine y_aload_n dL_law_791 rfl rfl ?_
  refine y_aload_n dL_law_792 rfl rfl ?_
  refine y_iload_n dL_law_793 rfl rfl ?_
  refine y_iconst dL_law_794 ic_1 ?_
  refine y_iadd dL_law_795 ?_
  refine la_ld dL_law_796 (i + 1) (nI_addN i 1) (by omega) hL ?_
  refine y_aload_n dL_law_797 rfl rfl ?_
  refine y_iload_n dL_law_798 rfl rfl ?_
  refine y_iconst dL_law_799 ic_2 ?_
  refine y_iadd dL_law_800 ?_
  refine la_ld dL_law_801 (i + 2) (nI_addN i 2) (by omega) hL ?_
  refine y_aload_n dL_law_802 rfl rfl ?_
  refine y_iload_n dL_law_803 rfl rfl ?_
  refine y_iconst dL_law_804 ic_3 ?_
  refine y_iadd dL_law_805 ?_
  refine la_ld dL_law_806 (i + 3) (nI_addN i 3) (by omega) hL ?_
  refine y_cV3 dL_law_807 meX8_seen clX8 kd_58 wm_ml_L_105 (kX8_seen (tr_hk (rl_tw h)) (by rw [hx_seen]; exact rl_k8 h)) ⟨Nat.le_of_ble_eq_true rfl, Nat.le_of_ble_eq_true rfl⟩ ⟨rfl, rfl⟩ (Nat.le_of_ble_eq_true rfl) (fun v807 μ807 hp807 => ?_)
  obtain ⟨rfl, he807⟩ := hp807
  replace he807 := he807.symm
  subst he807
  refine y_ri ?_
  exact y_icmp_eq 1085 dL_law_810 (by decide) (fun _ => nx _ (R.2.elim (fun _ g => ⟨_, _, _, g⟩))) (fun hq => absurd (R.1).symm hq)
set_option maxRecDepth 100000 in
set_option maxHeartbeats 4000000 in
theorem lc_forget {l : Launch} {G : GT} {b L : Nat} {xs : Nat → Int32} {i t k c : Nat} {μ : MemT} (hL : L ≤ 448) (hi : i + 7 ≤ L) (h : Rel t k c μ) (nx : ∀ μ2, RelE μ2 → LY l G b L xs i μ2 1085 []) : LY l G b L xs i μ 815 [] := by
  have R := rl_forget h
  refine y_aload_n dL_law_815 rfl rfl ?_
  refine y_cV0 dL_law_816 meX7_forget clX7 kd_0 wm_ml_L_106 (kX7_forget) ⟨Nat.le_of_ble_eq_true rfl, Nat.le_of_ble_eq_true rfl⟩ ⟨rfl, rfl⟩ (Nat.le_of_ble_eq_true rfl) (fun v816 μ816 hp816 => ?_)
  obtain ⟨rfl, he816⟩ := hp816
  replace he816 := he816.symm
  subst he816
  refine y_ri ?_
  refine y_aload_n dL_law_819 rfl rfl ?_
  refine y_cV0 dL_law_820 meX8_forget clX8 kd_58 wm_ml_L_109 (kX8_forget) ⟨Nat.le_of_ble_eq_true rfl, Nat.le_of_ble_eq_true rfl⟩ ⟨rfl, rfl⟩ (Nat.le_of_ble_eq_true rfl) (fun v820 μ820 hp820 => ?_)
  obtain ⟨rfl, he820⟩ := hp820
  replace he820 := he820.symm
  subst he820
  refine y_ri ?_
  exact y_icmp_eq 1085 dL_law_823 (by decide) (fun _ => nx _ (⟨_, _, _, R.2⟩)) (fun hq => absurd (R.1).symm hq)
set_option maxRecDepth 100000 in
set_option maxHeartbeats 4000000 in
theorem lc_airs {l : Launch} {G : GT} {b L : Nat} {xs : Nat → Int32} {i t k c : Nat} {μ : MemT} (hL : L ≤ 448) (hi : i + 7 ≤ L) (h : Rel t k c μ) (nx : ∀ μ2, RelE μ2 → LY l G b L xs i μ2 1085 []) : LY l G b L xs i μ 828 [] := by
  have R := rl_airs h (xs (i + 1))
  refine y_aload_n dL_law_828 rfl rfl ?_
  refine y_aload_n dL_law_829 rfl rfl ?_
  refine y_iload_n dL_law_830 rfl rfl ?_
  refine y_iconst dL_law_831 ic_1 ?_
  refine y_iadd dL_law_832 ?_
  refine la_ld dL_law_833 (i + 1) (nI_addN i 1) (by omega) hL ?_
  refine y_cV1 dL_law_834 meX7_airs clX7 kd_0 wm_ml_L_110 (kX7_airs (tr_hk (rl_tw h)) (by exact tr_asg (rl_tw h))) ⟨Nat.le_of_ble_eq_true rfl, Nat.le_of_ble_eq_true rfl⟩ ⟨rfl, rfl⟩ (Nat.le_of_ble_eq_true rfl) (fun v834 μ834 hp834 => ?_)
  obtain ⟨rfl, he834⟩ := hp834
  replace he834 := he834.symm
  subst he834
  refine y_ri ?_
  refine y_aload_n dL_law_837 rfl rfl ?_
  refine y_aload_n dL_law_838 rfl rfl ?_
  refine y_iload_n dL_law_839 rfl rfl ?_
  refine y_iconst dL_law_840 ic_1 ?_
  refine y_iadd dL_law_841 ?_
  refine la_ld dL_law_842 (i + 1) (nI_addN i 1) (by omega) hL ?_
  refine y_cV1 dL_law_843 meX8_airs clX8 kd_58 wm_ml_L_113 (kX8_airs (tr_hk (rl_tw h)) (by rw [hx_airs]; exact rl_k8 h)) ⟨Nat.le_of_ble_eq_true rfl, Nat.le_of_ble_eq_true rfl⟩ ⟨rfl, rfl⟩ (Nat.le_of_ble_eq_true rfl) (fun v843 μ843 hp843 => ?_)
  obtain ⟨rfl, he843⟩ := hp843
  replace he843 := he843.symm
  subst he843
  refine y_ri ?_
  exact y_icmp_eq 1085 dL_law_846 (by decide) (fun _ => nx _ (⟨_, _, _, R.2⟩)) (fun hq => absurd (R.1).symm hq)
set_option maxRecDepth 100000 in
set_option maxHeartbeats 4000000 in
theorem lc_air {l : Launch} {G : GT} {b L : Nat} {xs : Nat → Int32} {i t k c : Nat} {μ : MemT} (hL : L ≤ 448) (hi : i + 7 ≤ L) (h : Rel t k c μ) (nx : ∀ μ2, RelE μ2 → LY l G b L xs i μ2 1085 []) : LY l G b L xs i μ 851 [] := by
  have R := rl_air h (xs (i + 1))
  refine y_aload_n dL_law_851 rfl rfl ?_
  refine y_aload_n dL_law_852 rfl rfl ?_
  refine y_iload_n dL_law_853 rfl rfl ?_
  refine y_iconst dL_law_854 ic_1 ?_
  refine y_iadd dL_law_855 ?_
  refine la_ld dL_law_856 (i + 1) (nI_addN i 1) (by omega) hL ?_
  refine y_cV1 dL_law_857 meX7_air clX7 kd_0 wm_ml_L_114 (kX7_air (tr_hk (rl_tw h)) (by exact tr_asg (rl_tw h))) ⟨Nat.le_of_ble_eq_true rfl, Nat.le_of_ble_eq_true rfl⟩ ⟨rfl, rfl⟩ (Nat.le_of_ble_eq_true rfl) (fun v857 μ857 hp857 => ?_)
  obtain ⟨rfl, he857⟩ := hp857
  replace he857 := he857.symm
  subst he857
  refine y_ri ?_
  refine y_aload_n dL_law_860 rfl rfl ?_
  refine y_aload_n dL_law_861 rfl rfl ?_
  refine y_iload_n dL_law_862 rfl rfl ?_
  refine y_iconst dL_law_863 ic_1 ?_
  refine y_iadd dL_law_864 ?_
  refine la_ld dL_law_865 (i + 1) (nI_addN i 1) (by omega) hL ?_
  refine y_cV1 dL_law_866 meX8_air clX8 kd_58 wm_ml_L_117 (kX8_air (tr_hk (rl_tw h)) (by rw [hx_air]; exact rl_k8 h)) ⟨Nat.le_of_ble_eq_true rfl, Nat.le_of_ble_eq_true rfl⟩ ⟨rfl, rfl⟩ (Nat.le_of_ble_eq_true rfl) (fun v866 μ866 hp866 => ?_)
  obtain ⟨rfl, he866⟩ := hp866
  replace he866 := he866.symm
  subst he866
  refine y_ri ?_
  exact y_icmp_eq 1085 dL_law_869 (by decide) (fun _ => nx _ (⟨_, _, _, R.2⟩)) (fun hq => absurd (R.1).symm hq)
set_option maxRecDepth 100000 in
set_option maxHeartbeats 4000000 in
theorem lc_cross {l : Launch} {G : GT} {b L : Nat} {xs : Nat → Int32} {i t k c : Nat} {μ : MemT} (hL : L ≤ 448) (hi : i + 7 ≤ L) (h : Rel t k c μ) (nx : ∀ μ2, RelE μ2 → LY l G b L xs i μ2 1085 []) : LY l G b L xs i μ 874 [] := by
  have R := rl_cross h (xs (i + 1))
  refine y_aload_n dL_law_874 rfl rfl ?_
  refine y_aload_n dL_law_875 rfl rfl ?_
  refine y_iload_n dL_law_876 rfl rfl ?_
  refine y_iconst dL_law_877 ic_1 ?_
  refine y_iadd dL_law_878 ?_
  refine la_ld dL_law_879 (i + 1) (nI_addN i 1) (by omega) hL ?_
  refine y_cV1 dL_law_880 meX7_cross clX7 kd_0 wm_ml_L_118 (kX7_cross (tr_hk (rl_tw h)) (by exact tr_asg (rl_tw h))) ⟨Nat.le_of_ble_eq_true rfl, Nat.le_of_ble_eq_true rfl⟩ ⟨rfl, rfl⟩ (Nat.le_of_ble_eq_true rfl) (fun v880 μ880 hp880 => ?_)
  obtain ⟨rfl, he880⟩ := hp880
  replace he880 := he880.symm
  subst he880
  refine y_ri ?_
  refine y_aload_n dL_law_883 rfl rfl ?_
  refine y_aload_n dL_law_884 rfl rfl ?_
  refine y_iload_n dL_law_885 rfl rfl ?_
  refine y_iconst dL_law_886 ic_1 ?_
  refine y_iadd dL_law_887 ?_
  refine la_ld dL_law_888 (i + 1) (nI_addN i 1) (by omega) hL ?_
  refine y_cV1 dL_law_889 meX8_cross clX8 kd_58 wm_ml_L_121 (kX8_cross (tr_hk (rl_tw h)) (by rw [hx_cross]; exact rl_k8 h)) ⟨Nat.le_of_ble_eq_true rfl, Nat.le_of_ble_eq_true rfl⟩ ⟨rfl, rfl⟩ (Nat.le_of_ble_eq_true rfl) (fun v889 μ889 hp889 => ?_)
  obtain ⟨rfl, he889⟩ := hp889
  replace he889 := he889.symm
  subst he889
  refine y_ri ?_
  exact y_icmp_eq 1085 dL_law_892 (by decide) (fun _ => nx _ (⟨_, _, _, R.2⟩)) (fun hq => absurd (R.1).symm hq)
set_option maxRecDepth 100000 in
set_option maxHeartbeats 4000000 in
theorem lc_chance {l : Launch} {G : GT} {b L : Nat} {xs : Nat → Int32} {i t k c : Nat} {μ : MemT} (hL : L ≤ 448) (hi : i + 7 ≤ L) (h : Rel t k c μ) (nx : ∀ μ2, RelE μ2 → LY l G b L xs i μ2 1085 []) : LY l G b L xs i μ 897 [] := by
  have R := rl_chance h (xs (i + 1)) (xs (i + 2)) (xs (i + 3)) (xs (i + 4)) (xs (i + 5)) (xs (i + 6))
  refine y_aload_n dL_law_897 rfl rfl ?_
  refine y_aload_n dL_law_898 rfl rfl ?_
  refine y_iload_n dL_law_899 rfl rfl ?_
  refine y_iconst dL_law_900 ic_1 ?_
  refine y_iadd dL_law_901 ?_
  refine la_ld dL_law_902 (i + 1) (nI_addN i 1) (by omega) hL ?_
  refine y_aload_n dL_law_903 rfl rfl ?_
  refine y_iload_n dL_law_904 rfl rfl ?_
  refine y_iconst dL_law_905 ic_2 ?_
  refine y_iadd dL_law_906 ?_
  refine la_ld dL_law_907 (i + 2) (nI_addN i 2) (by omega) hL ?_
  refine y_aload_n dL_law_908 rfl rfl ?_
  refine y_iload_n dL_law_909 rfl rfl ?_
  refine y_iconst dL_law_910 ic_3 ?_
  refine y_iadd dL_law_911 ?_
  refine la_ld dL_law_912 (i + 3) (nI_addN i 3) (by omega) hL ?_
  refine y_aload_n dL_law_913 rfl rfl ?_
  refine y_iload_n dL_law_914 rfl rfl ?_
  refine y_iconst dL_law_915 ic_4 ?_
  refine y_iadd dL_law_916 ?_
  refine la_ld dL_law_917 (i + 4) (nI_addN i 4) (by omega) hL ?_
  refine y_aload_n dL_law_918 rfl rfl ?_
  refine y_iload_n dL_law_919 rfl rfl ?_
  refine y_iconst dL_law_920 ic_5 ?_
  refine y_iadd dL_law_921 ?_
  refine la_ld dL_law_922 (i + 5) (nI_addN i 5) (by omega) hL ?_
  refine y_aload_n dL_law_923 rfl rfl ?_
  refine y_iload_n dL_law_924 rfl rfl ?_
  refine y_bipush dL_law_925 ib_6 ?_
  refine y_iadd dL_law_927 ?_
  refine la_ld dL_law_928 (i + 6) (nI_addN i 6) (by omega) hL ?_
  refine y_cV6 dL_law_929 meX7_chance clX7 kd_0 wm_ml_L_122 (kX7_chance (tr_ht (rl_tw h)) (by exact tr_aps (rl_tw h))) ⟨Nat.le_of_ble_eq_true rfl, Nat.le_of_ble_eq_true rfl⟩ ⟨rfl, rfl⟩ (Nat.le_of_ble_eq_true rfl) (fun v929 μ929 hp929 => ?_)
  obtain ⟨rfl, he929⟩ := hp929
  replace he929 := he929.symm
  subst he929
  refine y_rl ?_
  refine y_aload_n dL_law_932 rfl rfl ?_
  refine y_aload_n dL_law_933 rfl rfl ?_
  refine y_iload_n dL_law_934 rfl rfl ?_
  refine y_iconst dL_law_935 ic_1 ?_
  refine y_iadd dL_law_936 ?_
  refine la_ld dL_law_937 (i + 1) (nI_addN i 1) (by omega) hL ?_
  refine y_aload_n dL_law_938 rfl rfl ?_
  refine y_iload_n dL_law_939 rfl rfl ?_
  refine y_iconst dL_law_940 ic_2 ?_
  refine y_iadd dL_law_941 ?_
  refine la_ld dL_law_942 (i + 2) (nI_addN i 2) (by omega) hL ?_
  refine y_aload_n dL_law_943 rfl rfl ?_
  refine y_iload_n dL_law_944 rfl rfl ?_
  refine y_iconst dL_law_945 ic_3 ?_
  refine y_iadd dL_law_946 ?_
  refine la_ld dL_law_947 (i + 3) (nI_addN i 3) (by omega) hL ?_
  refine y_aload_n dL_law_948 rfl rfl ?_
  refine y_iload_n dL_law_949 rfl rfl ?_
  refine y_iconst dL_law_950 ic_4 ?_
  refine y_iadd dL_law_951 ?_
  refine la_ld dL_law_952 (i + 4) (nI_addN i 4) (by omega) hL ?_
  refine y_aload_n dL_law_953 rfl rfl ?_
  refine y_iload_n dL_law_954 rfl rfl ?_
  refine y_iconst dL_law_955 ic_5 ?_
  refine y_iadd dL_law_956 ?_
  refine la_ld dL_law_957 (i + 5) (nI_addN i 5) (by omega) hL ?_
  refine y_aload_n dL_law_958 rfl rfl ?_
  refine y_iload_n dL_law_959 rfl rfl ?_
  refine y_bipush dL_law_960 ib_6 ?_
  refine y_iadd dL_law_962 ?_
  refine la_ld dL_law_963 (i + 6) (nI_addN i 6) (by omega) hL ?_
  refine y_cV6 dL_law_964 meX8_chance clX8 kd_58 wm_ml_L_126 (kX8_chance (by exact R.1)) ⟨Nat.le_of_ble_eq_true rfl, Nat.le_of_ble_eq_true rfl⟩ ⟨rfl, rfl⟩ (Nat.le_of_ble_eq_true rfl) (fun v964 μ964 hp964 => ?_)
  obtain ⟨rfl, he964⟩ := hp964
  replace he964 := he964.symm
  subst he964
  refine y_rl ?_
  refine y_lcmp dL_law_967 ?_
  exact y_if_eq 1085 dL_law_968 (by decide) (fun _ => nx _ (⟨_, _, _, R.2.2⟩)) (fun hq => absurd ((lg0 _ _).mpr (R.2.1).symm) hq)
set_option maxRecDepth 100000 in
set_option maxHeartbeats 4000000 in
theorem lc_year {l : Launch} {G : GT} {b L : Nat} {xs : Nat → Int32} {i t k c : Nat} {μ : MemT} (hL : L ≤ 448) (hi : i + 7 ≤ L) (h : Rel t k c μ) (nx : ∀ μ2, RelE μ2 → LY l G b L xs i μ2 1085 []) : LY l G b L xs i μ 973 [] := by
  have R := rl_year h (xs (i + 1)) (xs (i + 2)) (xs (i + 3))
  refine y_aload_n dL_law_973 rfl rfl ?_
  refine y_aload_n dL_law_974 rfl rfl ?_
  refine y_iload_n dL_law_975 rfl rfl ?_
  refine y_iconst dL_law_976 ic_1 ?_
  refine y_iadd dL_law_977 ?_
  refine la_ld dL_law_978 (i + 1) (nI_addN i 1) (by omega) hL ?_
  refine y_aload_n dL_law_979 rfl rfl ?_
  refine y_iload_n dL_law_980 rfl rfl ?_
  refine y_iconst dL_law_981 ic_2 ?_
  refine y_iadd dL_law_982 ?_
  refine la_ld dL_law_983 (i + 2) (nI_addN i 2) (by omega) hL ?_
  refine y_aload_n dL_law_984 rfl rfl ?_
  refine y_iload_n dL_law_985 rfl rfl ?_
  refine y_iconst dL_law_986 ic_3 ?_
  refine y_iadd dL_law_987 ?_
  refine la_ld dL_law_988 (i + 3) (nI_addN i 3) (by omega) hL ?_
  refine y_cV3 dL_law_989 meX7_year clX7 kd_0 wm_ml_L_127 (kX7_year) ⟨Nat.le_of_ble_eq_true rfl, Nat.le_of_ble_eq_true rfl⟩ ⟨rfl, rfl⟩ (Nat.le_of_ble_eq_true rfl) (fun v989 μ989 hp989 => ?_)
  obtain ⟨rfl, he989⟩ := hp989
  replace he989 := he989.symm
  subst he989
  refine y_ri ?_
  refine y_aload_n dL_law_992 rfl rfl ?_
  refine y_aload_n dL_law_993 rfl rfl ?_
  refine y_iload_n dL_law_994 rfl rfl ?_
  refine y_iconst dL_law_995 ic_1 ?_
  refine y_iadd dL_law_996 ?_
  refine la_ld dL_law_997 (i + 1) (nI_addN i 1) (by omega) hL ?_
  refine y_aload_n dL_law_998 rfl rfl ?_
  refine y_iload_n dL_law_999 rfl rfl ?_
  refine y_iconst dL_law_1000 ic_2 ?_
  refine y_iadd dL_law_1001 ?_
  refine la_ld dL_law_1002 (i + 2) (nI_addN i 2) (by omega) hL ?_
  refine y_aload_n dL_law_1003 rfl rfl ?_
  refine y_iload_n dL_law_1004 rfl rfl ?_
  refine y_iconst dL_law_1005 ic_3 ?_
  refine y_iadd dL_law_1006 ?_
  refine la_ld dL_law_1007 (i + 3) (nI_addN i 3) (by omega) hL ?_
  refine y_cV3 dL_law_1008 meX8_year clX8 kd_58 wm_ml_L_130 (kX8_year) ⟨Nat.le_of_ble_eq_true rfl, Nat.le_of_ble_eq_true rfl⟩ ⟨rfl, rfl⟩ (Nat.le_of_ble_eq_true rfl) (fun v1008 μ1008 hp1008 => ?_)
  obtain ⟨rfl, he1008⟩ := hp1008
  replace he1008 := he1008.symm
  subst he1008
  refine y_ri ?_
  exact y_icmp_eq 1085 dL_law_1011 (by decide) (fun _ => nx _ (⟨_, _, _, R.2⟩)) (fun hq => absurd (R.1).symm hq)
set_option maxRecDepth 100000 in
set_option maxHeartbeats 4000000 in
theorem lc_image {l : Launch} {G : GT} {b L : Nat} {xs : Nat → Int32} {i t k c : Nat} {μ : MemT} (hL : L ≤ 448) (hi : i + 7 ≤ L) (h : Rel t k c μ) (nx : ∀ μ2, RelE μ2 → LY l G b L xs i μ2 1085 []) : LY l G b L xs i μ 1016 [] := by
  have R := rl_image h (xs (i + 1))
  refine y_aload_n dL_law_1016 rfl rfl ?_
  refine y_aload_n dL_law_1017 rfl rfl ?_
  refine y_iload_n dL_law_1018 rfl rfl ?_
  refine y_iconst dL_law_1019 ic_1 ?_
  refine y_iadd dL_law_1020 ?_
  refine la_ld dL_law_1021 (i + 1) (nI_addN i 1) (by omega) hL ?_
  refine y_cV1 dL_law_1022 meX7_image clX7 kd_0 wm_ml_L_131 (kX7_image) ⟨Nat.le_of_ble_eq_true rfl, Nat.le_of_ble_eq_true rfl⟩ ⟨rfl, rfl⟩ (Nat.le_of_ble_eq_true rfl) (fun v1022 μ1022 hp1022 => ?_)
  obtain ⟨rfl, he1022⟩ := hp1022
  replace he1022 := he1022.symm
  subst he1022
  refine y_ri ?_
  refine y_aload_n dL_law_1025 rfl rfl ?_
  refine y_aload_n dL_law_1026 rfl rfl ?_
  refine y_iload_n dL_law_1027 rfl rfl ?_
  refine y_iconst dL_law_1028 ic_1 ?_
  refine y_iadd dL_law_1029 ?_
  refine la_ld dL_law_1030 (i + 1) (nI_addN i 1) (by omega) hL ?_
  refine y_cV1 dL_law_1031 meX8_image clX8 kd_58 wm_ml_L_134 (kX8_image) ⟨Nat.le_of_ble_eq_true rfl, Nat.le_of_ble_eq_true rfl⟩ ⟨rfl, rfl⟩ (Nat.le_of_ble_eq_true rfl) (fun v1031 μ1031 hp1031 => ?_)
  obtain ⟨rfl, he1031⟩ := hp1031
  replace he1031 := he1031.symm
  subst he1031
  refine y_ri ?_
  exact y_icmp_eq 1085 dL_law_1034 (by decide) (fun _ => nx _ (⟨_, _, _, R.2⟩)) (fun hq => absurd (R.1).symm hq)
set_option maxRecDepth 100000 in
set_option maxHeartbeats 4000000 in
theorem lc_restore {l : Launch} {G : GT} {b L : Nat} {xs : Nat → Int32} {i t k c : Nat} {μ : MemT} (hL : L ≤ 448) (hi : i + 7 ≤ L) (h : Rel t k c μ) (nx : ∀ μ2, RelE μ2 → LY l G b L xs i μ2 1085 []) : LY l G b L xs i μ 1039 [] := by
  have R := rl_restore h (xs (i + 1))
  refine y_aload_n dL_law_1039 rfl rfl ?_
  refine y_aload_n dL_law_1040 rfl rfl ?_
  refine y_iload_n dL_law_1041 rfl rfl ?_
  refine y_iconst dL_law_1042 ic_1 ?_
  refine y_iadd dL_law_1043 ?_
  refine la_ld dL_law_1044 (i + 1) (nI_addN i 1) (by omega) hL ?_
  refine y_cV1 dL_law_1045 meX7_restore clX7 kd_0 wm_ml_L_135 (kX7_restore) ⟨Nat.le_of_ble_eq_true rfl, Nat.le_of_ble_eq_true rfl⟩ ⟨rfl, rfl⟩ (Nat.le_of_ble_eq_true rfl) (fun v1045 μ1045 hp1045 => ?_)
  obtain ⟨rfl, he1045⟩ := hp1045
  replace he1045 := he1045.symm
  subst he1045
  refine y_ri ?_
  refine y_aload_n dL_law_1048 rfl rfl ?_
  refine y_aload_n dL_law_1049 rfl rfl ?_
  refine y_iload_n dL_law_1050 rfl rfl ?_
  refine y_iconst dL_law_1051 ic_1 ?_
  refine y_iadd dL_law_1052 ?_
  refine la_ld dL_law_1053 (i + 1) (nI_addN i 1) (by omega) hL ?_
  refine y_cV1 dL_law_1054 meX8_restore clX8 kd_58 wm_ml_L_138 (kX8_restore) ⟨Nat.le_of_ble_eq_true rfl, Nat.le_of_ble_eq_true rfl⟩ ⟨rfl, rfl⟩ (Nat.le_of_ble_eq_true rfl) (fun v1054 μ1054 hp1054 => ?_)
  obtain ⟨rfl, he1054⟩ := hp1054
  replace he1054 := he1054.symm
  subst he1054
  refine y_ri ?_
  exact y_icmp_eq 1085 dL_law_1057 (by decide) (fun _ => nx _ (R.2.elim (fun _ g => g.elim (fun _ g => ⟨_, _, _, g⟩)))) (fun hq => absurd (R.1).symm hq)
set_option maxRecDepth 100000 in
set_option maxHeartbeats 4000000 in
theorem lc_told {l : Launch} {G : GT} {b L : Nat} {xs : Nat → Int32} {i t k c : Nat} {μ : MemT} (hL : L ≤ 448) (hi : i + 7 ≤ L) (h : Rel t k c μ) (nx : ∀ μ2, RelE μ2 → LY l G b L xs i μ2 1085 []) : LY l G b L xs i μ 1062 [] := by
  have R := rl_told h (xs (i + 1))
  refine y_aload_n dL_law_1062 rfl rfl ?_
  refine y_aload_n dL_law_1063 rfl rfl ?_
  refine y_iload_n dL_law_1064 rfl rfl ?_
  refine y_iconst dL_law_1065 ic_1 ?_
  refine y_iadd dL_law_1066 ?_
  refine la_ld dL_law_1067 (i + 1) (nI_addN i 1) (by omega) hL ?_
  refine y_cV1 dL_law_1068 meX7_told clX7 kd_0 wm_ml_L_139 (kX7_told) ⟨Nat.le_of_ble_eq_true rfl, Nat.le_of_ble_eq_true rfl⟩ ⟨rfl, rfl⟩ (Nat.le_of_ble_eq_true rfl) (fun v1068 μ1068 hp1068 => ?_)
  obtain ⟨rfl, he1068⟩ := hp1068
  replace he1068 := he1068.symm
  subst he1068
  refine y_ri ?_
  refine y_aload_n dL_law_1071 rfl rfl ?_
  refine y_aload_n dL_law_1072 rfl rfl ?_
  refine y_iload_n dL_law_1073 rfl rfl ?_
  refine y_iconst dL_law_1074 ic_1 ?_
  refine y_iadd dL_law_1075 ?_
  refine la_ld dL_law_1076 (i + 1) (nI_addN i 1) (by omega) hL ?_
  refine y_cV1 dL_law_1077 meX8_told clX8 kd_58 wm_ml_L_142 (kX8_told) ⟨Nat.le_of_ble_eq_true rfl, Nat.le_of_ble_eq_true rfl⟩ ⟨rfl, rfl⟩ (Nat.le_of_ble_eq_true rfl) (fun v1077 μ1077 hp1077 => ?_)
  obtain ⟨rfl, he1077⟩ := hp1077
  replace he1077 := he1077.symm
  subst he1077
  refine y_ri ?_
  exact y_icmp_eq 1085 dL_law_1080 (by decide) (fun _ => nx _ (⟨_, _, _, h⟩)) (fun hq => absurd (R).symm hq)
set_option maxRecDepth 100000 in
set_option maxHeartbeats 4000000 in
theorem la_sub7 {L : Nat} (hL : L ≤ 448) : (nI L - 7).toInt = (L : Int) - 7 := by
  rw [show (7 : Int32) = nI 7 from rfl, sub_nI (by omega) (by omega)]
  rfl
theorem la_step {l : Launch} {G : GT} {b L : Nat} {xs : Nat → Int32} {i : Nat} {μ : MemT} (hL : L ≤ 448) (hi : i + 7 ≤ L) (hE : RelE μ) (nx : ∀ μ2, RelE μ2 → LY l G b L xs i μ2 1085 []) : LY l G b L xs i μ 27 [] := by
  obtain ⟨t, k, c, h⟩ := hE
  refine y_aload_n dL_law_27 rfl rfl ?_
  refine y_iload_n dL_law_28 rfl rfl ?_
  refine la_ld dL_law_29 i rfl (by omega) hL ?_
  refine y_bipush dL_law_30 ib_31 ?_
  refine y_iand dL_law_32 ?_
  refine y_case 0 (fun _ => ?_) (fun n0 => ?_)
  · refine y_tableIn 168 dL_law_33 (by decide) (by decide) rfl (by decide) ?_
    exact lc_person hL hi h nx
  refine y_case 1 (fun _ => ?_) (fun n1 => ?_)
  · refine y_tableIn 221 dL_law_33 (by decide) (by decide) rfl (by decide) ?_
    exact lc_leave hL hi h nx
  refine y_case 2 (fun _ => ?_) (fun n2 => ?_)
  · refine y_tableIn 244 dL_law_33 (by decide) (by decide) rfl (by decide) ?_
    exact lc_marry hL hi h nx
  refine y_case 3 (fun _ => ?_) (fun n3 => ?_)
  · refine y_tableIn 303 dL_law_33 (by decide) (by decide) rfl (by decide) ?_
    exact lc_limit hL hi h nx
  refine y_case 4 (fun _ => ?_) (fun n4 => ?_)
  · refine y_tableIn 326 dL_law_33 (by decide) (by decide) rfl (by decide) ?_
    exact lc_say hL hi h nx
  refine y_case 5 (fun _ => ?_) (fun n5 => ?_)
  · refine y_tableIn 349 dL_law_33 (by decide) (by decide) rfl (by decide) ?_
    exact lc_wipe hL hi h nx
  refine y_case 6 (fun _ => ?_) (fun n6 => ?_)
  · refine y_tableIn 362 dL_law_33 (by decide) (by decide) rfl (by decide) ?_
    exact lc_fault hL hi h nx
  refine y_case 7 (fun _ => ?_) (fun n7 => ?_)
  · refine y_tableIn 375 dL_law_33 (by decide) (by decide) rfl (by decide) ?_
    exact lc_judge hL hi h nx
  refine y_case 8 (fun _ => ?_) (fun n8 => ?_)
  · refine y_tableIn 398 dL_law_33 (by decide) (by decide) rfl (by decide) ?_
    exact lc_behind hL hi h nx
  refine y_case 9 (fun _ => ?_) (fun n9 => ?_)
  · refine y_tableIn 431 dL_law_33 (by decide) (by decide) rfl (by decide) ?_
    exact lc_done hL hi h nx
  refine y_case 10 (fun _ => ?_) (fun n10 => ?_)
  · refine y_tableIn 444 dL_law_33 (by decide) (by decide) rfl (by decide) ?_
    exact lc_weighs hL hi h nx
  refine y_case 11 (fun _ => ?_) (fun n11 => ?_)
  · refine y_tableIn 467 dL_law_33 (by decide) (by decide) rfl (by decide) ?_
    exact lc_off hL hi h nx
  refine y_case 12 (fun _ => ?_) (fun n12 => ?_)
  · refine y_tableIn 490 dL_law_33 (by decide) (by decide) rfl (by decide) ?_
    exact lc_out hL hi h nx
  refine y_case 13 (fun _ => ?_) (fun n13 => ?_)
  · refine y_tableIn 513 dL_law_33 (by decide) (by decide) rfl (by decide) ?_
    exact lc_even hL hi h nx
  refine y_case 14 (fun _ => ?_) (fun n14 => ?_)
  · refine y_tableIn 546 dL_law_33 (by decide) (by decide) rfl (by decide) ?_
    exact lc_make hL hi h nx
  refine y_case 15 (fun _ => ?_) (fun n15 => ?_)
  · refine y_tableIn 605 dL_law_33 (by decide) (by decide) rfl (by decide) ?_
    exact lc_near hL hi h nx
  refine y_case 16 (fun _ => ?_) (fun n16 => ?_)
  · refine y_tableIn 654 dL_law_33 (by decide) (by decide) rfl (by decide) ?_
    exact lc_gap hL hi h nx
  refine y_case 17 (fun _ => ?_) (fun n17 => ?_)
  · refine y_tableIn 693 dL_law_33 (by decide) (by decide) rfl (by decide) ?_
    exact lc_assize hL hi h nx
  refine y_case 18 (fun _ => ?_) (fun n18 => ?_)
  · refine y_tableIn 716 dL_law_33 (by decide) (by decide) rfl (by decide) ?_
    exact lc_just hL hi h nx
  refine y_case 19 (fun _ => ?_) (fun n19 => ?_)
  · refine y_tableIn 729 dL_law_33 (by decide) (by decide) rfl (by decide) ?_
    exact lc_price hL hi h nx
  refine y_case 20 (fun _ => ?_) (fun n20 => ?_)
  · refine y_tableIn 772 dL_law_33 (by decide) (by decide) rfl (by decide) ?_
    exact lc_seen hL hi h nx
  refine y_case 21 (fun _ => ?_) (fun n21 => ?_)
  · refine y_tableIn 815 dL_law_33 (by decide) (by decide) rfl (by decide) ?_
    exact lc_forget hL hi h nx
  refine y_case 22 (fun _ => ?_) (fun n22 => ?_)
  · refine y_tableIn 828 dL_law_33 (by decide) (by decide) rfl (by decide) ?_
    exact lc_airs hL hi h nx
  refine y_case 23 (fun _ => ?_) (fun n23 => ?_)
  · refine y_tableIn 851 dL_law_33 (by decide) (by decide) rfl (by decide) ?_
    exact lc_air hL hi h nx
  refine y_case 24 (fun _ => ?_) (fun n24 => ?_)
  · refine y_tableIn 874 dL_law_33 (by decide) (by decide) rfl (by decide) ?_
    exact lc_cross hL hi h nx
  refine y_case 25 (fun _ => ?_) (fun n25 => ?_)
  · refine y_tableIn 897 dL_law_33 (by decide) (by decide) rfl (by decide) ?_
    exact lc_chance hL hi h nx
  refine y_case 26 (fun _ => ?_) (fun n26 => ?_)
  · refine y_tableIn 973 dL_law_33 (by decide) (by decide) rfl (by decide) ?_
    exact lc_year hL hi h nx
  refine y_case 27 (fun _ => ?_) (fun n27 => ?_)
  · refine y_tableIn 1016 dL_law_33 (by decide) (by decide) rfl (by decide) ?_
    exact lc_image hL hi h nx
  refine y_case 28 (fun _ => ?_) (fun n28 => ?_)
  · refine y_tableIn 1039 dL_law_33 (by decide) (by decide) rfl (by decide) ?_
    exact lc_restore hL hi h nx
  refine y_case 29 (fun _ => ?_) (fun n29 => ?_)
  · refine y_tableIn 1062 dL_law_33 (by decide) (by decide) rfl (by decide) ?_
    exact lc_told hL hi h nx
  refine y_tableOut 1085 dL_law_33 (sw_out30 n0 n1 n2 n3 n4 n5 n6 n7 n8 n9 n10 n11 n12 n13 n14 n15 n16 n17 n18 n19 n20 n21 n22 n23 n24 n25 n26 n27 n28 n29) (by decide) ?_
  exact nx _ ⟨_, _, _, h⟩
theorem la_loop {l : Launch} {G : GT} {b L : Nat} {xs : Nat → Int32} (hL : L ≤ 448) : ∀ (r i : Nat) (μ : MemT), RelE μ → L < i + 7 * r + 7 → i < 1000 → LY l G b L xs i μ 18 [] := by
  intro r
  induction r with
  | zero =>
    intro i μ hE hb hi
    refine y_iload_n dL_law_18 rfl rfl ?_
    refine y_aload_n dL_law_19 rfl rfl ?_
    refine la_len dL_law_20 ?_
    refine y_bipush dL_law_21 ib_7 ?_
    refine y_isub dL_law_23 ?_
    refine y_icmp_gt 1091 dL_law_24 (by decide) (fun _ => ?_) (fun hq => ?_)
    · refine y_iconst dL_law_1091 ic_1 ?_
      exact la_ret dL_law_1092
    · exfalso
      rw [lt_toInt, la_sub7 hL, nI_toInt (by omega)] at hq
      omega
  | succ r ih =>
    intro i μ hE hb hi
    refine y_iload_n dL_law_18 rfl rfl ?_
    refine y_aload_n dL_law_19 rfl rfl ?_
    refine la_len dL_law_20 ?_
    refine y_bipush dL_law_21 ib_7 ?_
    refine y_isub dL_law_23 ?_
    refine y_icmp_gt 1091 dL_law_24 (by decide) (fun _ => ?_) (fun hq => ?_)
    · refine y_iconst dL_law_1091 ic_1 ?_
      exact la_ret dL_law_1092
    · rw [lt_toInt, la_sub7 hL, nI_toInt (by omega)] at hq
      refine la_step hL (by omega) hE (fun μ2 h2 => ?_)
      refine y_iinc (v := nI (i + 7)) dL_law_1085 rfl (nI_addN i 7) rfl (by decide) ?_
      refine y_goto 18 dL_law_1088 (by decide) ?_
      exact ih (i + 7) μ2 h2 (by omega) (by omega)
