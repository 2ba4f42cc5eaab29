/-! the assize; just -/
theorem smN_add (f g : Nat → Nat) : ∀ (n j : Nat), smN (fun q => f q + g q) n j = smN f n j + smN g n j := by
  intro n
  induction n with
  | zero => intro j; rfl
  | succ n ih => intro j; simp only [smN]; rw [ih]; omega
theorem smN_one (p x : Nat) : ∀ (n j : Nat), smN (fun q => if q = p then x else 0) n j = if j ≤ p ∧ p < j + n then x else 0 := by
  intro n
  induction n with
  | zero => intro j; rw [smN, if_neg (by omega)]
  | succ n ih =>
    intro j
    rw [smN, ih]
    by_cases e : j = p
    · subst e
      rw [if_pos rfl, if_neg (by omega), if_pos (by omega)]
      rfl
    · rw [if_neg e]
      by_cases c : j ≤ p ∧ p < j + (n + 1)
      · rw [if_pos c, if_pos (by omega), Nat.zero_add]
      · rw [if_neg c, if_neg (by omega)]
theorem wc_n {c x w : Int32} (h : inR w 1 400 = true) : ∃ v, 1 ≤ v ∧ v ≤ 400 ∧ wc c x w = nI v := by
  have hh := inR_of h
  obtain ⟨n, hn, rfl⟩ := inR_ex (x := w) (n := 400) (inR_t (by omega) (by omega))
  rw [nI_toInt (by omega)] at hh
  unfold wc
  by_cases c : bitI c x = true
  · rw [if_pos c]
    refine ⟨n - n / 10, by omega, by omega, ?_⟩
    rw [show (10 : Int32) = nI 10 from rfl, nI_div (by omega) (by decide) (by decide), nI_sub (Nat.div_le_self _ _)]
  · rw [if_neg c]
    exact ⟨n, by omega, hn, rfl⟩
theorem nJ_lt {a b : Nat} (ha : a < 2 ^ 31) (hb : b < 2 ^ 31) : nI a < nI b ↔ a < b := by
  rw [lt_toInt, nI_toInt ha, nI_toInt hb]; omega
theorem nJ_le {a b : Nat} (ha : a < 2 ^ 31) (hb : b < 2 ^ 31) : nI a ≤ nI b ↔ a ≤ b := by
  rw [le_toInt, nI_toInt ha, nI_toInt hb]; omega
def aN (t : Nat) (V : Nat → Nat) (v p q : Nat) : Nat := if bt (nI t) q && (decide (v < V q) || (decide (V q = v) && decide (q < p))) then 1 else 0
def rN (t : Nat) (V : Nat → Nat) (v p : Nat) : Nat := smN (aN t V v p) 8 0
theorem aN_le (t : Nat) (V : Nat → Nat) (v p q : Nat) : aN t V v p q ≤ 1 := by unfold aN; split <;> omega
theorem rN_le (t : Nat) (V : Nat → Nat) (v p : Nat) : rN t V v p ≤ 8 := by
  have h1 : rN t V v p ≤ smN (fun _ => 1) 8 0 := smN_le 8 0 (fun q _ _ => aN_le _ _ _ _ _)
  exact h1
theorem rN_S (t : Nat) (V : Nat → Nat) (v : Nat) {p : Nat} (hp : p < 8) : rN t V v (p + 1) = rN t V v p + (if bt (nI t) p && decide (V p = v) then 1 else 0) := by
  have e : ∀ q, aN t V v (p + 1) q = aN t V v p q + (if q = p then (if bt (nI t) p && decide (V p = v) then 1 else 0) else 0) := by
    intro q
    unfold aN
    by_cases hq : q = p
    · subst hq
      rw [if_pos rfl]
      cases bt (nI t) q
      · simp
      · by_cases h1 : V q = v
        · simp [h1]
        · simp [h1]
    · rw [if_neg hq, show decide (q < p + 1) = decide (q < p) from by simp only [decide_eq_decide]; omega]
      rfl
  unfold rN
  rw [show aN t V v (p + 1) = fun q => aN t V v p q + (if q = p then (if bt (nI t) p && decide (V p = v) then 1 else 0) else 0) from funext e, smN_add, smN_one, if_pos (by omega)]
theorem rN_8 (t : Nat) (V : Nat → Nat) (v : Nat) : rN t V (v + 1) 8 = rN t V v 0 := by
  unfold rN
  refine smN_cong 8 0 (fun q _ hq => ?_)
  unfold aN
  have : (decide (v + 1 < V q) || (decide (V q = v + 1) && decide (q < 8))) = (decide (v < V q) || (decide (V q = v) && decide (q < 0))) := by
    rw [Bool.eq_iff_iff]
    simp only [Bool.or_eq_true, Bool.and_eq_true, decide_eq_true_eq]
    omega
  rw [this]
/-- two who are there never stand at one place -/
theorem rN_inj {t : Nat} {V : Nat → Nat} {p q : Nat} (hp : p < 8) (hq : q < 8) (hpb : bt (nI t) p = true) (hqb : bt (nI t) q = true) (h : rN t V (V p) p = rN t V (V q) q) : p = q := by
  have key : ∀ p q, p < 8 → bt (nI t) p = true → (V q < V p ∨ (V p = V q ∧ p < q)) → rN t V (V p) p < rN t V (V q) q := by
    intro p q hp hpb ho
    refine smN_lt 8 0 p (fun r _ _ => ?_) (Nat.zero_le _) (by omega) ?_
    · unfold aN
      by_cases c : (bt (nI t) r && (decide (V p < V r) || (decide (V r = V p) && decide (r < p)))) = true
      · rw [if_pos c, if_pos]
        · exact Nat.le_refl _
        · simp only [Bool.and_eq_true, Bool.or_eq_true, decide_eq_true_eq] at c ⊢
          refine ⟨c.1, ?_⟩
          omega
      · rw [if_neg c]; exact Nat.zero_le _
    · unfold aN
      rw [if_neg (by simp), if_pos]
      · decide
      · simp only [hpb, Bool.true_and, Bool.or_eq_true, Bool.and_eq_true, decide_eq_true_eq]
        omega
  rcases Nat.lt_trichotomy p q with hlt | he | hlt
  · rcases Nat.lt_trichotomy (V p) (V q) with h1 | h1 | h1
    · have := key q p hq hqb (Or.inl h1); omega
    · have := key p q hp hpb (Or.inr ⟨h1, hlt⟩); omega
    · have := key p q hp hpb (Or.inl h1); omega
  · exact he
  · rcases Nat.lt_trichotomy (V p) (V q) with h1 | h1 | h1
    · have := key q p hq hqb (Or.inl h1); omega
    · have := key q p hq hqb (Or.inr ⟨h1.symm, hlt⟩); omega
    · have := key p q hp hpb (Or.inl h1); omega
theorem fnd_none {c : Nat → Bool} : ∀ (n j : Nat), (∀ q, j ≤ q → q < j + n → c q = false) → fnd c n j = none := by
  intro n
  induction n with
  | zero => intro j _; rfl
  | succ n ih => intro j h; rw [fnd_f _ (h j (by omega) (by omega))]; exact ih (j + 1) (fun q a b => h q (by omega) (by omega))
theorem fnd_uni {c : Nat → Bool} {p : Nat} : ∀ (n j : Nat), j ≤ p → p < j + n → c p = true → (∀ q, j ≤ q → q < j + n → c q = true → q = p) → fnd c n j = some p := by
  intro n
  induction n with
  | zero => intro j h1 h2; omega
  | succ n ih =>
    intro j h1 h2 hp h
    by_cases e : j = p
    · subst e; exact fnd_t _ hp
    · have hc : c j = false := by
        cases hc : c j
        · rfl
        · exact absurd (h j (by omega) (by omega) hc) e
      rw [fnd_f _ hc]
      exact ih (j + 1) (by omega) (by omega) hp (fun q a b => h q (by omega) (by omega))
theorem asI_eq {t : Nat} {c : Int32} {w : Nat → Int32} {V : Nat → Nat} {i : Int32} (hV : ∀ p, p < 8 → bt (nI t) p = true → wc c (nI p) (w p) = nI (V p) ∧ 1 ≤ V p ∧ V p ≤ 400) {v : Nat} (hv : v ≤ 400) : ∀ (m p : Nat), p + m = 8 → (∃ q, q < 8 ∧ bt (nI t) q = true ∧ V q = v ∧ nI (rN t V v q) = i ∧ asI (nI t) c w i (nI v) m p (nI (rN t V v p)) = .inl (nI q)) ∨ (asI (nI t) c w i (nI v) m p (nI (rN t V v p)) = .inr (nI (rN t V v 8)) ∧ ∀ q, p ≤ q → q < 8 → bt (nI t) q = true → V q = v → nI (rN t V v q) ≠ i) := by
  intro m
  induction m with
  | zero => intro p hp; right; have : p = 8 := by omega
            subst this; exact ⟨rfl, fun q h1 h2 => by omega⟩
  | succ m ih =>
    intro p hp
    rw [asI]
    have hS := rN_S t V v (p := p) (by omega)
    by_cases hb : (bt (nI t) p && decide (wc c (nI p) (w p) = nI v)) = true
    · rw [if_pos hb]
      rw [Bool.and_eq_true, decide_eq_true_eq] at hb
      obtain ⟨e1, e2, e3⟩ := hV p (by omega) hb.1
      have hVp : V p = v := (nI_eq (by omega) (by omega)).mp (e1.symm.trans hb.2)
      rw [hb.1, hVp] at hS
      simp only [decide_true, Bool.and_self, if_true] at hS
      by_cases hi : nI (rN t V v p) = i
      · left
        rw [if_pos hi]
        exact ⟨p, by omega, hb.1, hVp, hi, rfl⟩
      · rw [if_neg hi, nI_1, ← hS]
        rcases ih (p + 1) (by omega) with h | ⟨h1, h2⟩
        · exact Or.inl h
        · refine Or.inr ⟨h1, fun q a b hqb hqv => ?_⟩
          by_cases e : q = p
          · subst e; exact hi
          · exact h2 q (by omega) b hqb hqv
    · rw [if_neg hb]
      have hno : ¬ (bt (nI t) p = true ∧ V p = v) := fun ⟨g1, g2⟩ => hb (by
        rw [Bool.and_eq_true, decide_eq_true_eq]
        exact ⟨g1, by rw [(hV p (by omega) g1).1, g2]⟩)
      have hS2 : rN t V v (p + 1) = rN t V v p := by
        rw [hS, if_neg]
        · rfl
        · intro q
          rw [Bool.and_eq_true, decide_eq_true_eq] at q
          exact hno q
      rw [← hS2]
      rcases ih (p + 1) (by omega) with h | ⟨h1, h2⟩
      · exact Or.inl h
      · refine Or.inr ⟨h1, fun q a b hqb hqv => ?_⟩
        by_cases e : q = p
        · subst e; exact absurd ⟨hqb, hqv⟩ hno
        · exact h2 q (by omega) b hqb hqv
theorem asO_eq {t : Nat} {c : Int32} {w : Nat → Int32} {V : Nat → Nat} {i : Int32} (hV : ∀ p, p < 8 → bt (nI t) p = true → wc c (nI p) (w p) = nI (V p) ∧ 1 ≤ V p ∧ V p ≤ 400) : ∀ (m : Nat), m ≤ 400 → (∀ q, q < 8 → bt (nI t) q = true → m < V q → nI (rN t V (V q) q) ≠ i) → asO (nI t) c w i m (nI (rN t V m 0)) = if i = -1 then nI (rN t V 0 0) else opI (fnd (fun p => bt (nI t) p && decide (nI (rN t V (V p) p) = i)) 8 0) := by
  intro m
  induction m with
  | zero =>
    intro _ h
    rw [asO]
    by_cases hi : i = -1
    · rw [if_pos hi, if_pos hi]
    · rw [if_neg hi, if_neg hi, fnd_none]
      · rfl
      · intro q _ hq
        rw [Bool.and_eq_false_iff]
        by_cases hb : bt (nI t) q = true
        · right
          exact decide_eq_false (h q (by omega) hb (by have := (hV q (by omega) hb).2.1; omega))
        · left; simpa using hb
  | succ m ih =>
    intro hm h
    rw [asO]
    rcases asI_eq (i := i) hV (v := m + 1) hm 8 0 rfl with ⟨q, hq, hqb, hqv, hqi, e⟩ | ⟨e, h2⟩
    · rw [e]
      have hn1 : i ≠ -1 := by
        rw [← hqi]
        intro z
        have := congrArg Int32.toInt z
        rw [nI_toInt (by have := rN_le t V (m + 1) q; omega), show (-1 : Int32).toInt = -1 from rfl] at this
        omega
      rw [if_neg hn1, fnd_uni (p := q) 8 0 (Nat.zero_le _) (by omega)]
      · rfl
      · rw [hqb, hqv, hqi]; simp
      · intro r _ hr hc
        rw [Bool.and_eq_true, decide_eq_true_eq] at hc
        refine rN_inj (V := V) (by omega) hq hc.1 hqb ?_
        have e2 := hc.2.trans hqi.symm
        rw [← hqv] at e2
        exact (nI_eq (by have := rN_le t V (V r) r; omega) (by have := rN_le t V (V q) q; omega)).mp e2
    · rw [e]
      show asO (nI t) c w i m (nI (rN t V (m + 1) 8)) = _
      rw [rN_8]
      refine ih (by omega) (fun q hq hqb hlt => ?_)
      by_cases e2 : V q = m + 1
      · rw [e2]; exact h2 q (Nat.zero_le _) hq hqb e2
      · exact h q hq hqb (by omega)
theorem ahe_eq {t : Nat} {c : Int32} {w : Nat → Int32} {V : Nat → Nat} (hV : ∀ p, p < 8 → bt (nI t) p = true → wc c (nI p) (w p) = nI (V p) ∧ 1 ≤ V p ∧ V p ≤ 400) {p : Nat} (hp : p < 8) (hpb : bt (nI t) p = true) : aheB (nI t) c w p = nI (rN t V (V p) p) := by
  unfold aheB rN
  have := itr_smN' (step := fun q s => if aheP (nI t) c w p q then s + 1 else s) (f := aN t V (V p) p) (N := 8) (fun q a hq => by
    have e : aheP (nI t) c w p q = (bt (nI t) q && (decide (V p < V q) || (decide (V q = V p) && decide (q < p)))) := by
      unfold aheP
      cases hb : bt (nI t) q
      · rfl
      · obtain ⟨e1, e2, e3⟩ := hV p hp hpb
        obtain ⟨f1, f2, f3⟩ := hV q hq hb
        rw [e1, f1]
        rw [show decide (nI (V p) < nI (V q)) = decide (V p < V q) from by rw [decide_eq_decide]; exact nJ_lt (by omega) (by omega)]
        rw [show decide (nI (V q) = nI (V p)) = decide (V q = V p) from by rw [decide_eq_decide]; exact nI_eq (by omega) (by omega)]
    show (if aheP (nI t) c w p q then nI a + 1 else nI a) = nI (a + aN t V (V p) p q)
    rw [e]
    unfold aN
    split
    · exact nI_1 a
    · rfl) 8 0 0 rfl
  rw [show (0 : Int32) = nI 0 from rfl, this, Nat.zero_add]
theorem fnd_cg {c d : Nat → Bool} (n j : Nat) (h : ∀ k, j ≤ k → k < j + n → c k = d k) : fnd c n j = fnd d n j := fnd_cong n j h
theorem rl_assize {t k c : Nat} {μ : MemT} (h : Rel t k c μ) (i : Int32) : asO (μ 58 0) (μ 58 1) (μ 60) i 400 0 = xAssize i μ := by
  have h0 := h
  have hz := h
  obtain ⟨⟨q_ht, q_hk, q_aps, q_bps, q_cd, q_lm, q_lmr, q_dy, q_asg, q_bsg, q_sw, q_wt, q_dr, q_sp, q_si, q_sd⟩, ⟨s_hc, s_ac, s_bc, s_si⟩, u_i0, u_i1, u_z7, u_z8, u_z9⟩ := hz
  have e1 : μ 58 0 = nI t := q_bps
  have e2 : μ 18 7 = nI t := q_aps
  have e3 : μ 18 8 = μ 58 1 := q_cd
  have hw : ∀ p, p < 8 → bt (nI t) p = true → μ 20 p = μ 60 p ∧ inR (μ 20 p) 1 400 = true := q_wt
  have hV : ∀ p, p < 8 → bt (nI t) p = true → wc (μ 58 1) (nI p) (μ 60 p) = nI (cl (wc (μ 58 1) (nI p) (μ 60 p))) ∧ 1 ≤ cl (wc (μ 58 1) (nI p) (μ 60 p)) ∧ cl (wc (μ 58 1) (nI p) (μ 60 p)) ≤ 400 := fun p hp hb => by
    obtain ⟨v, v1, v2, v3⟩ := wc_n (c := μ 58 1) (x := nI p) (hw p hp hb).2
    rw [(hw p hp hb).1] at v3
    rw [v3, cl_n (by omega)]
    exact ⟨rfl, v1, v2⟩
  generalize hVd : (fun p => cl (wc (μ 58 1) (nI p) (μ 60 p))) = V
  have hV2 : ∀ p, p < 8 → bt (nI t) p = true → wc (μ 58 1) (nI p) (μ 60 p) = nI (V p) ∧ 1 ≤ V p ∧ V p ≤ 400 := by rw [← hVd]; exact hV
  have z400 : rN t V 400 0 = 0 := by
    have e : smN (aN t V 400 0) 8 0 = smN (fun _ => 0) 8 0 := smN_cong 8 0 (fun q _ hq => by
      unfold aN
      rw [if_neg]
      intro z
      rw [Bool.and_eq_true] at z
      have := (hV2 q (by omega) z.1).2.2
      simp at z
      omega)
    exact e
  have key := asO_eq (i := i) hV2 400 (Nat.le_refl _) (fun q hq hb hlt => by have := (hV2 q hq hb).2.2; omega)
  rw [z400] at key
  rw [e1, show (0 : Int32) = nI 0 from rfl, key, xAssize, e2, e3]
  by_cases hi : i = -1
  · rw [if_pos hi, if_pos hi, (mk_bc t q_ht).1]
    congr 1
    unfold pc
    have : ∀ (n j a : Nat), j + n = 8 → itr (fun p n => if t.testBit p then n + 1 else n) n j a = a + smN (aN t V 0 0) n j := by
      intro n
      induction n with
      | zero => intro j a _; rfl
      | succ n ih =>
        intro j a hj
        rw [itr_S, ih (j + 1) _ (by omega), smN]
        have hb := mk_bt t q_ht j (by omega)
        unfold aN
        by_cases c : t.testBit j = true
        · have := (hV2 j (by omega) (hb.trans c)).2.1
          simp only [c, hb, if_true, Bool.true_and]
          rw [if_pos (by simp; omega)]
          omega
        · have c0 : t.testBit j = false := by simpa using c
          simp only [c0, hb, Bool.false_and]
          simp
    unfold rN
    rw [this 8 0 0 rfl, Nat.zero_add]
  · rw [if_neg hi, if_neg hi]
    unfold rankB
    congr 1
    refine fnd_cong 8 0 (fun p _ hp => ?_)
    by_cases hb : bt (nI t) p = true
    · rw [hb]
      have hV3 : ∀ p, p < 8 → bt (nI t) p = true → wc (μ 58 1) (nI p) (μ 20 p) = nI (V p) ∧ 1 ≤ V p ∧ V p ≤ 400 := fun p hp hb => by rw [(hw p hp hb).1]; exact hV2 p hp hb
      rw [ahe_eq hV3 (by omega) hb]
    · have hb0 : bt (nI t) p = false := by simpa using hb
      rw [hb0]; rfl
theorem rl_just {t k c : Nat} {μ : MemT} (h : Rel t k c μ) : mJust μ = xJust μ := by
  have h0 := h
  have hz := h
  obtain ⟨⟨q_ht, q_hk, q_aps, q_bps, q_cd, q_lm, q_lmr, q_dy, q_asg, q_bsg, q_sw, q_wt, q_dr, q_sp, q_si, q_sd⟩, ⟨s_hc, s_ac, s_bc, s_si⟩, u_i0, u_i1, u_z7, u_z8, u_z9⟩ := hz
  have e1 : μ 58 0 = nI t := q_bps
  have e2 : μ 18 7 = nI t := q_aps
  have e3 : μ 18 8 = μ 58 1 := q_cd
  have hw : ∀ p, p < 8 → bt (nI t) p = true → μ 20 p = μ 60 p ∧ inR (μ 20 p) 1 400 = true := q_wt
  have hcount : ∀ (d : Nat → Bool), itr (fun q s => if d q then s + 1 else s) 8 0 (0 : Int32) = nI (smN (fun q => if d q then 1 else 0) 8 0) := fun d => by
    have := itr_smN (step := fun q s => if d q then s + 1 else s) (f := fun q => if d q then 1 else 0) (fun q a => by
      show (if d q then nI a + 1 else nI a) = nI (a + if d q then 1 else 0)
      split
      · exact nI_1 a
      · rfl) 8 0 0
    rw [show (0 : Int32) = nI 0 from rfl, this, Nat.zero_add]
  have hlj : ∀ p, p < 8 → bt (nI t) p = true → likB (nI t) (μ 58 1) (μ 20) p = juB (nI t) (μ 58 1) (μ 60) p := fun p hp hb => by
    unfold likB juB
    refine itr_cong 8 0 0 (fun q s _ hq => ?_)
    rw [hb]
    cases hb2 : bt (nI t) q
    · rfl
    · rw [(hw p hp hb).1, (hw q (by omega) hb2).1, Bool.true_and, Bool.true_and, Bool.true_and]
      rw [show decide (wc (μ 58 1) (nI q) (μ 60 q) = wc (μ 58 1) (nI p) (μ 60 p)) = decide (wc (μ 58 1) (nI p) (μ 60 p) = wc (μ 58 1) (nI q) (μ 60 q)) from by rw [decide_eq_decide]; exact eq_comm]
  have hj0 : ∀ p, bt (nI t) p = false → juB (nI t) (μ 58 1) (μ 60) p = 0 := fun p hb => by
    unfold juB
    rw [hb]
    rfl
  have hln : ∀ p, ∃ u, u ≤ 8 ∧ likB (nI t) (μ 58 1) (μ 20) p = nI u := fun p => by
    refine ⟨_, ?_, hcount (fun q => bt (nI t) q && decide (wc (μ 58 1) (nI q) (μ 20 q) = wc (μ 58 1) (nI p) (μ 20 p)))⟩
    exact smN_le (g := fun _ => 1) 8 0 (fun q _ _ => by split <;> omega)
  rw [mJust, xJust, mostB, e1, e2, e3]
  have key : ∀ (n j u : Nat), j + n = 8 → u < 2 ^ 31 → itr (fun p s => if juB (nI t) (μ 58 1) (μ 60) p ≤ s then s else juB (nI t) (μ 58 1) (μ 60) p) n j (nI u) = itr (fun p s => if bt (nI t) p then (if s < likB (nI t) (μ 58 1) (μ 20) p then likB (nI t) (μ 58 1) (μ 20) p else s) else s) n j (nI u) := by
    intro n
    induction n with
    | zero => intro j u _ _; rfl
    | succ n ih =>
      intro j u hj hu
      rw [itr_S, itr_S]
      by_cases hb : bt (nI t) j = true
      · rw [if_pos hb, ← hlj j (by omega) hb]
        obtain ⟨v, hv, ev⟩ := hln j
        rw [ev]
        by_cases c : v ≤ u
        · rw [if_pos ((nJ_le (by omega) hu).mpr c), if_neg (by rw [nJ_lt hu (by omega)]; omega)]
          exact ih (j + 1) u (by omega) hu
        · rw [if_neg (by rw [nJ_le (by omega) hu]; omega), if_pos ((nJ_lt hu (by omega)).mpr (by omega))]
          exact ih (j + 1) v (by omega) (by omega)
      · rw [if_neg hb, hj0 j (by simpa using hb), if_pos (nI_nn hu)]
        exact ih (j + 1) u (by omega) hu
  exact key 8 0 0 rfl (by decide)
/-! bits of a pan -/
theorem bt_lsb : ∀ {x : Int32} {p : Nat}, p < 8 → bt x p = x.toBitVec.getLsbD p := by
  intro x p hp
  have hs : ∀ n, n < 8 → ((nI n &&& 31).toBitVec.smod 32).toNat = n := by decide +kernel
  have e1 : (x >>> (nI p &&& 31)).toBitVec = x.toBitVec.sshiftRight p := by
    show x.toBitVec.sshiftRight' ((nI p &&& 31).toBitVec.smod 32) = _
    rw [BitVec.sshiftRight_eq', hs p hp]
  have e2 : (x >>> (nI p &&& 31) &&& 1).toBitVec = (BitVec.ofBool ((x >>> (nI p &&& 31)).toBitVec.getLsbD 0)).setWidth 32 := by
    rw [Int32.toBitVec_and]; exact BitVec.and_one_eq_setWidth_ofBool_getLsbD
  have e3 : (x >>> (nI p &&& 31)).toBitVec.getLsbD 0 = x.toBitVec.getLsbD p := by
    rw [e1, BitVec.getLsbD_sshiftRight, if_pos (by omega)]
    simp
  rw [e3] at e2
  show decide (x >>> (nI p &&& 31) &&& 1 = 1) = _
  cases hb : x.toBitVec.getLsbD p
  · rw [hb] at e2
    refine decide_eq_false (fun q => ?_)
    rw [q] at e2
    revert e2
    decide
  · rw [hb] at e2
    refine decide_eq_true (Int32.toBitVec_inj.mp ?_)
    rw [e2]
    decide
theorem bt_and {x y : Int32} {p : Nat} (hp : p < 8) : bt (x &&& y) p = (bt x p && bt y p) := by
  rw [bt_lsb hp, bt_lsb hp, bt_lsb hp, Int32.toBitVec_and, BitVec.getLsbD_and]
theorem bt_orI {x y : Int32} {p : Nat} (hp : p < 8) : bt (x ||| y) p = (bt x p || bt y p) := by
  rw [bt_lsb hp, bt_lsb hp, bt_lsb hp, Int32.toBitVec_or, BitVec.getLsbD_or]
theorem bt_dis {x y : Int32} (h : x &&& y = 0) {p : Nat} (hp : p < 8) : ¬ (bt x p = true ∧ bt y p = true) := by
  intro ⟨h1, h2⟩
  have := bt_and (x := x) (y := y) hp
  rw [h, h1, h2] at this
  revert this
  rw [bt_lsb hp]
  simp

