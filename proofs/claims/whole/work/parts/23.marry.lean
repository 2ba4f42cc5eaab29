/-! sums, marriages, days to come -/
def smN (f : Nat → Nat) : Nat → Nat → Nat
  | 0, _ => 0
  | n + 1, j => f j + smN f n (j + 1)
theorem itr_smN {step : Nat → Int32 → Int32} {f : Nat → Nat} (h : ∀ j a, step j (nI a) = nI (a + f j)) : ∀ (n j a : Nat), itr step n j (nI a) = nI (a + smN f n j) := by
  intro n
  induction n with
  | zero => intro j a; rfl
  | succ n ih => intro j a; rw [itr_S, h, ih, smN, Nat.add_assoc]
theorem itr_smN' {step : Nat → Int32 → Int32} {f : Nat → Nat} {N : Nat} (h : ∀ j a, j < N → step j (nI a) = nI (a + f j)) : ∀ (n j a : Nat), j + n = N → itr step n j (nI a) = nI (a + smN f n j) := by
  intro n
  induction n with
  | zero => intro j a _; rfl
  | succ n ih => intro j a hN; rw [itr_S, h j a (by omega), ih _ _ (by omega), smN, Nat.add_assoc]
theorem smN_cong {f g : Nat → Nat} : ∀ (n j : Nat), (∀ i, j ≤ i → i < j + n → f i = g i) → smN f n j = smN g n j := by
  intro n
  induction n with
  | zero => intro j _; rfl
  | succ n ih => intro j h; rw [smN, smN, h j (by omega) (by omega), ih (j + 1) (fun i h1 h2 => h i (by omega) (by omega))]
theorem smN_le {f g : Nat → Nat} : ∀ (n j : Nat), (∀ i, j ≤ i → i < j + n → f i ≤ g i) → smN f n j ≤ smN g n j := by
  intro n
  induction n with
  | zero => intro j _; exact Nat.le_refl _
  | succ n ih => intro j h; rw [smN, smN]; exact Nat.add_le_add (h j (by omega) (by omega)) (ih (j + 1) (fun i h1 h2 => h i (by omega) (by omega)))
theorem smN_lt {f g : Nat → Nat} : ∀ (n j i0 : Nat), (∀ i, j ≤ i → i < j + n → f i ≤ g i) → j ≤ i0 → i0 < j + n → f i0 < g i0 → smN f n j < smN g n j := by
  intro n
  induction n with
  | zero => intro j i0 _ h1 h2; omega
  | succ n ih =>
    intro j i0 h h1 h2 h3
    rw [smN, smN]
    by_cases e : i0 = j
    · subst e
      exact Nat.add_lt_add_of_lt_of_le h3 (smN_le n _ (fun i h1 h2 => h i (by omega) (by omega)))
    · exact Nat.add_lt_add_of_le_of_lt (h j (by omega) (by omega)) (ih (j + 1) i0 (fun i h1 h2 => h i (by omega) (by omega)) (by omega) (by omega) h3)
theorem itr_ptw {step : Nat → (Nat → Int32) → Nat → Int32} {g : Nat → Int32 → Int32} (h : ∀ p w, step p w = upd w p (g p (w p))) : ∀ (n j : Nat) (w : Nat → Int32) (i : Nat), itr step n j w i = if j ≤ i ∧ i < j + n then g i (w i) else w i := by
  intro n
  induction n with
  | zero => intro j w i; rw [itr_0, if_neg (by omega)]
  | succ n ih =>
    intro j w i
    rw [itr_S, ih, h]
    by_cases e : i = j
    · subst e
      rw [if_neg (by omega), if_pos (by omega), upd_self]
    · rw [upd_ne _ _ e]
      by_cases c : j ≤ i ∧ i < j + (n + 1)
      · rw [if_pos c, if_pos (by omega)]
      · rw [if_neg c, if_neg (by omega)]
theorem bd_dr (d w : Int32) : bdI (w + d) = drf d w := by
  unfold bdI drf
  generalize w + d = z
  have e1 : (1 : Int32).toInt = 1 := rfl
  have e4 : (400 : Int32).toInt = 400 := rfl
  by_cases h1 : z < 400
  · have t1 := lt_toInt.mp h1
    rw [if_pos h1]
    by_cases h2 : 1 < z
    · have t2 := lt_toInt.mp h2
      rw [if_pos h2, if_pos (le_toInt.mpr (by omega)), if_pos (le_toInt.mpr (by omega))]
    · have t2 : ¬ (1 : Int32).toInt < z.toInt := fun q => h2 (lt_toInt.mpr q)
      rw [if_neg h2]
      by_cases h3 : 1 ≤ z
      · have t3 := le_toInt.mp h3
        rw [if_pos h3, if_pos (le_toInt.mpr (by omega))]
        exact Int32.toInt_inj.mp (by omega)
      · rw [if_neg h3]
  · have t1 : ¬ z.toInt < (400 : Int32).toInt := fun q => h1 (lt_toInt.mpr q)
    rw [if_neg h1, if_pos (show (1 : Int32) < 400 by decide), if_pos (le_toInt.mpr (by omega))]
    by_cases h3 : z ≤ 400
    · have t3 := le_toInt.mp h3
      rw [if_pos h3]
      exact Int32.toInt_inj.mp (by omega)
    · rw [if_neg h3]
theorem bdW_at {d w : Nat → Int32} {p : Nat} (hp : p < 8) : bdW d w p = drf (d p) (w p) := by
  unfold bdW
  rw [itr_ptw (g := fun p x => bdI (x + d p)) (fun _ _ => rfl), if_pos (by omega), bd_dr]
theorem bfW_at {w : Nat → Int32} {p : Nat} (hp : p < 8) : bfW w p = bdI (w p + 5) := by
  unfold bfW
  rw [itr_ptw (g := fun _ x => bdI (x + 5)) (fun _ _ => rfl), if_pos (by omega)]
theorem cpW_at {w h : Nat → Int32} {p : Nat} (hp : p < 8) : cpW w h p = w p := by
  unfold cpW
  rw [itr_ptw (g := fun p _ => w p) (fun _ _ => rfl), if_pos (by omega)]
theorem pdW_at {t : Int32} {d w : Nat → Int32} {p : Nat} (hp : p < 8) : pdW t d w p = if bt t p then drf (d p) (w p) else w p := by
  unfold pdW
  rw [itr_ptw (g := fun p x => if bt t p then drf (d p) x else x) (fun p w => by
    by_cases c : bt t p = true
    · rw [if_pos c, if_pos c]
    · rw [if_neg c, if_neg c, upd_id]), if_pos (by omega)]
theorem feW_at {t : Int32} {w : Nat → Int32} {p : Nat} (hp : p < 8) : feW t w p = if bt t p then (if w p + 5 < 400 then w p + 5 else 400) else w p := by
  unfold feW
  rw [itr_ptw (g := fun p x => if bt t p then (if x + 5 < 400 then x + 5 else 400) else x) (fun p w => by
    by_cases c : bt t p = true
    · rw [if_pos c, if_pos c]
    · rw [if_neg c, if_neg c, upd_id]), if_pos (by omega)]
theorem inR_of {x : Int32} {a b : Int} (h : inR x a b = true) : a ≤ x.toInt ∧ x.toInt ≤ b := of_decide_eq_true h
theorem drf_in (d w : Int32) : inR (drf d w) 1 400 = true := by
  rw [← bd_dr]
  unfold bdI
  have e1 : (1 : Int32).toInt = 1 := rfl
  have e4 : (400 : Int32).toInt = 400 := rfl
  by_cases h1 : (1 : Int32) ≤ w + d
  · rw [if_pos h1]
    by_cases h2 : w + d ≤ 400
    · rw [if_pos h2]
      exact inR_t (by have := le_toInt.mp h1; omega) (by have := le_toInt.mp h2; omega)
    · rw [if_neg h2]; decide
  · rw [if_neg h1]; decide
theorem fe_bd {w : Int32} (h : inR w 1 400 = true) : bdI (w + 5) = (if w + 5 < 400 then w + 5 else 400) ∧ inR (bdI (w + 5)) 1 400 = true := by
  have hh := inR_of h
  have e5 : (w + 5).toInt = w.toInt + 5 := by
    rw [Int32.toInt_add, show (5 : Int32).toInt = 5 from rfl]
    exact Int.bmod_eq_of_le (by omega) (by omega)
  have e1 : (1 : Int32).toInt = 1 := rfl
  have e4 : (400 : Int32).toInt = 400 := rfl
  have h1 : (1 : Int32) ≤ w + 5 := le_toInt.mpr (by omega)
  unfold bdI
  rw [if_pos h1]
  by_cases h2 : w + 5 < 400
  · have h3 : w + 5 ≤ 400 := le_toInt.mpr (by have := lt_toInt.mp h2; omega)
    rw [if_pos h3, if_pos h2]
    exact ⟨rfl, inR_t (by omega) (by have := lt_toInt.mp h2; omega)⟩
  · rw [if_neg h2]
    by_cases h3 : w + 5 ≤ 400
    · rw [if_pos h3]
      have : w + 5 = 400 := Int32.toInt_inj.mp (by have t1 : ¬ (w + 5).toInt < (400 : Int32).toInt := fun q => h2 (lt_toInt.mpr q); have := le_toInt.mp h3; omega)
      rw [this]
      exact ⟨rfl, by decide⟩
    · rw [if_neg h3]
      exact ⟨rfl, by decide⟩
/-! the model's keeping and putting back -/
def FrK (μ m : MemT) : Prop := (∀ r, r ≠ 58 → r ≠ 60 → (r < 67 ∨ 73 < r) → m r = μ r) ∧ (∀ f, (f = 0 ∨ f = 2 ∨ f = 11 ∨ f = 13) → m 58 f = μ 58 f) ∧ (∀ p, p < 8 → m 71 p = μ 60 p) ∧ m 58 24 = μ 58 1 ∧ m 58 25 = μ 58 3
theorem frK_keep (μ : MemT) : FrK μ (mKeep μ) := by
  refine ⟨fun r h1 h2 h3 => ?_, fun f hf => ?_, fun p hp => ?_, rfl, rfl⟩
  · rw [mKeep, mset_ne _ _ h1, mset_ne _ _ (by omega)]
  · rw [mKeep, mset_self, upd_ne _ _ (by omega), upd_ne _ _ (by omega)]
  · exact cpW_at hp
theorem frK_day {μ m : MemT} (h : FrK μ m) : FrK μ (mDay m) := by
  refine ⟨fun r h1 h2 h3 => ?_, fun f hf => ?_, fun p hp => ?_, ?_, ?_⟩
  · rw [mDay, mset_ne _ _ h1, mset_ne _ _ h2]; exact h.1 r h1 h2 h3
  · rw [mDay, mset_self, upd_ne _ _ (by omega)]; exact h.2.1 f hf
  · exact h.2.2.1 p hp
  · exact h.2.2.2.1
  · exact h.2.2.2.2
theorem rl_back {t k c : Nat} {μ : MemT} (h : Rel t k c μ) {m : MemT} (hF : FrK μ m) : Rel t k c (mBack m) := by
  have g : ∀ r, r ≠ 58 → r ≠ 60 → (r < 67 ∨ 73 < r) → mBack m r = μ r := fun r h1 h2 h3 => by
    rw [mBack, mset_ne _ _ h1, mset_ne _ _ h2]; exact hF.1 r h1 h2 h3
  refine rl_cong h (g 2 (by decide) (by decide) (by decide)) (g 78 (by decide) (by decide) (by decide)) (g 77 (by decide) (by decide) (by decide)) (by rw [g 3 (by decide) (by decide) (by decide)]) (g 4 (by decide) (by decide) (by decide)) (g 66 (by decide) (by decide) (by decide)) (fun r h1 h2 => g r (by omega) (by omega) (by omega)) (fun r h1 h2 p hp => ?_) (fun f hf => ?_) (by rw [g 7 (by decide) (by decide) (by decide)]; exact rl_z7 h) (by rw [g 8 (by decide) (by decide) (by decide)]; exact rl_z8 h) (by rw [g 9 (by decide) (by decide) (by decide)]; exact rl_z9 h)
  · by_cases e : r = 60
    · subst e
      show cpW (m 71) (m 60) p = μ 60 p
      rw [cpW_at hp]; exact hF.2.2.1 p hp
    · rw [g r (by omega) e (by omega)]
  · show upd (upd (m 58) 1 (m 58 24)) 3 (m 58 25) f = μ 58 f
    by_cases e3 : f = 3
    · subst e3; rw [upd_self]; exact hF.2.2.2.2
    · rw [upd_ne _ _ e3]
      by_cases e1 : f = 1
      · subst e1; rw [upd_self]; exact hF.2.2.2.1
      · rw [upd_ne _ _ e1]; exact hF.2.1 f (by omega)
theorem abI_le {x l : Int32} : abI x ≤ l ↔ ¬ l < abI x := by rw [le_toInt, lt_toInt]; omega
theorem nI_nn {j : Nat} (h : j < 2 ^ 31) : 0 ≤ nI j := le_toInt.mpr (by rw [nI_toInt h, ti_0]; omega)
theorem moR_eq {p : Nat} (hp : p < 8) (μ : MemT) : ∀ (n j : Nat) (m : MemT), j + n ≤ 100 → FrK μ m → (moR p n j (-6) m).1 = fdoR (m 58 1) p (m 59 p) (m 61 p) (m 58 2) n j (m 60 p) ∧ FrK μ (moR p n j (-6) m).2 := by
  intro n
  induction n with
  | zero => intro j m _ hF; exact ⟨rfl, hF⟩
  | succ n ih =>
    intro j m hj hF
    rw [moR, if_neg (by decide), fdoR]
    by_cases c : m 58 2 < abI (wc (m 58 1) (nI p) (m 60 p) - m 59 p)
    · rw [if_neg (by rw [abI_le]; exact fun q => q c), if_pos c, moR_stop _ _ _ _ (nI_nn (by omega))]
      exact ⟨rfl, frK_day hF⟩
    · rw [if_pos (abI_le.mpr c), if_neg c]
      obtain ⟨a, b⟩ := ih (j + 1) (mDay m) (by omega) (frK_day hF)
      refine ⟨a.trans ?_, b⟩
      show fdoR (m 58 1) p (m 59 p) (m 61 p) (m 58 2) n (j + 1) (bdW (m 61) (m 60) p) = _
      rw [bdW_at hp]
theorem meR_eq {p q : Nat} (hp : p < 8) (hq : q < 8) (μ : MemT) : ∀ (n j : Nat) (m : MemT), j + n ≤ 100 → FrK μ m → (meR p q n j (-6) m).1 = fdaR (m 58 1) p q (m 61 p) (m 61 q) n j (m 60 p) (m 60 q) ∧ FrK μ (meR p q n j (-6) m).2 := by
  intro n
  induction n with
  | zero => intro j m _ hF; exact ⟨rfl, hF⟩
  | succ n ih =>
    intro j m hj hF
    rw [meR, if_neg (by decide), fdaR]
    by_cases c : wc (m 58 1) (nI p) (m 60 p) = wc (m 58 1) (nI q) (m 60 q)
    · rw [if_pos c, if_pos c, meR_stop _ _ _ _ _ (nI_nn (by omega))]
      exact ⟨rfl, frK_day hF⟩
    · rw [if_neg c, if_neg c]
      obtain ⟨a, b⟩ := ih (j + 1) (mDay m) (by omega) (frK_day hF)
      refine ⟨a.trans ?_, b⟩
      show fdaR (m 58 1) p q (m 61 p) (m 61 q) n (j + 1) (bdW (m 61) (m 60) p) (bdW (m 61) (m 60) q) = _
      rw [bdW_at hp, bdW_at hq]
theorem rl_out {t k c : Nat} {μ : MemT} (h : Rel t k c μ) (x : Int32) : (mOut x μ).1 = xOut x μ ∧ Rel t k c (mOut x μ).2 := by
  have h0 := h
  have hz := h
  obtain ⟨⟨q_ht, q_hk, q_aps, q_bps, q_cd, q_lm, q_lmr, q_dy, q_asg, q_bsg, q_sw, q_wt, q_dr, q_sp, q_si, q_sd⟩, ⟨s_hc, s_ac, s_bc, s_si⟩, u_i0, u_i1, u_z7, u_z8, u_z9⟩ := hz
  have e1 : μ 58 0 = nI t := q_bps
  have e2 : μ 18 7 = nI t := q_aps
  by_cases hp : isP (nI t) x = true
  · obtain ⟨p, hp8, rfl, hpb⟩ := isP_ex hp
    rw [mOut, xOut, e1, e2, if_neg (by rw [hp]; decide), if_pos hp, cl_8 hp8]
    obtain ⟨a, b⟩ := moR_eq hp8 μ 100 0 (mKeep μ) (by decide) (frK_keep μ)
    refine ⟨a.trans ?_, rl_back h0 b⟩
    show fdoR (μ 58 1) p (μ 59 p) (μ 61 p) (μ 58 2) 100 0 (μ 60 p) = _
    have e3 : μ 18 8 = μ 58 1 := q_cd
    have e4 : μ 18 9 = μ 58 2 := q_lm
    have f1 : μ 19 p = μ 59 p := (q_sw p hp8 hpb).1
    have f2 : μ 20 p = μ 60 p := (q_wt p hp8 hpb).1
    have f3 : μ 21 p = μ 61 p := (q_dr p hp8 hpb).1
    rw [e3, e4, f1, f2, f3]
  · rw [mOut, xOut, e1, e2, if_pos (by simpa using hp), if_neg hp]
    exact ⟨rfl, h0⟩
theorem two_ex {u x y : Int32} (h : (isP u x && isP u y && !decide (x = y)) = true) : ∃ p q : Nat, p < 8 ∧ q < 8 ∧ p ≠ q ∧ x = nI p ∧ y = nI q ∧ bt u p = true ∧ bt u q = true := by
  rw [Bool.and_eq_true, Bool.and_eq_true] at h
  obtain ⟨p, hp, rfl, hpb⟩ := isP_ex h.1.1
  obtain ⟨q, hq, rfl, hqb⟩ := isP_ex h.1.2
  refine ⟨p, q, hp, hq, fun e => ?_, rfl, rfl, hpb, hqb⟩
  subst e
  simp at h
theorem rl_even {t k c : Nat} {μ : MemT} (h : Rel t k c μ) (x y : Int32) : (mEven x y μ).1 = xEven x y μ ∧ Rel t k c (mEven x y μ).2 := by
  have h0 := h
  have hz := h
  obtain ⟨⟨q_ht, q_hk, q_aps, q_bps, q_cd, q_lm, q_lmr, q_dy, q_asg, q_bsg, q_sw, q_wt, q_dr, q_sp, q_si, q_sd⟩, ⟨s_hc, s_ac, s_bc, s_si⟩, u_i0, u_i1, u_z7, u_z8, u_z9⟩ := hz
  have e1 : μ 58 0 = nI t := q_bps
  have e2 : μ 18 7 = nI t := q_aps
  by_cases hp : (isP (nI t) x && isP (nI t) y && !decide (x = y)) = true
  · obtain ⟨p, q, hp8, hq8, hpq, rfl, rfl, hpb, hqb⟩ := two_ex hp
    rw [mEven, xEven, e1, e2, if_neg (by rw [hp]; decide), if_neg (by rw [hp]; decide), cl_8 hp8, cl_8 hq8]
    obtain ⟨a, b⟩ := meR_eq hp8 hq8 μ 100 0 (mKeep μ) (by decide) (frK_keep μ)
    refine ⟨a.trans ?_, rl_back h0 b⟩
    show fdaR (μ 58 1) p q (μ 61 p) (μ 61 q) 100 0 (μ 60 p) (μ 60 q) = _
    have e3 : μ 18 8 = μ 58 1 := q_cd
    have f2 : μ 20 p = μ 60 p := (q_wt p hp8 hpb).1
    have f3 : μ 21 p = μ 61 p := (q_dr p hp8 hpb).1
    have g2 : μ 20 q = μ 60 q := (q_wt q hq8 hqb).1
    have g3 : μ 21 q = μ 61 q := (q_dr q hq8 hqb).1
    rw [e3, f2, f3, g2, g3]
  · rw [mEven, xEven, e1, e2, if_pos (by simpa using hp), if_pos (by simpa using hp)]
    exact ⟨rfl, h0⟩
/-! marriages -/
def aaN (x : Int32) (q : Nat) : Nat := if x = nI q then 1 else 0
theorem aa_s : ∀ s, s < 8 → (1 : Nat) = aaN (nI s) 0 + (aaN (nI s) 1 + (aaN (nI s) 2 + (aaN (nI s) 3 + (aaN (nI s) 4 + (aaN (nI s) 5 + (aaN (nI s) 6 + aaN (nI s) 7)))))) := by decide
def abN (p : Nat) (x : Int32) (q : Nat) : Nat := if p < q then aaN x q else 0
theorem ab_s : ∀ p, p < 8 → ∀ s, s < 8 → (if nI s ≤ nI p then 0 else 1) = abN p (nI s) 0 + (abN p (nI s) 1 + (abN p (nI s) 2 + (abN p (nI s) 3 + (abN p (nI s) 4 + (abN p (nI s) 5 + (abN p (nI s) 6 + abN p (nI s) 7)))))) := by decide
theorem ab_n : ∀ p, p < 8 → (if (-6 : Int32) ≤ nI p then 0 else 1) = abN p (-6) 0 + (abN p (-6) 1 + (abN p (-6) 2 + (abN p (-6) 3 + (abN p (-6) 4 + (abN p (-6) 5 + (abN p (-6) 6 + abN p (-6) 7)))))) := by decide
theorem half_n : ∀ n, n < 9 → nI n / 2 = nI (n / 2) := by decide
def fB (sp : Nat → Int32) (p : Nat) : Nat := if sp p = -6 then 0 else 1
def fM (sp : Nat → Int32) (p : Nat) : Nat := if sp p ≤ nI p then 0 else 1
theorem marB_n (sp : Nat → Int32) : marB sp = nI (smN (fB sp) 8 0) := by
  unfold marB
  have := itr_smN (step := fun p s => if sp p = -6 then s else s + 1) (f := fB sp) (fun j a => by
    by_cases c : sp j = -6
    · simp only [c, fB, if_true]; rfl
    · simp only [c, fB, if_false]; exact nI_1 a) 8 0 0
  rw [show (0 : Int32) = nI 0 from rfl, this, Nat.zero_add]
theorem marM_n (sp : Nat → Int32) : marM sp = nI (smN (fM sp) 8 0) := by
  unfold marM
  have := itr_smN (step := fun p s => if sp p ≤ nI p then s else s + 1) (f := fM sp) (fun j a => by
    by_cases c : sp j ≤ nI j
    · simp only [c, fM, if_true]; rfl
    · simp only [c, fM, if_false]; exact nI_1 a) 8 0 0
  rw [show (0 : Int32) = nI 0 from rfl, this, Nat.zero_add]
theorem fB_a {t : Nat} {sp : Nat → Int32} {p : Nat} (h : spOk t sp p) : fB sp p = aaN (sp p) 0 + (aaN (sp p) 1 + (aaN (sp p) 2 + (aaN (sp p) 3 + (aaN (sp p) 4 + (aaN (sp p) 5 + (aaN (sp p) 6 + aaN (sp p) 7)))))) := by
  unfold fB
  rcases h with h | ⟨q, hq, -, h3, -⟩
  · rw [h]; decide
  · rw [h3, if_neg (nI_n6 q hq)]; exact aa_s q hq
theorem fM_a {t : Nat} {sp : Nat → Int32} {p : Nat} (hp : p < 8) (h : spOk t sp p) : fM sp p = abN p (sp p) 0 + (abN p (sp p) 1 + (abN p (sp p) 2 + (abN p (sp p) 3 + (abN p (sp p) 4 + (abN p (sp p) 5 + (abN p (sp p) 6 + abN p (sp p) 7)))))) := by
  unfold fM
  rcases h with h | ⟨q, hq, -, h3, -⟩
  · rw [h]; exact ab_n p hp
  · rw [h3]; exact ab_s p hp q hq
theorem aa_sym {t : Nat} {sp : Nat → Int32} (h : ∀ p, p < 8 → spOk t sp p) {p q : Nat} (hp : p < 8) (hq : q < 8) : aaN (sp p) q = aaN (sp q) p := by
  have key : ∀ p q, p < 8 → q < 8 → sp p = nI q → sp q = nI p := fun p q hp hq e => by
    rcases h p hp with g | ⟨s, hs, -, g3, g4, -⟩
    · exact absurd (e.symm.trans g) (nI_n6 q hq)
    · have : s = q := (nI_eq (by omega) (by omega)).mp (g3.symm.trans e)
      rw [← this]; exact g4
  unfold aaN
  by_cases c : sp p = nI q
  · rw [if_pos c, if_pos (key p q hp hq c)]
  · rw [if_neg c, if_neg (fun e => c (key q p hq hp e))]
theorem aa_dia {t : Nat} {sp : Nat → Int32} {p : Nat} (hp : p < 8) (h : spOk t sp p) : aaN (sp p) p = 0 := by
  unfold aaN
  refine if_neg (fun e => ?_)
  rcases h with g | ⟨s, hs, hn, g3, -⟩
  · exact nI_n6 p hp (e.symm.trans g)
  · exact hn ((nI_eq (by omega) (by omega)).mp (g3.symm.trans e))
theorem mar_eq {t : Nat} {sp : Nat → Int32} (h : ∀ p, p < 8 → spOk t sp p) : marB sp / 2 = marM sp := by
  rw [marB_n, marM_n]
  have hb : ∀ p, fB sp p ≤ 1 := fun p => by unfold fB; split <;> omega
  have e : smN (fB sp) 8 0 = 2 * smN (fM sp) 8 0 := by
    simp only [smN]
    rw [fB_a (h 0 (by decide)), fB_a (h 1 (by decide)), fB_a (h 2 (by decide)), fB_a (h 3 (by decide)), fB_a (h 4 (by decide)), fB_a (h 5 (by decide)), fB_a (h 6 (by decide)), fB_a (h 7 (by decide))]
    rw [fM_a (by decide) (h 0 (by decide)), fM_a (by decide) (h 1 (by decide)), fM_a (by decide) (h 2 (by decide)), fM_a (by decide) (h 3 (by decide)), fM_a (by decide) (h 4 (by decide)), fM_a (by decide) (h 5 (by decide)), fM_a (by decide) (h 6 (by decide)), fM_a (by decide) (h 7 (by decide))]
    simp only [abN, Nat.reduceLT, if_true, if_false, Nat.reduceAdd]
    have s01 := aa_sym h (show 0 < 8 by decide) (show 1 < 8 by decide)
    have s02 := aa_sym h (show 0 < 8 by decide) (show 2 < 8 by decide)
    have s03 := aa_sym h (show 0 < 8 by decide) (show 3 < 8 by decide)
    have s04 := aa_sym h (show 0 < 8 by decide) (show 4 < 8 by decide)
    have s05 := aa_sym h (show 0 < 8 by decide) (show 5 < 8 by decide)
    have s06 := aa_sym h (show 0 < 8 by decide) (show 6 < 8 by decide)
    have s07 := aa_sym h (show 0 < 8 by decide) (show 7 < 8 by decide)
    have s12 := aa_sym h (show 1 < 8 by decide) (show 2 < 8 by decide)
    have s13 := aa_sym h (show 1 < 8 by decide) (show 3 < 8 by decide)
    have s14 := aa_sym h (show 1 < 8 by decide) (show 4 < 8 by decide)
    have s15 := aa_sym h (show 1 < 8 by decide) (show 5 < 8 by decide)
    have s16 := aa_sym h (show 1 < 8 by decide) (show 6 < 8 by decide)
    have s17 := aa_sym h (show 1 < 8 by decide) (show 7 < 8 by decide)
    have s23 := aa_sym h (show 2 < 8 by decide) (show 3 < 8 by decide)
    have s24 := aa_sym h (show 2 < 8 by decide) (show 4 < 8 by decide)
    have s25 := aa_sym h (show 2 < 8 by decide) (show 5 < 8 by decide)
    have s26 := aa_sym h (show 2 < 8 by decide) (show 6 < 8 by decide)
    have s27 := aa_sym h (show 2 < 8 by decide) (show 7 < 8 by decide)
    have s34 := aa_sym h (show 3 < 8 by decide) (show 4 < 8 by decide)
    have s35 := aa_sym h (show 3 < 8 by decide) (show 5 < 8 by decide)
    have s36 := aa_sym h (show 3 < 8 by decide) (show 6 < 8 by decide)
    have s37 := aa_sym h (show 3 < 8 by decide) (show 7 < 8 by decide)
    have s45 := aa_sym h (show 4 < 8 by decide) (show 5 < 8 by decide)
    have s46 := aa_sym h (show 4 < 8 by decide) (show 6 < 8 by decide)
    have s47 := aa_sym h (show 4 < 8 by decide) (show 7 < 8 by decide)
    have s56 := aa_sym h (show 5 < 8 by decide) (show 6 < 8 by decide)
    have s57 := aa_sym h (show 5 < 8 by decide) (show 7 < 8 by decide)
    have s67 := aa_sym h (show 6 < 8 by decide) (show 7 < 8 by decide)
    have d0 := aa_dia (show 0 < 8 by decide) (h 0 (by decide))
    have d1 := aa_dia (show 1 < 8 by decide) (h 1 (by decide))
    have d2 := aa_dia (show 2 < 8 by decide) (h 2 (by decide))
    have d3 := aa_dia (show 3 < 8 by decide) (h 3 (by decide))
    have d4 := aa_dia (show 4 < 8 by decide) (h 4 (by decide))
    have d5 := aa_dia (show 5 < 8 by decide) (h 5 (by decide))
    have d6 := aa_dia (show 6 < 8 by decide) (h 6 (by decide))
    have d7 := aa_dia (show 7 < 8 by decide) (h 7 (by decide))
    omega
  have hle : smN (fB sp) 8 0 ≤ smN (fun _ => 1) 8 0 := smN_le 8 0 (fun i _ _ => hb i)
  have h8 : smN (fun _ => 1) 8 0 = 8 := rfl
  rw [half_n _ (by omega), e]
  congr 1
  omega
theorem sp_cong {t : Nat} {sp sp2 : Nat → Int32} (he : ∀ p, p < 8 → sp2 p = sp p) {p : Nat} (hp : p < 8) (h : spOk t sp p) : spOk t sp2 p := by
  rcases h with g | ⟨s, hs, hn, g3, g4, g5⟩
  · exact Or.inl (by rw [he p hp]; exact g)
  · exact Or.inr ⟨s, hs, hn, by rw [he p hp]; exact g3, by rw [he s hs]; exact g4, g5⟩
theorem jn_eq {t p q : Nat} {a b : Nat → Int32} (hp : p < 8) (hq : q < 8) (hpq : p ≠ q) (hpb : bt (nI t) p = true) (hqb : bt (nI t) q = true) (hs : ∀ r, r < 8 → a r = b r ∧ spOk t a r) (hc : a p = nI q ∨ (a p = -6 ∧ a q = -6)) : ∀ r, r < 8 → upd (upd a p (nI q)) q (nI p) r = upd (upd (ptM p b) p (nI q)) q (nI p) r ∧ spOk t (upd (upd a p (nI q)) q (nI p)) r := by
  intro r hr
  by_cases hrq : r = q
  · subst hrq
    refine ⟨by rw [upd_self, upd_self], Or.inr ⟨p, hp, hpq, by rw [upd_self], by rw [upd_ne _ _ hpq, upd_self], hqb, hpb⟩⟩
  · by_cases hrp : r = p
    · subst hrp
      refine ⟨by rw [upd_ne _ _ hrq, upd_ne _ _ hrq, upd_self, upd_self], Or.inr ⟨q, hq, Ne.symm hrq, by rw [upd_ne _ _ hrq, upd_self], by rw [upd_self], hpb, hqb⟩⟩
    · rw [upd_ne _ _ hrq, upd_ne _ _ hrp, upd_ne _ _ hrq, upd_ne _ _ hrp]
      have hap : b p = a p := ((hs p hp).1).symm
      have e : ptM p b r = b r := by
        rw [ptM, upd_ne _ _ hrp, hap]
        rcases hc with hc | ⟨hc, -⟩
        · rw [hc, if_neg (nI_n0 q hq), cl_8 hq, upd_ne _ _ hrq]
        · rw [hc, if_pos (by decide)]
      refine ⟨by rw [e]; exact (hs r hr).1, ?_⟩
      rcases (hs r hr).2 with g | ⟨s, g1, g2, g3, g4, g5, g6⟩
      · exact Or.inl (by rw [upd_ne _ _ hrq, upd_ne _ _ hrp]; exact g)
      · have hsp : s ≠ p := fun e2 => by
          rw [e2] at g4
          rcases hc with hc | ⟨hc, -⟩
          · exact hrq ((nI_eq (by omega) (by omega)).mp (g4.symm.trans hc))
          · exact nI_n6 r hr (g4.symm.trans hc)
        have hsq : s ≠ q := fun e2 => by
          rw [e2] at g4
          rcases hc with hc | ⟨-, hc⟩
          · rcases (hs p hp).2 with k | ⟨u, k1, k2, k3, k4, -⟩
            · exact nI_n6 q hq (hc.symm.trans k)
            · have : u = q := (nI_eq (by omega) (by omega)).mp (k3.symm.trans hc)
              rw [this] at k4
              exact hrp ((nI_eq (by omega) (by omega)).mp (g4.symm.trans k4))
          · exact nI_n6 r hr (g4.symm.trans hc)
        exact Or.inr ⟨s, g1, g2, by rw [upd_ne _ _ hrq, upd_ne _ _ hrp]; exact g3, by rw [upd_ne _ _ hsq, upd_ne _ _ hsp]; exact g4, g5, g6⟩
theorem up_eq {t p q : Nat} {a b : Nat → Int32} (hp : p < 8) (hq : q < 8) (hpq : p ≠ q) (hs : ∀ r, r < 8 → a r = b r ∧ spOk t a r) (hc : a p = nI q) : ∀ r, r < 8 → ptW (nI t) p a r = upd (upd (ptM p b) p (-6)) q (-6) r ∧ spOk t (ptW (nI t) p a) r := by
  intro r hr
  have h1 := (pt_eq hp hs r hr).1
  have h2 := (pt_eq hp hs r hr).2 t (fun _ _ h _ => h)
  refine ⟨?_, h2⟩
  have hap : b p = a p := ((hs p hp).1).symm
  rw [h1, ptM, hap, hc, if_neg (nI_n0 q hq), cl_8 hq]
  by_cases hrq : r = q
  · subst hrq; rw [upd_self, upd_ne _ _ (Ne.symm hpq), upd_self]
  · rw [upd_ne (upd _ p _) _ hrq]
    by_cases hrp : r = p
    · subst hrp; rw [upd_self, upd_self]
    · rw [upd_ne _ _ hrp, upd_ne _ _ hrp, upd_ne _ _ hrp]
theorem rl_marry {t k c : Nat} {μ : MemT} (h : Rel t k c μ) (x y : Int32) (B : Bool) : (mMarry x y B (xMarry x y B μ).2).1 = (xMarry x y B μ).1 ∧ Rel t k c (mMarry x y B (xMarry x y B μ).2).2 := by
  have h0 := h
  have hz := h
  obtain ⟨⟨q_ht, q_hk, q_aps, q_bps, q_cd, q_lm, q_lmr, q_dy, q_asg, q_bsg, q_sw, q_wt, q_dr, q_sp, q_si, q_sd⟩, ⟨s_hc, s_ac, s_bc, s_si⟩, u_i0, u_i1, u_z7, u_z8, u_z9⟩ := hz
  have e1 : μ 58 0 = nI t := q_bps
  have e2 : μ 18 7 = nI t := q_aps
  by_cases hp : (isP (nI t) x && isP (nI t) y && !decide (x = y)) = true
  · obtain ⟨p, q, hp8, hq8, hpq, rfl, rfl, hpb, hqb⟩ := two_ex hp
    have hs : ∀ r, r < 8 → μ 22 r = μ 62 r ∧ spOk t (μ 22) r := q_sp
    have f1 : μ 62 p = μ 22 p := (hs p hp8).1.symm
    have f2 : μ 62 q = μ 22 q := (hs q hq8).1.symm
    have nn : ∀ r, r < 8 → (0 ≤ μ 22 r ↔ ¬ μ 22 r = -6) := fun r hr => by
      rcases (hs r hr).2 with g | ⟨s, g1, g2, g3, g4, g5, g6⟩
      · rw [g]; decide
      · rw [g3]; exact ⟨fun _ => nI_n6 s g1, fun _ => nI_nn (by omega)⟩
    cases B with
    | true =>
      by_cases hm : mmS p q (μ 22) = true
      · have hc : μ 22 p = nI q ∨ (μ 22 p = -6 ∧ μ 22 q = -6) := by simpa [mmS] using hm
        have j1 := jn_eq hp8 hq8 hpq hpb hqb hs hc
        have e3 : xMarry (nI p) (nI q) true μ = (marB (twJoin 18 p q μ 22) / 2, twJoin 18 p q μ) := by
          rw [xMarry, e2, if_neg (by rw [hp]; decide), if_pos rfl, cl_8 hp8, cl_8 hq8, if_pos hm]
        rw [e3]
        have e4 : ∀ m : MemT, m 58 = μ 58 → m 62 = μ 62 → mMarry (nI p) (nI q) true m = (marM (upd (upd (ptM p (μ 62)) p (nI q)) q (nI p)), mset m 62 (upd (upd (ptM p (μ 62)) p (nI q)) q (nI p))) := fun m hm1 hm2 => by
          rw [mMarry, hm1, hm2, e1, if_neg (by rw [hp]; decide), cl_8 hp8, cl_8 hq8, if_neg, mJoin, mset_self, hm2]
          · rfl
          · intro ⟨n1, n2⟩
            rw [f1] at n1
            rw [f1, f2] at n2
            rcases hc with hc | ⟨hc1, hc2⟩
            · exact n1 hc
            · rw [hc1, hc2] at n2
              revert n2; decide
        show (mMarry (nI p) (nI q) true (twJoin 18 p q μ)).1 = marB (twJoin 18 p q μ 22) / 2 ∧ Rel t k c (mMarry (nI p) (nI q) true (twJoin 18 p q μ)).2
        rw [e4 (twJoin 18 p q μ) rfl rfl]
        have hrow : ∀ r, r < 8 → twJoin 18 p q μ 22 r = upd (upd (ptM p (μ 62)) p (nI q)) q (nI p) r ∧ spOk t (twJoin 18 p q μ 22) r := j1
        refine ⟨?_, ⟨⟨q_ht, q_hk, q_aps, q_bps, q_cd, q_lm, q_lmr, q_dy, q_asg, q_bsg, q_sw, q_wt, q_dr, hrow, q_si, q_sd⟩, ⟨s_hc, s_ac, s_bc, s_si⟩, u_i0, u_i1, u_z7, u_z8, u_z9⟩⟩
        have hS : ∀ r, r < 8 → spOk t (upd (upd (ptM p (μ 62)) p (nI q)) q (nI p)) r := fun r hr => sp_cong (fun s hs2 => (j1 s hs2).1.symm) hr (j1 r hr).2
        show marM _ = marB _ / 2
        rw [mar_eq (fun r hr => (hrow r hr).2)]
        exact itr_cong 8 0 0 (fun r s _ hr => by rw [(j1 r (by omega)).1.symm]; rfl)
      · have hc : ¬ (μ 22 p = nI q ∨ (μ 22 p = -6 ∧ μ 22 q = -6)) := by simpa [mmS] using hm
        have e3 : xMarry (nI p) (nI q) true μ = (-3, μ) := by
          rw [xMarry, e2, if_neg (by rw [hp]; decide), if_pos rfl, cl_8 hp8, cl_8 hq8, if_neg hm]
        have e4 : mMarry (nI p) (nI q) true μ = (-3, μ) := by
          rw [mMarry, e1, if_neg (by rw [hp]; decide), cl_8 hp8, cl_8 hq8, if_pos]
          rw [f1, f2, nn p hp8, nn q hq8]
          refine ⟨fun e => hc (Or.inl e), Or.inr ?_⟩
          by_cases g : μ 22 p = -6
          · exact Or.inr (fun e => hc (Or.inr ⟨g, e⟩))
          · exact Or.inl g
        rw [e3, e4]
        exact ⟨rfl, h0⟩
    | false =>
      by_cases hm : μ 22 p = nI q
      · have j1 := up_eq (b := μ 62) hp8 hq8 hpq hs hm
        have e3 : xMarry (nI p) (nI q) false μ = (marB (twPart 18 p μ 22) / 2, twPart 18 p μ) := by
          rw [xMarry, e2, if_neg (by rw [hp]; decide), if_neg (by decide), cl_8 hp8, if_pos hm]
        rw [e3]
        have e4 : ∀ m : MemT, m 58 = μ 58 → m 62 = μ 62 → mMarry (nI p) (nI q) false m = (marM (upd (upd (ptM p (μ 62)) p (-6)) q (-6)), mset m 62 (upd (upd (ptM p (μ 62)) p (-6)) q (-6))) := fun m hm1 hm2 => by
          rw [mMarry, hm1, hm2, e1, if_neg (by rw [hp]; decide), cl_8 hp8, cl_8 hq8, if_neg, mJoin, mset_self, hm2]
          · rfl
          · intro ⟨n1, _⟩
            exact n1 (by rw [f1]; exact hm)
        show (mMarry (nI p) (nI q) false (twPart 18 p μ)).1 = marB (twPart 18 p μ 22) / 2 ∧ Rel t k c (mMarry (nI p) (nI q) false (twPart 18 p μ)).2
        rw [e4 (twPart 18 p μ) rfl rfl]
        have hrow : ∀ r, r < 8 → twPart 18 p μ 22 r = upd (upd (ptM p (μ 62)) p (-6)) q (-6) r ∧ spOk t (twPart 18 p μ 22) r := by
          show ∀ r, r < 8 → ptW (μ 18 7) p (μ 22) r = _ ∧ spOk t (ptW (μ 18 7) p (μ 22)) r
          rw [e2]
          exact j1
        refine ⟨?_, ⟨⟨q_ht, q_hk, q_aps, q_bps, q_cd, q_lm, q_lmr, q_dy, q_asg, q_bsg, q_sw, q_wt, q_dr, hrow, q_si, q_sd⟩, ⟨s_hc, s_ac, s_bc, s_si⟩, u_i0, u_i1, u_z7, u_z8, u_z9⟩⟩
        show marM _ = marB _ / 2
        rw [mar_eq (fun r hr => (hrow r hr).2)]
        exact itr_cong 8 0 0 (fun r s _ hr => by rw [(hrow r (by omega)).1.symm])
      · have e3 : xMarry (nI p) (nI q) false μ = (-3, μ) := by
          rw [xMarry, e2, if_neg (by rw [hp]; decide), if_neg (by decide), cl_8 hp8, if_neg hm]
        have e4 : mMarry (nI p) (nI q) false μ = (-3, μ) := by
          rw [mMarry, e1, if_neg (by rw [hp]; decide), cl_8 hp8, cl_8 hq8, if_pos]
          rw [f1]
          exact ⟨hm, Or.inl rfl⟩
        rw [e3, e4]
        exact ⟨rfl, h0⟩
  · have e3 : xMarry x y B μ = (-1, μ) := by rw [xMarry, e2, if_pos (by simpa using hp)]
    have e4 : mMarry x y B μ = (-1, μ) := by rw [mMarry, e1, if_pos (by simpa using hp)]
    rw [e3, e4]
    exact ⟨rfl, h0⟩

