/-! the market: sign by sign, and act by act -/
theorem isL_ex {x : Int32} (h : isL x = true) : ∃ p, p < 8 ∧ x - 65 = nI p ∧ bitL x = nI (2 ^ p) := by
  have hh := inR_of h
  have e : (x - 65).toInt = x.toInt - 65 := by
    rw [Int32.toInt_sub, show (65 : Int32).toInt = 65 from rfl]
    exact Int.bmod_eq_of_le (by omega) (by omega)
  obtain ⟨p, hp, hx⟩ := inR_ex (x := x - 65) (n := 7) (inR_t (by omega) (by omega))
  refine ⟨p, by omega, hx, ?_⟩
  rw [bitL, hx, mk_shl p (by omega)]
def dOk (d : Int32) : Prop := d = 0 ∨ d = 1 ∨ d = 2 ∨ d = 3 ∨ d = 4
theorem n20 : ¬ (2 : Int32) = 0 := by decide
theorem n10 : ¬ (1 : Int32) = 0 := by decide
theorem n30 : ¬ (3 : Int32) = 0 := by decide
theorem n40 : ¬ (4 : Int32) = 0 := by decide
theorem n60 : (-6 : Int32) < 0 := by decide
theorem n36 : ¬ (-3 : Int32) = -6 := by decide
theorem n56 : ¬ (-5 : Int32) = -6 := by decide
theorem isL_42 : isL 42 = false := by decide
theorem isL_46 : isL 46 = false := by decide
theorem isL_94 : isL 94 = false := by decide
theorem isL_124 : isL 124 = false := by decide
theorem isL_59 : isL 59 = false := by decide
theorem ps_aft {d x : Int32} (w : PsT) (hd : dOk d) : (aft d x = 5 ∧ (psStep d x w).1 = -6) ∨ (aft d x ≠ 5 ∧ (psStep d x w).1 = aft d x ∧ dOk (aft d x)) := by
  rcases hd with rfl | rfl | rfl | rfl | rfl
  · by_cases h1 : x = 42
    · subst h1; right; simp [aft, aftN, psStep, psBegin, kindC, dOk]
    · by_cases h2 : x = 46
      · subst h2; right; simp [aft, aftN, psStep, psBegin, kindC, dOk]
      · by_cases h3 : x = 94
        · subst h3; right; simp [aft, aftN, psStep, psBegin, kindC, dOk]
        · by_cases h4 : x = 124
          · subst h4; right; simp [aft, aftN, psStep, psBegin, kindC, psNear, dOk]
          · by_cases h5 : isL x = true
            · right; simp [aft, aftN, psStep, psBegin, kindC, psNear, dOk, h1, h2, h3, h4, h5]
            · left; simp [aft, aftN, psStep, psBegin, kindC, psNear, h1, h2, h3, h4, h5]
  · by_cases h4 : x = 124
    · subst h4; right; simp [aft, psStep, psNear, dOk, isL_124]
    · by_cases h5 : isL x = true
      · right; simp [aft, psStep, psNear, dOk, h4, h5]
      · left; simp [aft, psStep, psNear, h4, h5]
  · by_cases h5 : isL x = true
    · right; simp [aft, psStep, psAcross, dOk, h5]
    · left; simp [aft, psStep, psAcross, h5]
  · by_cases h4 : x = 59
    · subst h4; right; simp [aft, psStep, psAcross, dOk, isL_59]
    · by_cases h5 : isL x = true
      · right; simp [aft, psStep, psAcross, dOk, h4, h5]
      · left; simp [aft, psStep, psAcross, h4, h5]
  · by_cases h5 : isL x = true
    · right; simp [aft, psStep, psCold, dOk, h5]
    · left; simp [aft, psStep, psCold, h5]
theorem dOk_nn {d : Int32} (h : dOk d) : ¬ d < 0 := by
  rcases h with rfl | rfl | rfl | rfl | rfl <;> decide
theorem nI_nl {j : Nat} (h : j < 2 ^ 31) : ¬ nI j < 0 := fun q => by
  have := lt_toInt.mp q
  rw [nI_toInt h, ti_0] at this
  omega
theorem ff_ps {s s2 : Nat → Int32} {cc : Nat} (hcc : cc ≤ 60) : ∀ (n j : Nat) (d : Int32) (w : PsT), j + n = cc → dOk d → (∀ i, j ≤ i → i < j + n → s i = s2 i) → (psRun s2 (nI cc) n j d w).1 = ffR s n j d := by
  intro n
  induction n with
  | zero => intro j d w hj hd _; have : j = cc := by omega
            subst this; rfl
  | succ n ih =>
    intro j d w hj hd hs
    rw [psRun, ffR, hs j (by omega) (by omega)]
    rcases ps_aft (x := s2 j) w hd with ⟨h1, h2⟩ | ⟨h1, h2, h3⟩
    · rw [if_pos h1, if_pos (by rw [h2]; decide)]
    · rw [if_neg h1, if_neg (by rw [h2]; exact dOk_nn h3), h2]
      exact ih (j + 1) _ _ (by omega) h3 (fun i a b => hs i (by omega) (by omega))
theorem ff_lt (s : Nat → Int32) : ∀ (n j : Nat) (d : Int32), j + n ≤ 60 → (ffR s n j d < 0 ↔ ffR s n j d = -6) := by
  intro n
  induction n with
  | zero =>
    intro j d hj
    rw [ffR]
    by_cases h : d = 0
    · rw [if_pos h]; decide
    · rw [if_neg h]
      exact ⟨fun q => absurd q (nI_nl (by omega)), fun q => by rw [q]; decide⟩
  | succ n ih =>
    intro j d hj
    rw [ffR]
    by_cases h : aft d (s j) = 5
    · rw [if_pos h]
      exact ⟨fun q => absurd q (nI_nl (by omega)), fun q => by rw [q]; decide⟩
    · rw [if_neg h]
      exact ih (j + 1) _ (by omega)
theorem ps_eq {t k c : Nat} {μ : MemT} (h : Rel t k c μ) : (psAll c μ).1 = ffR (μ 4) c 0 0 := ff_ps (pr_hc (rl_pd h)) c 0 0 _ (by omega) (Or.inl rfl) (fun i _ hi => ((pr_si (rl_pd h)) i (by omega)).1)
/-! what parsing keeps -/
theorem ps_keep {d x : Int32} {w : PsT} {i : Nat} (hi : i < w.1) : w.1 ≤ (psStep d x w).2.1 ∧ (psStep d x w).2.2.1 i = w.2.1 i ∧ (psStep d x w).2.2.2.1 i = w.2.2.1 i ∧ (psStep d x w).2.2.2.2.1 i = w.2.2.2.1 i ∧ (psStep d x w).2.2.2.2.2 i = w.2.2.2.2 i := by
  have hne : i ≠ w.1 := by omega
  have kN : ∀ z : PsT, z.1 = w.1 → w.1 ≤ (psNear x z).2.1 ∧ (psNear x z).2.2.1 i = z.2.1 i ∧ (psNear x z).2.2.2.1 i = z.2.2.1 i ∧ (psNear x z).2.2.2.2.1 i = z.2.2.2.1 i ∧ (psNear x z).2.2.2.2.2 i = z.2.2.2.2 i := by
    intro z hz
    unfold psNear
    by_cases h1 : x = 124
    · rw [if_pos h1]; exact ⟨Nat.le_of_eq hz.symm, rfl, rfl, rfl, rfl⟩
    · rw [if_neg h1]
      by_cases h2 : isL x = true
      · rw [if_pos h2]; refine ⟨by show w.1 ≤ z.1; omega, rfl, ?_, rfl, ?_⟩
        · show upd z.2.2.1 z.1 _ i = _; rw [upd_ne _ _ (by omega)]
        · show upd z.2.2.2.2 z.1 _ i = _; rw [upd_ne _ _ (by omega)]
      · rw [if_neg h2]; exact ⟨Nat.le_of_eq hz.symm, rfl, rfl, rfl, rfl⟩
  unfold psStep
  by_cases h0 : d = 0
  · rw [if_pos h0]
    unfold psBegin
    have u1 : (psNew x w).2.1 i = w.2.1 i := upd_ne _ _ hne
    have u2 : (psNew x w).2.2.1 i = w.2.2.1 i := upd_ne _ _ hne
    have u3 : (psNew x w).2.2.2.1 i = w.2.2.2.1 i := upd_ne _ _ hne
    have u4 : (psNew x w).2.2.2.2 i = w.2.2.2.2 i := upd_ne _ _ hne
    by_cases h1 : kindC x = 0
    · rw [if_pos h1]
      obtain ⟨a1, a2, a3, a4, a5⟩ := kN (psNew x w) rfl
      exact ⟨a1, a2.trans u1, a3.trans u2, a4.trans u3, a5.trans u4⟩
    · rw [if_neg h1]
      by_cases h2 : x = 94
      · rw [if_pos h2]; exact ⟨Nat.le_refl _, u1, u2, u3, u4⟩
      · rw [if_neg h2]; exact ⟨Nat.le_succ _, u1, u2, u3, u4⟩
  · rw [if_neg h0]
    by_cases h1 : d = 1
    · rw [if_pos h1]; exact kN w rfl
    · rw [if_neg h1]
      by_cases h4 : d = 4
      · rw [if_pos h4]
        unfold psCold
        by_cases h5 : isL x = true
        · rw [if_pos h5]; exact ⟨Nat.le_succ _, rfl, rfl, upd_ne _ _ hne, rfl⟩
        · rw [if_neg h5]; exact ⟨Nat.le_refl _, rfl, rfl, rfl, rfl⟩
      · rw [if_neg h4]
        unfold psAcross
        by_cases h5 : d = 3 ∧ x = 59
        · rw [if_pos h5]; exact ⟨Nat.le_succ _, rfl, rfl, rfl, rfl⟩
        · rw [if_neg h5]
          by_cases h6 : isL x = true
          · rw [if_pos h6]; exact ⟨Nat.le_refl _, rfl, rfl, upd_ne _ _ hne, upd_ne _ _ hne⟩
          · rw [if_neg h6]; exact ⟨Nat.le_refl _, rfl, rfl, rfl, rfl⟩
theorem ps_ge {d x : Int32} {w : PsT} : w.1 ≤ (psStep d x w).2.1 := by
  have kN : ∀ z : PsT, z.1 = w.1 → w.1 ≤ (psNear x z).2.1 := fun z hz => by rw [psNear_le, hz]; exact Nat.le_refl _
  unfold psStep
  by_cases h0 : d = 0
  · rw [if_pos h0]
    unfold psBegin
    by_cases h1 : kindC x = 0
    · rw [if_pos h1]; exact kN _ rfl
    · rw [if_neg h1]
      by_cases h2 : x = 94
      · rw [if_pos h2]; exact Nat.le_refl _
      · rw [if_neg h2]; exact Nat.le_succ _
  · rw [if_neg h0]
    by_cases h1 : d = 1
    · rw [if_pos h1]; exact kN w rfl
    · rw [if_neg h1]
      by_cases h4 : d = 4
      · rw [if_pos h4]
        unfold psCold
        by_cases h5 : isL x = true
        · rw [if_pos h5]; exact Nat.le_succ _
        · rw [if_neg h5]; exact Nat.le_refl _
      · rw [if_neg h4]
        unfold psAcross
        by_cases h5 : d = 3 ∧ x = 59
        · rw [if_pos h5]; exact Nat.le_succ _
        · rw [if_neg h5]
          by_cases h6 : isL x = true
          · rw [if_pos h6]; exact Nat.le_refl _
          · rw [if_neg h6]; exact Nat.le_refl _
def kp (w W : PsT) : Prop := w.1 ≤ W.1 ∧ ∀ i, i < w.1 → W.2.1 i = w.2.1 i ∧ W.2.2.1 i = w.2.2.1 i ∧ W.2.2.2.1 i = w.2.2.2.1 i ∧ W.2.2.2.2 i = w.2.2.2.2 i
theorem psRun_kp (s : Nat → Int32) (cnt : Int32) : ∀ (n j : Nat) (d : Int32) (w : PsT), kp w (psRun s cnt n j d w).2 := by
  intro n
  induction n with
  | zero => intro j d w; exact ⟨Nat.le_refl _, fun _ _ => ⟨rfl, rfl, rfl, rfl⟩⟩
  | succ n ih =>
    intro j d w
    have h1 : kp w (psStep d (s j) w).2 := ⟨ps_ge, fun i hi => (ps_keep hi).2⟩
    rw [psRun]
    by_cases c : (psStep d (s j) w).1 < 0
    · rw [if_pos c]; exact h1
    · rw [if_neg c]
      have h2 := ih (j + 1) (psStep d (s j) w).1 (psStep d (s j) w).2
      refine ⟨Nat.le_trans h1.1 h2.1, fun i hi => ?_⟩
      obtain ⟨a1, a2, a3, a4⟩ := h1.2 i hi
      obtain ⟨b1, b2, b3, b4⟩ := h2.2 i (by have := h1.1; omega)
      exact ⟨b1.trans a1, b2.trans a2, b3.trans a3, b4.trans a4⟩
/-! frames of the market -/
theorem bgM_ne {r : Nat} (h : r ≠ 5) (μ : MemT) : bgM μ r = μ r := mset_ne _ _ h
theorem endM_ne {r : Nat} (h : r ≠ 5) (μ : MemT) : endM μ r = μ r := by rw [endM, bgM_ne h, mset_ne _ _ h]
theorem brkM_ne {r : Nat} (h : r ≠ 5) (x : Int32) (μ : MemT) : brkM x μ r = μ r := mset_ne _ _ h
theorem rdM_ne {r : Nat} (h5 : r ≠ 5) (h : r < 42 ∨ 50 ≤ r) (s : Int32) (μ : MemT) : rdM s μ r = μ r := by
  unfold rdM
  split
  · unfold rpM
    split
    · exact mset_ne _ _ h5
    · split
      · rw [endM_ne h5, twCold, mset_ne _ _ (by omega)]
      · exact brkM_ne h5 _ _
  · split
    · exact mset_ne _ _ h5
    · split
      · exact mset_ne _ _ h5
      · split
        · rw [endM_ne h5, twDay, mset_ne _ _ (by omega), mset_ne _ _ (by omega)]
        · split
          · rw [endM_ne h5, twFeast, mset_ne _ _ (by omega)]
          · unfold sellM
            split
            · rw [endM_ne h5, mset_ne _ _ h5]
            · exact brkM_ne h5 _ _
theorem hlR_ne {r : Nat} (h5 : r ≠ 5) (h : r < 42 ∨ 50 ≤ r) : ∀ (n j : Nat) (μ : MemT), hlR n j μ r = μ r := by
  intro n
  induction n with
  | zero => intro j μ; rfl
  | succ n ih =>
    intro j μ
    rw [hlR]
    split
    · rw [ih, rdM_ne h5 h]
    · rfl
theorem hold_ne {r : Nat} (h5 : r ≠ 5) (h : r < 42 ∨ 50 ≤ r) (c : Nat) (μ : MemT) : holdM c μ r = μ r := by
  rw [holdM, hlR_ne h5 h, stM, bgM_ne h5, mset_ne _ _ h5, cp_ne h]
theorem hpM_ne {r : Nat} (h58 : r ≠ 58) (h60 : r ≠ 60) (k : Nat) (μ : MemT) : hpM k μ r = μ r := by
  unfold hpM
  split
  · exact mset_ne _ _ h58
  · split
    · rw [mDay, mset_ne _ _ h58, mset_ne _ _ h60]
    · split
      · exact mset_ne _ _ h60
      · exact mset_ne _ _ h58
theorem gmS_ne {r : Nat} (h58 : r ≠ 58) (h60 : r ≠ 60) (k : Nat) (μ : MemT) : gmStep k μ r = μ r := by
  unfold gmStep
  split
  · rw [hpM_ne h58 h60, gmW, mset_ne _ _ h58]
  · exact mset_ne _ _ h58
theorem gmR_ne {r : Nat} (h58 : r ≠ 58) (h60 : r ≠ 60) : ∀ (n k : Nat) (μ : MemT), gmR n k μ r = μ r := by
  intro n
  induction n with
  | zero => intro k μ; rfl
  | succ n ih =>
    intro k μ
    rw [gmR]
    split
    · rfl
    · rw [ih, gmS_ne h58 h60]
theorem gmW_f {f : Nat} (h : f ≠ 26 ∧ f ≠ 27) (k : Nat) (μ : MemT) : gmW k μ 58 f = μ 58 f := by
  rw [gmW, mset_self, upd_ne _ _ h.2, upd_ne _ _ h.1]
theorem gmS_f {f : Nat} (h : f = 0 ∨ f = 2 ∨ f = 11 ∨ f = 13 ∨ f = 18 ∨ f = 24 ∨ f = 25 ∨ f = 30) (k : Nat) (μ : MemT) : gmStep k μ 58 f = μ 58 f := by
  have hw : gmW k μ 58 f = μ 58 f := gmW_f (by omega) k μ
  unfold gmStep
  split
  · rw [← hw]
    generalize gmW k μ = m
    unfold hpM
    split
    · rw [slM, mset_self, upd_ne _ _ (by omega), upd_ne _ _ (by omega), upd_ne _ _ (by omega), upd_ne _ _ (by omega)]
    · split
      · rw [mDay, mset_self, upd_ne _ _ (by omega)]
      · split
        · rw [mFeast, mset_ne _ _ (by decide)]
        · rw [mset_self, upd_ne _ _ (by omega)]
  · exact hw
theorem gmR_f {f : Nat} (h : f = 0 ∨ f = 2 ∨ f = 11 ∨ f = 13 ∨ f = 18 ∨ f = 24 ∨ f = 25 ∨ f = 30) : ∀ (n k : Nat) (μ : MemT), gmR n k μ 58 f = μ 58 f := by
  intro n
  induction n with
  | zero => intro k μ; rfl
  | succ n ih =>
    intro k μ
    rw [gmR]
    split
    · rfl
    · rw [ih, gmS_f h]
theorem frK_gm {μ m : MemT} (h : FrK μ m) (a : Nat) : FrK μ (gmM a m) := by
  have g : ∀ r, r ≠ 58 → r ≠ 60 → gmM a m r = m r := fun r h1 h2 => by rw [gmM, gmR_ne h1 h2, gm0, mset_ne _ _ h1]
  have f : ∀ i, (i = 0 ∨ i = 2 ∨ i = 11 ∨ i = 13 ∨ i = 18 ∨ i = 24 ∨ i = 25 ∨ i = 30) → gmM a m 58 i = m 58 i := fun i hi => by
    rw [gmM, gmR_f hi, gm0, mset_self]
    repeat rw [upd_ne _ _ (by omega)]
  refine ⟨fun r h1 h2 h3 => ?_, fun i hi => ?_, fun p hp => ?_, ?_, ?_⟩
  · rw [g r h1 h2]; exact h.1 r h1 h2 h3
  · rw [f i (by omega)]; exact h.2.1 i hi
  · rw [g 71 (by decide) (by decide)]; exact h.2.2.1 p hp
  · rw [f 24 (by decide)]; exact h.2.2.2.1
  · rw [f 25 (by decide)]; exact h.2.2.2.2
theorem frK_put {μ m : MemT} (w : PsT) (h : FrK (putPs w μ) m) : FrK μ m := by
  refine ⟨fun r h1 h2 h3 => ?_, fun i hi => ?_, fun p hp => ?_, ?_, ?_⟩
  · rw [h.1 r h1 h2 h3, putPs_ne _ _ h1 (by omega) (by omega) (by omega) (by omega)]
  · rw [h.2.1 i hi, putPs_f _ _ (by omega)]
  · rw [h.2.2.1 p hp]; rfl
  · rw [h.2.2.2.1, putPs_f _ _ (by decide)]
  · rw [h.2.2.2.2, putPs_f _ _ (by decide)]
theorem frK_lv {μ m : MemT} (h : FrK μ m) : FrK μ (lvM m) := by
  refine ⟨fun r h1 h2 h3 => ?_, fun i hi => ?_, fun p hp => ?_, ?_, ?_⟩
  · rw [lvM, mset_ne _ _ h1, mset_ne _ _ (by omega), mset_ne _ _ (by omega)]; exact h.1 r h1 h2 h3
  · rw [lvM, mset_self, upd_ne _ _ (by omega)]; exact h.2.1 i hi
  · exact h.2.2.1 p hp
  · exact h.2.2.2.1
  · exact h.2.2.2.2
/-! sums over those who are there -/
theorem sumB_cong {x : Int32} {f g : Nat → Int32} (h : ∀ p, p < 8 → bt x p = true → f p = g p) : sumB x f = sumB x g := by
  unfold sumB
  refine itr_cong 8 0 0 (fun p s _ hp => ?_)
  by_cases c : bt x p = true
  · rw [if_pos c, if_pos c, h p (by omega) c]
  · rw [if_neg c, if_neg c]
theorem wcB_cong {x c : Int32} {f g : Nat → Int32} (h : ∀ p, p < 8 → bt x p = true → f p = g p) : wcB x c f = wcB x c g := by
  unfold wcB
  refine itr_cong 8 0 0 (fun p s _ hp => ?_)
  by_cases b : bt x p = true
  · rw [if_pos b, if_pos b, h p (by omega) b]
  · rw [if_neg b, if_neg b]
theorem sub_bt {x : Int32} {t : Nat} (ht : t < 256) (h : subI x (nI t) = true) {p : Nat} (hp : p < 8) (hb : bt x p = true) : bt (nI t) p = true := by
  obtain ⟨s, hs, rfl, hst⟩ := subI_ex ht h
  rw [mk_bt s hs p hp] at hb
  rw [mk_bt t ht p hp]
  rw [← hst, Nat.testBit_and, Bool.and_eq_true] at hb
  exact hb.2
theorem subI_and {x t : Int32} (h : subI x t = true) : x &&& t = x := sub_and (of_decide_eq_true h)
theorem sumB_n {x : Int32} {f : Nat → Int32} {K : Nat} (hK : K < 2 ^ 20) (h : ∀ p, p < 8 → bt x p = true → inR (f p) 0 K = true) : ∃ u, u ≤ 8 * K ∧ sumB x f = nI u := by
  refine ⟨smN (fun p => if bt x p then cl (f p) else 0) 8 0, ?_, ?_⟩
  · have h1 : smN (fun p => if bt x p then cl (f p) else 0) 8 0 ≤ smN (fun _ => K) 8 0 := smN_le 8 0 (fun p _ hp => by
      by_cases c : bt x p = true
      · simp only [c, if_true]
        obtain ⟨u, hu, e⟩ := inR_ex (h p (by omega) c)
        rw [e, cl_n (by omega)]
        exact hu
      · simp only [c, if_false]
        exact Nat.zero_le _)
    have h2 : smN (fun _ => K) 8 0 = 8 * K := by simp only [smN]; omega
    omega
  · unfold sumB
    have := itr_smN' (step := fun p s => if bt x p then s + f p else s) (f := fun p => if bt x p then cl (f p) else 0) (N := 8) (fun j a hj => by
      by_cases c : bt x j = true
      · simp only [c, if_true]
        obtain ⟨u, hu, e⟩ := inR_ex (h j hj c)
        rw [e, cl_n (by omega)]
        exact (Int32.ofNat_add a u).symm
      · simp only [c]; rfl) 8 0 0 rfl
    rw [show (0 : Int32) = nI 0 from rfl, this, Nat.zero_add]
theorem wcB_s (x c : Int32) (w : Nat → Int32) : wcB x c w = sumB x (fun p => wc c (nI p) (w p)) := rfl
theorem inR_w {x : Int32} {a b a2 b2 : Int} (h : inR x a b = true) (h1 : a2 ≤ a) (h2 : b ≤ b2) : inR x a2 b2 = true := by
  have := inR_of h
  exact inR_t (by omega) (by omega)
theorem sub_nI {u v : Nat} (hu : u < 2 ^ 30) (hv : v < 2 ^ 30) : (nI u - nI v).toInt = (u : Int) - v := by
  rw [Int32.toInt_sub, nI_toInt (by omega), nI_toInt (by omega)]
  exact Int.bmod_eq_of_le (by omega) (by omega)
theorem abI_neg (a b : Int32) : abI (a - b) = abI (b - a) := by
  have e1 : b - a = -(a - b) := by rw [Int32.neg_sub]
  rw [e1]
  generalize a - b = z
  unfold abI
  have e0 : ∀ y : Int32, 0 - y = -y := fun y => Int32.zero_sub y
  rw [e0, e0, Int32.neg_neg]
  by_cases hm : z = Int32.minValue
  · subst hm; decide
  · have hz : (-z).toInt = - z.toInt := by
      have h1 : z.toInt ≠ Int32.minValue.toInt := fun q => hm (Int32.toInt_inj.mp q)
      rw [show Int32.minValue.toInt = -2147483648 from rfl] at h1
      have h2 := Int32.le_toInt z
      have h3 := Int32.toInt_lt z
      rw [Int32.toInt_neg]
      exact Int.bmod_eq_of_le (by omega) (by omega)
    simp only [le_toInt, ti_0, hz]
    by_cases h1 : 0 ≤ z.toInt
    · rw [if_pos h1]
      by_cases h2 : 0 ≤ -z.toInt
      · rw [if_pos h2]
        exact Int32.toInt_inj.mp (by rw [hz]; omega)
      · rw [if_neg h2]
    · rw [if_neg h1, if_pos (by omega)]
theorem tog_eq {x : Int32} {t : Nat} {a b : Nat → Int32} (hs : ∀ r, r < 8 → a r = b r ∧ spOk t a r) : togC x a = togM x b := by
  have key : ∀ p, p < 8 → tbm x b p = !tbad x a p := fun p hp => by
    unfold tbm tbad
    rw [← (hs p hp).1]
    rcases (hs p hp).2 with g | ⟨s, g1, g2, g3, g4, g5, g6⟩
    · rw [g, show decide ((-6 : Int32) < 0) = true by decide, show decide ((-6 : Int32) = -6) = true by decide]; cases bt x p <;> rfl
    · rw [g3]
      have e1 : decide (nI s < 0) = false := decide_eq_false (nI_n0 s g1)
      have e2 : decide (nI s = -6) = false := decide_eq_false (nI_n6 s g1)
      have e3 : decide (x >>> (nI s &&& 31) &&& 1 = 0) = !bt x s := by
        by_cases c : bt x s = false
        · rw [c, decide_eq_true ((bt0 x s).mpr c)]; rfl
        · rw [decide_eq_false (fun q => c ((bt0 x s).mp q))]
          cases hb : bt x s
          · exact absurd hb c
          · rfl
      rw [e1, e2, e3]
      show (!bt x p || (false || bt x s)) = _
      cases bt x p <;> cases bt x s <;> rfl
  have gen : ∀ (n j : Nat), j + n = 8 → ∀ v : Bool, itr (fun p b' => b' && tbm x b p) n j v = (v && (fnd (tbad x a) n j).isNone) := by
    intro n
    induction n with
    | zero => intro j _ v; rw [itr_0, fnd_0]; simp
    | succ n ih =>
      intro j hj v
      rw [itr_S, ih (j + 1) (by omega), key j (by omega)]
      cases hb : tbad x a j
      · rw [fnd_f _ hb]; simp
      · rw [fnd_t _ hb]; simp
  unfold togC togM
  rw [gen 8 0 rfl]
  rfl

