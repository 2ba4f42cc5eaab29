/-! the market's answers; the year -/
theorem rl_put {t k c : Nat} {μ : MemT} (h : Rel t k c μ) (w : PsT) : Rel t k c (putPs w μ) := by
  have g : ∀ r, r ≠ 58 → (r < 67 ∨ 70 < r) → putPs w μ r = μ r := fun r h1 h2 => putPs_ne _ _ h1 (by omega) (by omega) (by omega) (by omega)
  exact rl_cong h (g 2 (by decide) (by decide)) (g 78 (by decide) (by decide)) (g 77 (by decide) (by decide)) (by rw [g 3 (by decide) (by decide)]) (g 4 (by decide) (by decide)) (g 66 (by decide) (by decide)) (fun r h1 h2 => g r (by omega) (by omega)) (fun r h1 h2 p _ => by rw [g r (by omega) (by omega)]) (fun f hf => putPs_f _ _ (by omega)) (by rw [g 7 (by decide) (by decide)]; exact rl_z7 h) (by rw [g 8 (by decide) (by decide)]; exact rl_z8 h) (by rw [g 9 (by decide) (by decide)]; exact rl_z9 h)
theorem rl_hold {t k c : Nat} {μ : MemT} (h : Rel t k c μ) : Rel t k c (holdM c μ) := by
  have g : ∀ r, r ≠ 5 → (r < 42 ∨ 50 ≤ r) → holdM c μ r = μ r := fun r h1 h2 => hold_ne h1 h2 c μ
  exact rl_cong h (g 2 (by decide) (by decide)) (g 78 (by decide) (by decide)) (g 77 (by decide) (by decide)) (by rw [g 3 (by decide) (by decide)]) (g 4 (by decide) (by decide)) (g 66 (by decide) (by decide)) (fun r h1 h2 => g r (by omega) (by omega)) (fun r h1 h2 p _ => by rw [g r (by omega) (by omega)]) (fun f hf => by rw [g 58 (by decide) (by decide)]) (by rw [g 7 (by decide) (by decide)]; exact rl_z7 h) (by rw [g 8 (by decide) (by decide)]; exact rl_z8 h) (by rw [g 9 (by decide) (by decide)]; exact rl_z9 h)
theorem rl_fault {t k c : Nat} {μ : MemT} (h : Rel t k c μ) : (psAll c μ).1 = ffR (μ 4) c 0 0 ∧ Rel t k c (putPs (psAll c μ).2 μ) := ⟨ps_eq h, rl_put h _⟩
theorem bk_all {μ m : MemT} (hF : FrK μ m) : (∀ r, r ≠ 58 → r ≠ 60 → (r < 67 ∨ 73 < r) → mBack m r = μ r) ∧ (∀ p, p < 8 → mBack m 60 p = μ 60 p) ∧ ∀ f, (f ≤ 3 ∨ f = 11 ∨ f = 13) → mBack m 58 f = μ 58 f := by
  refine ⟨fun r h1 h2 h3 => ?_, fun p hp => ?_, fun f hf => ?_⟩
  · rw [mBack, mset_ne _ _ h1, mset_ne _ _ h2]; exact hF.1 r h1 h2 h3
  · show cpW (m 71) (m 60) p = μ 60 p
    rw [cpW_at hp]; exact hF.2.2.1 p hp
  · show upd (upd (m 58) 1 (m 58 24)) 3 (m 58 25) f = μ 58 f
    by_cases e3 : f = 3
    · subst e3; rw [upd_self]; exact hF.2.2.2.2
    · rw [upd_ne _ _ e3]
      by_cases e1 : f = 1
      · subst e1; rw [upd_self]; exact hF.2.2.2.1
      · rw [upd_ne _ _ e1]; exact hF.2.1 f (by omega)
theorem psAll_cong {c : Nat} {μ M : MemT} (hM : ∀ r, 58 ≤ r → M r = μ r) : psAll c M = psAll c μ := by
  unfold psAll ps0
  rw [hM 66 (by decide), hM 67 (by decide), hM 68 (by decide), hM 69 (by decide), hM 70 (by decide)]
theorem rf_all {t k c : Nat} {μ : MemT} (h : Rel t k c μ) {M : MemT} (hM : ∀ r, 58 ≤ r → M r = μ r) (hff : ffR (μ 4) c 0 0 = -6) : FinM t k (psAll c μ).2.1 (holdM c μ) (rfGo c M) ∧ FrK M (lvM (rfGo c M)) ∧ mRef c M = (if rfGo c M 58 26 < 0 then -6 else -3, rfM c M) := by
  have eP := psAll_cong (c := c) hM
  have hneg : (psAll c M).1 < 0 := by rw [eP, ps_eq h, hff]; decide
  refine ⟨?_, ?_, ?_⟩
  · rw [rfGo, eP]
    refine sim_mk h (M := mKeep (rfPs c M)) (fun r h1 h2 h3 h4 h5 h6 h7 h8 h9 => ?_) (fun f hf => ?_) (fun p hp => ?_) hff ?_ ?_ ?_ ?_
    · rw [mKeep, mset_ne _ _ (by omega), mset_ne _ _ h7, rfPs, putPs_ne _ _ (by omega) h3 h4 h5 h6, hM r (by omega)]
    · rw [mKeep, mset_self, upd_ne _ _ (by omega), upd_ne _ _ (by omega), rfPs, putPs_f _ _ (by omega), hM 58 (by decide)]
    · rw [mKeep, mset_ne _ _ (by decide), mset_ne _ _ (by decide), rfPs, putPs_ne _ _ (by decide) (by decide) (by decide) (by decide) (by decide), hM 60 (by decide)]
    · rw [← eP]; rfl
    · rw [← eP]; rfl
    · rw [← eP]; rfl
    · rw [← eP]; rfl
  · exact frK_lv (frK_gm (frK_put _ (frK_keep _)) _)
  · rw [mRef, if_pos hneg]
    rfl
theorem ref_no {t k c : Nat} {μ : MemT} (h : Rel t k c μ) {M : MemT} (hM : ∀ r, 58 ≤ r → M r = μ r) (hff : ¬ ffR (μ 4) c 0 0 = -6) : mRef c M = (-5, rfPs c M) := by
  have eP := psAll_cong (c := c) hM
  have hc := pr_hc (rl_pd h)
  rw [mRef, if_neg]
  rw [eP, ps_eq h, ff_lt _ _ _ _ (by omega)]
  exact hff
theorem hold_58 (c : Nat) (μ : MemT) : ∀ r, 58 ≤ r → holdM c μ r = μ r := fun r hr => hold_ne (by omega) (by omega) c μ
theorem rl_judge {t k c : Nat} {μ : MemT} (h : Rel t k c μ) (w : Int32) : (mJudge c w (xJudge c w μ).2).1 = (xJudge c w μ).1 ∧ Rel t k c (mJudge c w (xJudge c w μ).2).2 := by
  by_cases hr : inR w 0 5 = true
  · have nf : ¬ inR w 0 5 = false := by rw [hr]; decide
    rw [xJudge, if_pos hr]
    by_cases hff : ffR (μ 4) c 0 0 = -6
    · have eH : xHold c μ = (if holdM c μ 5 2 = -6 then 0 else -3, holdM c μ) := by rw [xHold, if_pos hff]
      obtain ⟨⟨hT, hC, h2, h3, hA⟩, hF, hR⟩ := rf_all h (hold_58 c μ) hff
      have hRel : Rel t k c (rfM c (holdM c μ)) := rl_back (rl_hold h) hF
      have v : ∀ f, f = 26 ∨ f = 27 ∨ (19 ≤ f ∧ f ≤ 22) → rfM c (holdM c μ) 58 f = rfGo c (holdM c μ) 58 f := fun f hf => by
        rw [rfM, mBack, mset_self, upd_ne _ _ (by omega), upd_ne _ _ (by omega), lvM, mset_self, upd_ne _ _ (by omega)]
      rcases hA with ⟨a26, -⟩ | a26
      · have e5 : holdM c μ 5 2 = -6 := h2.trans a26
        rw [e5, if_pos rfl] at eH
        rw [a26, if_pos (by decide)] at hR
        have cx : ¬ ((xHold c μ).1 = -5 ∨ ((xHold c μ).1 = -3 ∧ ¬ w < 2)) := by rw [eH]; simp
        rw [if_neg cx]
        have em : (xHold c μ).2 = holdM c μ := by rw [eH]
        have cm : ¬ ((mRef c (holdM c μ)).1 = -5 ∨ (¬ w ≤ 1 ∧ (mRef c (holdM c μ)).1 = -3)) := by rw [hR]; simp
        rw [em, mJudge, if_neg nf, if_neg cm, hR]
        refine ⟨?_, hRel⟩
        show (if w = 0 then rfM c (holdM c μ) 58 26 else if w = 1 then rfM c (holdM c μ) 58 27 else if w = 2 then rfM c (holdM c μ) 58 19 else if w = 3 then rfM c (holdM c μ) 58 20 else if w = 4 then rfM c (holdM c μ) 58 21 else rfM c (holdM c μ) 58 22) = ansM (holdM c μ) w
        rw [ansM, v 26 (by decide), v 27 (by decide), v 19 (by decide), v 20 (by decide), v 21 (by decide), v 22 (by decide), h2, h3, hC.1, hC.2.1, hC.2.2.1, hC.2.2.2.1]
      · have e5 : ¬ holdM c μ 5 2 = -6 := by rw [h2]; intro q; rw [q] at a26; revert a26; decide
        rw [if_neg e5] at eH
        have n26 : ¬ rfGo c (holdM c μ) 58 26 < 0 := by rw [lt_toInt]; have := le_toInt.mp a26; omega
        rw [if_neg n26] at hR
        have em : (xHold c μ).2 = holdM c μ := by rw [eH]
        have e1 : (xHold c μ).1 = -3 := by rw [eH]
        have m1 : (mRef c (holdM c μ)).1 = -3 := by rw [hR]
        have w12 : ¬ w ≤ 1 ↔ ¬ w < 2 := by
          rw [le_toInt, lt_toInt, show (1 : Int32).toInt = 1 from rfl, show (2 : Int32).toInt = 2 from rfl]; omega
        by_cases hw : w < 2
        · have cx : ¬ ((xHold c μ).1 = -5 ∨ ((xHold c μ).1 = -3 ∧ ¬ w < 2)) := by rw [e1]; simp [hw]
          have cm : ¬ ((mRef c (holdM c μ)).1 = -5 ∨ (¬ w ≤ 1 ∧ (mRef c (holdM c μ)).1 = -3)) := by rw [m1, w12]; simp [hw]
          rw [if_neg cx, em, mJudge, if_neg nf, if_neg cm, hR]
          refine ⟨?_, hRel⟩
          show (if w = 0 then rfM c (holdM c μ) 58 26 else if w = 1 then rfM c (holdM c μ) 58 27 else if w = 2 then rfM c (holdM c μ) 58 19 else if w = 3 then rfM c (holdM c μ) 58 20 else if w = 4 then rfM c (holdM c μ) 58 21 else rfM c (holdM c μ) 58 22) = ansM (holdM c μ) w
          rw [ansM, v 26 (by decide), v 27 (by decide), v 19 (by decide), v 20 (by decide), v 21 (by decide), v 22 (by decide), h2, h3, hC.1, hC.2.1, hC.2.2.1, hC.2.2.2.1]
        · have cx : ((xHold c μ).1 = -5 ∨ ((xHold c μ).1 = -3 ∧ ¬ w < 2)) := Or.inr ⟨e1, hw⟩
          have cm : ((mRef c (holdM c μ)).1 = -5 ∨ (¬ w ≤ 1 ∧ (mRef c (holdM c μ)).1 = -3)) := Or.inr ⟨w12.mpr hw, m1⟩
          rw [if_pos cx, em, mJudge, if_neg nf, if_pos cm]
          refine ⟨m1.trans e1.symm, ?_⟩
          rw [hR]
          exact hRel
    · have eH : xHold c μ = (-5, μ) := by rw [xHold, if_neg hff]
      have hR := ref_no h (M := μ) (fun _ _ => rfl) hff
      rw [if_pos (Or.inl (by rw [eH])), eH, mJudge, if_neg nf, if_pos (Or.inl (by rw [hR])), hR]
      exact ⟨rfl, rl_put h _⟩
  · have nf : inR w 0 5 = false := by simpa using hr
    rw [xJudge, if_neg hr, mJudge, if_pos nf]
    exact ⟨rfl, h⟩
theorem rl_behind {t k c : Nat} {μ : MemT} (h : Rel t k c μ) (x w : Int32) : (mBehind c x w (xBehind c x w μ).2).1 = (xBehind c x w μ).1 ∧ Rel t k c (mBehind c x w (xBehind c x w μ).2).2 := by
  have e1 : μ 58 0 = nI t := show mI μ 0 = nI t from tr_bps (rl_tw h)
  have e2 : μ 18 7 = nI t := tr_aps (rl_tw h)
  by_cases hp : isP (nI t) x = true
  · have nfp : ¬ isP (nI t) x = false := by rw [hp]; decide
    by_cases hr : inR w 0 2 = true
    · have nf : ¬ inR w 0 2 = false := by rw [hr]; decide
      rw [xBehind, e2, if_neg nfp, if_neg nf]
      by_cases hff : ffR (μ 4) c 0 0 = -6
      · have eH : xHold c μ = (if holdM c μ 5 2 = -6 then 0 else -3, holdM c μ) := by rw [xHold, if_pos hff]
        obtain ⟨⟨hT, hC, h2, h3, hA⟩, hF, hR⟩ := rf_all h (hold_58 c μ) hff
        have hRel : Rel t k c (rfM c (holdM c μ)) := rl_back (rl_hold h) hF
        have e0 : holdM c μ 58 0 = nI t := by rw [hold_58 c μ 58 (by decide)]; exact e1
        rcases hA with ⟨a26, -⟩ | a26
        · have e5 : holdM c μ 5 2 = -6 := h2.trans a26
          rw [e5, if_pos rfl] at eH
          rw [a26, if_pos (by decide)] at hR
          rw [if_pos (by rw [eH]), eH]
          show (mBehind c x w (holdM c μ)).1 = _ ∧ Rel t k c (mBehind c x w (holdM c μ)).2
          rw [mBehind, e0, if_neg nfp, if_neg nf, if_neg (by rw [hR]; exact fun z => z rfl), hR]
          refine ⟨?_, hRel⟩
          obtain ⟨p, hp8, rfl, hpb⟩ := isP_ex hp
          have f1 : holdM c μ 44 p = rfGo c (holdM c μ) 60 p := (tr_wt hT p hp8 hpb).1
          have f2 : holdM c μ 42 8 = rfGo c (holdM c μ) 58 1 := tr_cd hT
          have f3 : holdM c μ 42 10 = rfGo c (holdM c μ) 58 3 := tr_dy hT
          have g2 : rfM c (holdM c μ) 73 p = rfGo c (holdM c μ) 60 p := by
            show cpW (rfGo c (holdM c μ) 60) (rfGo c (holdM c μ) 73) p = _
            rw [cpW_at hp8]
          have g1 : rfM c (holdM c μ) 72 p = wc (rfGo c (holdM c μ) 58 1) (nI p) (rfGo c (holdM c μ) 60 p) := by
            show lpW (rfGo c (holdM c μ) 58 1) (rfGo c (holdM c μ) 60) (rfGo c (holdM c μ) 72) p = _
            unfold lpW
            rw [itr_ptw (g := fun p _ => wc (rfGo c (holdM c μ) 58 1) (nI p) (rfGo c (holdM c μ) 60 p)) (fun _ _ => rfl), if_pos (by omega)]
          have g3 : rfM c (holdM c μ) 58 30 = rfGo c (holdM c μ) 58 3 := by
            rw [rfM, mBack, mset_self, upd_ne _ _ (by decide), upd_ne _ _ (by decide), lvM, mset_self, upd_self]
          rw [cl_8 hp8]
          show (if w = 0 then rfM c (holdM c μ) 72 p else if w = 1 then rfM c (holdM c μ) 73 p else rfM c (holdM c μ) 58 30) = (if w = 0 then wc (holdM c μ 42 8) (nI p) (holdM c μ 44 p) else if w = 1 then holdM c μ 44 p else holdM c μ 42 10)
          rw [g1, g2, g3, f1, f2, f3]
        · have e5 : ¬ holdM c μ 5 2 = -6 := by rw [h2]; intro q; rw [q] at a26; revert a26; decide
          rw [if_neg e5] at eH
          have n26 : ¬ rfGo c (holdM c μ) 58 26 < 0 := by rw [lt_toInt]; have := le_toInt.mp a26; omega
          rw [if_neg n26] at hR
          rw [if_neg (by rw [eH]; show ¬ (-3 : Int32) = 0; decide), eH]
          show (mBehind c x w (holdM c μ)).1 = -3 ∧ Rel t k c (mBehind c x w (holdM c μ)).2
          rw [mBehind, e0, if_neg nfp, if_neg nf, if_pos (by rw [hR]; exact n36), hR]
          exact ⟨rfl, hRel⟩
      · have eH : xHold c μ = (-5, μ) := by rw [xHold, if_neg hff]
        have hR := ref_no h (M := μ) (fun _ _ => rfl) hff
        rw [if_neg (by rw [eH]; show ¬ (-5 : Int32) = 0; decide), eH]
        show (mBehind c x w μ).1 = -5 ∧ Rel t k c (mBehind c x w μ).2
        rw [mBehind, e1, if_neg nfp, if_neg nf, if_pos (by rw [hR]; exact n56), hR]
        exact ⟨rfl, rl_put h _⟩
    · have nf : inR w 0 2 = false := by simpa using hr
      rw [xBehind, e2, if_neg nfp, if_pos nf]
      show (mBehind c x w μ).1 = -2 ∧ Rel t k c (mBehind c x w μ).2
      rw [mBehind, e1, if_neg nfp, if_pos nf]
      exact ⟨rfl, h⟩
  · have nfp : isP (nI t) x = false := by simpa using hp
    rw [xBehind, e2, if_pos nfp]
    show (mBehind c x w μ).1 = -1 ∧ Rel t k c (mBehind c x w μ).2
    rw [mBehind, e1, if_pos nfp]
    exact ⟨rfl, h⟩
theorem rl_done {t k c : Nat} {μ : MemT} (h : Rel t k c μ) : (mDone c (xDone c μ).2).1 = (xDone c μ).1 ∧ ∃ c2, Rel t k c2 (mDone c (xDone c μ).2).2 := by
  by_cases hff : ffR (μ 4) c 0 0 = -6
  · have eH : xHold c μ = (if holdM c μ 5 2 = -6 then 0 else -3, holdM c μ) := by rw [xHold, if_pos hff]
    obtain ⟨hFin, hF, hR⟩ := rf_all h (hold_58 c μ) hff
    obtain ⟨hT, hC, h2, h3, hA⟩ := hFin
    rcases hA with ⟨a26, aA⟩ | a26
    · have e5 : holdM c μ 5 2 = -6 := h2.trans a26
      rw [e5, if_pos rfl] at eH
      have eX : xDone c μ = (holdM c μ 5 1, mset (twCopy 18 42 (holdM c μ)) 3 (upd (holdM c μ 3) 1 0)) := by
        rw [xDone, if_pos (by rw [eH]), eH]
      rw [eX]
      generalize hD : mset (twCopy 18 42 (holdM c μ)) 3 (upd (holdM c μ 3) 1 0) = D
      show (mDone c D).1 = holdM c μ 5 1 ∧ ∃ c2, Rel t k c2 (mDone c D).2
      have vD : ∀ r, r ≠ 3 → (r < 18 ∨ 26 ≤ r) → D r = holdM c μ r := fun r h1 h2 => by rw [← hD, mset_ne _ _ h1, cp_ne h2]
      have vD2 : ∀ r, r ≠ 3 → r ≠ 5 → (r < 18 ∨ 26 ≤ r) → (r < 42 ∨ 50 ≤ r) → D r = μ r := fun r h1 h2 h3 h4 => by rw [vD r h1 h3, hold_ne h2 h4]
      have vM : ∀ r, 58 ≤ r → D r = μ r := fun r hr => vD2 r (by omega) (by omega) (by omega) (by omega)
      have eP := psAll_cong (c := c) vM
      obtain ⟨⟨hT2, hC2, h22, h32, hA2⟩, hF2, hR2⟩ := rf_all h vM hff
      have b26 : rfGo c D 58 26 = -6 := h22.symm.trans e5
      rw [b26, if_pos (by decide)] at hR2
      have eM : mDone c D = (nI (psAll c D).2.1, mDoneM (psAll c D).2.1 (rfM c D)) := by rw [mDone, if_neg (by rw [hR2]; exact fun z => z rfl), hR2]
      rw [eM, eP, aA]
      refine ⟨rfl, 0, ?_⟩
      obtain ⟨k1, k2, k3⟩ := bk_all hF2
      have rfM_e : rfM c D = mBack (lvM (rfGo c D)) := rfl
      rw [← rfM_e] at k1 k2 k3
      have rows : ∀ r, 67 ≤ r → r ≤ 70 → rfM c D r = rfPs c D r := fun r ha hb => by
        rw [rfM, mBack, mset_ne _ _ (by omega), mset_ne _ _ (by omega), lvM, mset_ne _ _ (by omega), mset_ne _ _ (by omega), mset_ne _ _ (by omega), rfGo, gmM, gmR_ne (by omega) (by omega), gm0, mset_ne _ _ (by omega), mKeep, mset_ne _ _ (by omega), mset_ne _ _ (by omega)]
      have hFin3 : FinM t k (psAll c μ).2.1 (holdM c μ) (gmM (psAll c μ).2.1 (rfM c D)) := by
        refine sim_mk h (fun r h1 h2 h3 h4 h5 h6 h7 h8 h9 => ?_) (fun f hf => ?_) (fun p hp => ?_) hff ?_ ?_ ?_ ?_
        · rw [k1 r (by omega) h2 (by omega), vM r (by omega)]
        · rw [k3 f (by omega), vM 58 (by decide)]
        · rw [k2 p hp, vM 60 (by decide)]
        · rw [rows 67 (by decide) (by decide), ← eP]; rfl
        · rw [rows 68 (by decide) (by decide), ← eP]; rfl
        · rw [rows 69 (by decide) (by decide), ← eP]; rfl
        · rw [rows 70 (by decide) (by decide), ← eP]; rfl
      generalize hG : gmM (psAll c μ).2.1 (rfM c D) = G at hFin3
      have gG : ∀ r, r ≠ 58 → r ≠ 60 → (r < 67 ∨ 73 < r) → G r = D r := fun r ha hb hc => by
        rw [← hG, gmM, gmR_ne ha hb, gm0, mset_ne _ _ ha]
        exact k1 r ha hb hc
      have eN : mDoneM (psAll c μ).2.1 (rfM c D) = mset G 58 (upd (G 58) 13 0) := by rw [mDoneM, hG]
      rw [eN]
      generalize hN : mset G 58 (upd (G 58) 13 0) = N
      have nN : ∀ r, r ≠ 58 → N r = G r := fun r ha => by rw [← hN, mset_ne _ _ ha]
      have nD : ∀ r, r ≠ 58 → r ≠ 60 → (r < 67 ∨ 73 < r) → N r = D r := fun r ha hb hc => by rw [nN r ha, gG r ha hb hc]
      have nμ : ∀ r, r ≠ 58 → r ≠ 60 → (r < 67 ∨ 73 < r) → r ≠ 3 → r ≠ 5 → (r < 18 ∨ 26 ≤ r) → (r < 42 ∨ 50 ≤ r) → N r = μ r := fun r ha hb hc hd he hf hg => by rw [nD r ha hb hc, vD2 r hd he hf hg]
      have irc : ∀ e, e < 2 → IRel e μ → IRel e N := fun e he hi => by
        have hb : 26 ≤ imB e ∧ imB e ≤ 34 := by unfold imB; split <;> omega
        refine ir_cong hi (by rw [nμ 2 (by omega) (by omega) (by omega) (by omega) (by omega) (by omega) (by omega)]) (by rw [nμ 78 (by omega) (by omega) (by omega) (by omega) (by omega) (by omega) (by omega)]) (fun r h1 h2 f => by rw [nμ r (by omega) (by omega) (by omega) (by omega) (by omega) (by omega) (by omega)]) ?_ ?_ <;> rw [nμ 77 (by omega) (by omega) (by omega) (by omega) (by omega) (by omega) (by omega)] <;> intros <;> rfl
      show Rel t k 0 N
      refine ⟨TRel_cong (fun f hf => ?_) (fun r hr p hp => ?_) (fun f hf => ?_) (fun r hr p hp => ?_) hFin3.1, ⟨by decide, ?_, ?_, fun j hj => absurd hj (Nat.not_lt_zero j)⟩, irc 0 (by decide) (rl_i0 h), irc 1 (by decide) (rl_i1 h), ?_, ?_, ?_⟩
      · rw [← cp_I (b := 18) (c := 42) f hf]
        unfold xI
        rw [nD 18 (by decide) (by decide) (by decide), ← hD, mset_ne _ _ (by decide)]
      · rw [← cp_R (b := 18) (c := 42) r hr p hp]
        unfold xR
        rw [nD _ (by omega) (by omega) (by omega), ← hD, mset_ne _ _ (by omega)]
      · unfold mI
        rw [← hN, mset_self, upd_ne _ _ (by split <;> omega)]
      · unfold mR
        rw [nN _ (by omega)]
      · rw [nD 3 (by decide) (by decide) (by decide), ← hD, mset_self, upd_self]; rfl
      · rw [← hN, mset_self, upd_self]; rfl
      · rw [nμ 7 (by omega) (by omega) (by omega) (by omega) (by omega) (by omega) (by omega)]; exact rl_z7 h
      · rw [nμ 8 (by omega) (by omega) (by omega) (by omega) (by omega) (by omega) (by omega)]; exact rl_z8 h
      · rw [nμ 9 (by omega) (by omega) (by omega) (by omega) (by omega) (by omega) (by omega)]; exact rl_z9 h
    · have e5 : ¬ holdM c μ 5 2 = -6 := by rw [h2]; intro q; rw [q] at a26; revert a26; decide
      rw [if_neg e5] at eH
      have n26 : ¬ rfGo c (holdM c μ) 58 26 < 0 := by rw [lt_toInt]; have := le_toInt.mp a26; omega
      rw [if_neg n26] at hR
      have eX : xDone c μ = (-3, holdM c μ) := by rw [xDone, if_neg (by rw [eH]; show ¬ (-3 : Int32) = 0; decide), eH]
      have eM : mDone c (holdM c μ) = (-3, rfM c (holdM c μ)) := by rw [mDone, if_pos (by rw [hR]; exact n36), hR]
      rw [eX]
      show (mDone c (holdM c μ)).1 = -3 ∧ ∃ c2, Rel t k c2 (mDone c (holdM c μ)).2
      rw [eM]
      exact ⟨rfl, c, rl_back (rl_hold h) hF⟩
  · have eH : xHold c μ = (-5, μ) := by rw [xHold, if_neg hff]
    have hR := ref_no h (M := μ) (fun _ _ => rfl) hff
    have eX : xDone c μ = (-5, μ) := by rw [xDone, if_neg (by rw [eH]; show ¬ (-5 : Int32) = 0; decide), eH]
    have eM : mDone c μ = (-5, rfPs c μ) := by rw [mDone, if_pos (by rw [hR]; exact n56), hR]
    rw [eX]
    show (mDone c μ).1 = -5 ∧ ∃ c2, Rel t k c2 (mDone c μ).2
    rw [eM]
    exact ⟨rfl, c, rl_put h _⟩

