/-! the market: the two ways side by side -/
theorem tr_gen {t k : Nat} {a a2 b b2 : TiT} {A A2 B B2 : TrT} (h : TRel t k a A b B) (h0 : a2 0 = a 0) (h0' : b2 0 = b 0) (h1 : a2 1 = b2 1) (h2 : a2 2 = a 2) (h2' : b2 2 = b 2) (h3 : a2 3 = b2 3) (h4 : a2 4 = a 4) (h4' : b2 4 = b 4) (hA : ∀ r, r < 7 → r ≠ 1 → A2 r = A r) (hB : ∀ r, r < 7 → r ≠ 1 → B2 r = B r) (hw : ∀ p, p < 8 → bt (nI t) p = true → A2 1 p = B2 1 p ∧ inR (A2 1 p) 1 400 = true) : TRel t k a2 A2 b2 B2 := by
  obtain ⟨q_ht, q_hk, q_aps, q_bps, q_cd, q_lm, q_lmr, q_dy, q_asg, q_bsg, q_sw, q_wt, q_dr, q_sp, q_si, q_sd⟩ := h
  refine ⟨q_ht, q_hk, h0.trans q_aps, h0'.trans q_bps, h1, (h2.trans q_lm).trans h2'.symm, by rw [h2]; exact q_lmr, h3, h4.trans q_asg, h4'.trans q_bsg, ?_, hw, ?_, ?_, ?_, ?_⟩
  · rw [hA 0 (by decide) (by decide), hB 0 (by decide) (by decide)]; exact q_sw
  · rw [hA 2 (by decide) (by decide), hB 2 (by decide) (by decide)]; exact q_dr
  · rw [hA 3 (by decide) (by decide), hB 3 (by decide) (by decide)]; exact q_sp
  · rw [hA 4 (by decide) (by decide), hA 5 (by decide) (by decide), hA 6 (by decide) (by decide), hB 4 (by decide) (by decide), hB 5 (by decide) (by decide), hB 6 (by decide) (by decide)]; exact q_si
  · rw [hA 4 (by decide) (by decide), hA 5 (by decide) (by decide)]; exact q_sd
abbrev TrC (b t k : Nat) (mc mm : MemT) : Prop := TRel t k (xI b mc) (xR b mc) (mI mm) (mR mm)
theorem tr_mem {b t k : Nat} {mc mm M N : MemT} (h : TrC b t k mc mm) (hM : ∀ r, b < r → r < b + 8 → r ≠ b + 2 → M r = mc r) (hN : ∀ r, 59 ≤ r → r < 66 → r ≠ 60 → N r = mm r) (h7 : M b 7 = mc b 7) (h9 : M b 9 = mc b 9) (h11 : M b 11 = mc b 11) (n0 : N 58 0 = mm 58 0) (n2 : N 58 2 = mm 58 2) (n11 : N 58 11 = mm 58 11) (hc : M b 8 = N 58 1) (hd : M b 10 = N 58 3) (hw : ∀ p, p < 8 → bt (nI t) p = true → M (b + 2) p = N 60 p ∧ inR (M (b + 2) p) 1 400 = true) : TrC b t k M N :=
  tr_gen h h7 n0 hc h9 n2 hd h11 n11 (fun r h1 h2 => hM (b + 1 + r) (by omega) (by omega) (by omega)) (fun r h1 h2 => hN (59 + r) (by omega) (by omega) (by omega)) hw
def Cts (mc mm : MemT) : Prop := mc 5 4 = mm 58 19 ∧ mc 5 5 = mm 58 20 ∧ mc 5 6 = mm 58 21 ∧ mc 5 7 = mm 58 22 ∧ (mm 58 22 = -6 ∨ 0 ≤ mm 58 22)
def Core (t k a : Nat) (mc mm : MemT) : Prop := TrC 42 t k mc mm ∧ Cts mc mm ∧ mc 5 1 = nI a ∧ mc 5 2 = -6 ∧ mc 5 3 = -6 ∧ mm 58 26 = -6 ∧ mm 58 27 = -6
def Zero (mc : MemT) : Prop := mc 5 8 = 0 ∧ mc 5 9 = 0 ∧ mc 5 10 = 0 ∧ mc 5 11 = 0 ∧ mc 5 12 = 0
def Bad (t k a : Nat) (mc mm : MemT) : Prop := TrC 42 t k mc mm ∧ Cts mc mm ∧ mc 5 2 = nI a ∧ mm 58 26 = nI a ∧ mc 5 3 = mm 58 27
theorem upd_of {f : Nat → Int32} {k : Nat} {x : Int32} (h : f k = x) : upd f k x = f := by rw [← h, upd_id]
theorem gmW_id {a : Nat} {mm : MemT} (hw : wnM a mm = 0) (h26 : mm 58 26 = -6) (h27 : mm 58 27 = -6) : gmW a mm = mm := by
  rw [gmW, hw, if_pos (by decide), if_pos (by decide), upd_of h26, upd_of h27, mset_same]
theorem gmS_ok {a : Nat} {mm : MemT} (hw : wnM a mm = 0) (h26 : mm 58 26 = -6) (h27 : mm 58 27 = -6) : gmStep a mm = hpM a mm := by
  rw [gmStep, if_pos hw, gmW_id hw h26 h27]
theorem wn_cs (a : Nat) (mm : MemT) : wnM a mm = 0 ∨ wnM a mm = 1 ∨ wnM a mm = 2 ∨ wnM a mm = 3 ∨ wnM a mm = 4 := by
  unfold wnM
  repeat' split
  all_goals simp
theorem core_bad {t k a : Nat} {mc mm : MemT} {x : Int32} (h : Core t k a mc mm) (hw : wnM a mm ≠ 0) (hx : x = wnM a mm) : Bad t k a (brkM x mc) (gmStep a mm) := by
  obtain ⟨hT, hC, h1, h2, h3, h26, h27⟩ := h
  have hn : ¬ wnM a mm ≤ 0 := by
    rcases wn_cs a mm with e | e | e | e | e
    · exact absurd e hw
    all_goals rw [e]; decide
  have hg : gmStep a mm = mset mm 58 (upd (upd (mm 58) 26 (nI a)) 27 (wnM a mm)) := by
    rw [gmStep, if_neg hw, gmW, if_neg hn, if_neg hn]
  rw [hg]
  refine ⟨tr_mem hT (fun r h1 h2 h3 => brkM_ne (by omega) _ _) (fun r h1 h2 h3 => mset_ne _ _ (by omega)) rfl rfl rfl rfl rfl rfl (tr_cd hT) (tr_dy hT) (tr_wt hT), ⟨hC.1, hC.2.1, hC.2.2.1, hC.2.2.2.1, hC.2.2.2.2⟩, h1, rfl, ?_⟩
  show x = wnM a mm
  exact hx
theorem core_day {t k a : Nat} {mc mm : MemT} (h : Core t k a mc mm) (hk : mm 67 a = 1) : Core t k (a + 1) (endM (twDay 42 mc)) (gmStep a mm) ∧ Zero (endM (twDay 42 mc)) := by
  obtain ⟨hT, hC, h1, h2, h3, h26, h27⟩ := h
  have hw : wnM a mm = 0 := by rw [wnM, if_pos (Or.inl hk)]
  have hg : gmStep a mm = mDay mm := by rw [gmS_ok hw h26 h27, hpM, if_neg (by rw [hk]; decide), if_pos hk]
  rw [hg]
  refine ⟨⟨tr_mem hT (fun r h1 h2 h3 => ?_) (fun r h1 h2 h3 => ?_) rfl rfl rfl rfl rfl rfl (tr_cd hT) ?_ (fun p hp hb => ?_), ⟨hC.1, hC.2.1, hC.2.2.1, hC.2.2.2.1, hC.2.2.2.2⟩, ?_, h2, h3, h26, h27⟩, rfl, rfl, rfl, rfl, rfl⟩
  · rw [endM_ne (by omega), twDay, mset_ne _ _ (by omega), mset_ne _ _ (by omega)]
  · rw [mDay, mset_ne _ _ (by omega), mset_ne _ _ (by omega)]
  · exact congrArg (fun q => q + 1) (tr_dy hT)
  · show pdW (mc 42 7) (mc 45) (mc 44) p = bdW (mm 61) (mm 60) p ∧ inR (pdW (mc 42 7) (mc 45) (mc 44) p) 1 400 = true
    have f2 : mc 44 p = mm 60 p := (tr_wt hT p hp hb).1
    have f3 : mc 45 p = mm 61 p := (tr_dr hT p hp hb).1
    rw [show mc 42 7 = nI t from tr_aps hT, pdW_at hp, if_pos hb, bdW_at hp, f2, f3]
    exact ⟨rfl, drf_in _ _⟩
  · exact (congrArg (fun q => q + 1) h1).trans (nI_1 a)
theorem core_feast {t k a : Nat} {mc mm : MemT} (h : Core t k a mc mm) (hk : mm 67 a = 2) : Core t k (a + 1) (endM (twFeast 42 mc)) (gmStep a mm) ∧ Zero (endM (twFeast 42 mc)) := by
  obtain ⟨hT, hC, h1, h2, h3, h26, h27⟩ := h
  have hw : wnM a mm = 0 := by rw [wnM, if_pos (Or.inr hk)]
  have hg : gmStep a mm = mFeast mm := by rw [gmS_ok hw h26 h27, hpM, if_neg (by rw [hk]; decide), if_neg (by rw [hk]; decide), if_pos hk]
  rw [hg]
  refine ⟨⟨tr_mem hT (fun r h1 h2 h3 => ?_) (fun r h1 h2 h3 => ?_) rfl rfl rfl rfl rfl rfl (tr_cd hT) (tr_dy hT) (fun p hp hb => ?_), ⟨hC.1, hC.2.1, hC.2.2.1, hC.2.2.2.1, hC.2.2.2.2⟩, ?_, h2, h3, h26, h27⟩, rfl, rfl, rfl, rfl, rfl⟩
  · rw [endM_ne (by omega), twFeast, mset_ne _ _ (by omega)]
  · rw [mFeast, mset_ne _ _ (by omega)]
  · show feW (mc 42 7) (mc 44) p = bfW (mm 60) p ∧ inR (feW (mc 42 7) (mc 44) p) 1 400 = true
    have f2 : mc 44 p = mm 60 p := (tr_wt hT p hp hb).1
    have f3 : inR (mc 44 p) 1 400 = true := (tr_wt hT p hp hb).2
    rw [f2] at f3
    rw [show mc 42 7 = nI t from tr_aps hT, feW_at hp, if_pos hb, bfW_at hp, f2, (fe_bd f3).1]
    refine ⟨rfl, ?_⟩
    rw [← (fe_bd f3).1]
    exact (fe_bd f3).2
  · exact (congrArg (fun q => q + 1) h1).trans (nI_1 a)
set_option maxRecDepth 100000 in
theorem sub_bit : ∀ t, t < 256 → ∀ p, p < 8 → subI (nI (2 ^ p)) (nI t) = bt (nI t) p := by decide +kernel
set_option maxRecDepth 100000 in
theorem and_bit : ∀ s, s < 256 → ∀ p, p < 8 → (nI s &&& nI (2 ^ p) = 0 ↔ bt (nI s) p = false) := by decide +kernel
theorem core_cold {t k a p : Nat} {mc mm : MemT} (h : Core t k a mc mm) (hp : p < 8) (hk : mm 67 a = 3) (h8 : mm 68 a = 0) (h9 : mm 69 a = nI (2 ^ p)) {M : MemT} (hM : M = if isP (mc 42 7) (nI p) then endM (twCold 42 (nI p) mc) else brkM 1 mc) : (Core t k (a + 1) M (gmStep a mm) ∧ Zero M) ∨ Bad t k a M (gmStep a mm) := by
  have hh := h
  obtain ⟨hT, hC, h1, h2, h3, h26, h27⟩ := h
  have ht := tr_ht hT
  have e7 : mc 42 7 = nI t := tr_aps hT
  have e0 : mm 58 0 = nI t := show mI mm 0 = nI t from tr_bps hT
  have eS : subI (mm 68 a ||| mm 69 a) (mm 58 0) = bt (nI t) p := by
    rw [h8, h9, e0, show (0 : Int32) = nI 0 from rfl, nI_or, Nat.zero_or, sub_bit t ht p hp]
  rw [e7, isP_n hp] at hM
  by_cases hb : bt (nI t) p = true
  · left
    rw [if_pos hb] at hM
    have hw : wnM a mm = 0 := by rw [wnM, if_neg (by rw [hk]; decide), if_neg (by rw [eS, hb]; decide), if_pos hk]
    have hg : gmStep a mm = mset mm 58 (upd (mm 58) 1 (mm 58 1 ^^^ mm 69 a)) := by rw [gmS_ok hw h26 h27, hpM, if_neg (by rw [hk]; decide), if_neg (by rw [hk]; decide), if_neg (by rw [hk]; decide)]
    rw [hg, hM]
    refine ⟨⟨tr_mem hT (fun r h1 h2 h3 => ?_) (fun r h1 h2 h3 => mset_ne _ _ (by omega)) rfl rfl rfl rfl rfl rfl ?_ (tr_dy hT) (tr_wt hT), ⟨hC.1, hC.2.1, hC.2.2.1, hC.2.2.2.1, hC.2.2.2.2⟩, ?_, h2, h3, h26, h27⟩, rfl, rfl, rfl, rfl, rfl⟩
    · rw [endM_ne (by omega), twCold, mset_ne _ _ (by omega)]
    · show mc 42 8 ^^^ 1 <<< (nI p &&& 31) = mm 58 1 ^^^ mm 69 a
      rw [h9, mk_shl p hp, show mc 42 8 = mm 58 1 from tr_cd hT]
    · exact (congrArg (fun q => q + 1) h1).trans (nI_1 a)
  · right
    rw [if_neg hb] at hM
    have hw : wnM a mm = 1 := by rw [wnM, if_neg (by rw [hk]; decide), if_pos (by rw [eS]; simpa using hb)]
    rw [hM]
    exact core_bad hh (by rw [hw]; decide) hw.symm
theorem ofR_ne {as gd lim : Int32} {r : Nat → Int32} {i : Nat} (h : i ≠ 7) : ofR as gd lim r i = r i := by
  unfold ofR
  split
  · exact upd_ne _ _ h
  · rfl
theorem core_sell {t k a n1 n2 : Nat} {mc mm : MemT} (h : Core t k a mc mm) (ha : a < 60) (hk : mm 67 a = 0) (l1 : n1 < 256) (l2 : n2 < 256) (c8 : mc 5 8 = nI n1) (c9 : mc 5 9 = nI n2) (m8 : mm 68 a = nI n1) (m9 : mm 69 a = nI n2) (c10 : mc 5 10 = 0 ↔ mm 70 a = 0) : (Core t k (a + 1) (sellM mc) (gmStep a mm) ∧ Zero (sellM mc)) ∨ Bad t k a (sellM mc) (gmStep a mm) := by
  have hh := h
  obtain ⟨hT, hC, h1, h2, h3, h26, h27⟩ := h
  have ht := tr_ht hT
  have e7 : mc 42 7 = nI t := tr_aps hT
  have e0 : mm 58 0 = nI t := show mI mm 0 = nI t from tr_bps hT
  have e8 : mc 42 8 = mm 58 1 := tr_cd hT
  have e9 : mc 42 9 = mm 58 2 := tr_lm hT
  have hs : ∀ r, r < 8 → mc 46 r = mm 62 r ∧ spOk t (mc 46) r := tr_sp hT
  have k12 : ¬ (mm 67 a = 1 ∨ mm 67 a = 2) := by rw [hk]; decide
  have k3 : ¬ mm 67 a = 3 := by rw [hk]; decide
  by_cases hS : subI (nI n1 ||| nI n2) (nI t) = true
  · have hS1 : subI (nI n1) (nI t) = true := by rw [subI_or, Bool.and_eq_true] at hS; exact hS.1
    have hS2 : subI (nI n2) (nI t) = true := by rw [subI_or, Bool.and_eq_true] at hS; exact hS.2
    have s1 : sumB (nI n1) (mc 43) = sumB (nI n1) (mm 59) := sumB_cong (fun p hp hb => (tr_sw hT p hp (sub_bt ht hS1 hp hb)).1)
    have s2 : sumB (nI n2) (mc 43) = sumB (nI n2) (mm 59) := sumB_cong (fun p hp hb => (tr_sw hT p hp (sub_bt ht hS2 hp hb)).1)
    have w1 : wcB (nI n1) (mm 58 1) (mc 44) = wcB (nI n1) (mm 58 1) (mm 60) := wcB_cong (fun p hp hb => (tr_wt hT p hp (sub_bt ht hS1 hp hb)).1)
    have w2 : wcB (nI n2) (mm 58 1) (mc 44) = wcB (nI n2) (mm 58 1) (mm 60) := wcB_cong (fun p hp hb => (tr_wt hT p hp (sub_bt ht hS2 hp hb)).1)
    have as_eq : asM mc = asK a mm := by
      rw [asM, asK, c8, c9, e7, m8, m9, subI_and hS1, subI_and hS2, s1, s2]
    have gd_eq : gdM mc = isK a mm := by
      rw [gdM, isK, c8, c9, e7, e8, m8, m9, subI_and hS1, subI_and hS2, w1, w2]
      generalize wcB (nI n2) (mm 58 1) (mm 60) - wcB (nI n1) (mm 58 1) (mm 60) = z
      by_cases hz : 0 < z
      · rw [if_pos hz, if_pos (le_toInt.mpr (Int.le_of_lt (lt_toInt.mp hz)))]
      · rw [if_neg hz]
        by_cases hz2 : 0 ≤ z
        · rw [if_pos hz2]
          exact Int32.toInt_inj.mp (by have t1 : ¬ (0 : Int32).toInt < z.toInt := fun q => hz (lt_toInt.mpr q); have := le_toInt.mp hz2; omega)
        · rw [if_neg hz2]
    obtain ⟨u1, b1, q1⟩ := sumB_n (x := nI n1) (f := mm 59) (K := 200) (by decide) (fun p hp hb => by rw [← show mc 43 p = mm 59 p from (tr_sw hT p hp (sub_bt ht hS1 hp hb)).1]; exact inR_w (tr_sw hT p hp (sub_bt ht hS1 hp hb)).2 (by decide) (by decide))
    obtain ⟨u2, b2, q2⟩ := sumB_n (x := nI n2) (f := mm 59) (K := 200) (by decide) (fun p hp hb => by rw [← show mc 43 p = mm 59 p from (tr_sw hT p hp (sub_bt ht hS2 hp hb)).1]; exact inR_w (tr_sw hT p hp (sub_bt ht hS2 hp hb)).2 (by decide) (by decide))
    have lt_eq : (0 < asK a mm) ↔ sumB (mm 68 a) (mm 59) < sumB (mm 69 a) (mm 59) := by
      rw [asK, m8, m9, q1, q2, lt_toInt, lt_toInt, sub_nI (by omega) (by omega), nI_toInt (by omega), nI_toInt (by omega), ti_0]
      omega
    have hr : rsnM (asM mc) mc = wnM a mm := by
      have hSn : ¬ subI (nI n1 ||| nI n2) (nI t) = false := by rw [hS]; decide
      rw [rsnM, wnM, if_neg k12, if_neg k3, c8, c9, e7, m8, m9, e0, if_neg hSn, if_neg hSn, as_eq]
      rw [tog_eq (x := nI n1) hs, tog_eq (x := nI n2) hs]
      by_cases hz : mc 5 10 = 0
      · rw [if_neg (show ¬ ¬ mc 5 10 = 0 from fun q => q hz), if_neg (show ¬ ¬ mm 70 a = 0 from fun q => q (c10.mp hz))]
        by_cases hg : (togM (nI n1) (mm 62) && togM (nI n2) (mm 62)) = false
        · rw [if_pos hg, if_pos hg]
        · rw [if_neg hg, if_neg hg]
          rw [m8, m9] at lt_eq
          by_cases hl : 0 < asK a mm
          · rw [if_pos hl, if_pos (lt_eq.mp hl)]
          · rw [if_neg hl, if_neg (fun q => hl (lt_eq.mpr q))]
      · rw [if_pos hz, if_pos (show ¬ mm 70 a = 0 from fun q => hz (c10.mpr q))]
    by_cases hw : wnM a mm = 0
    · left
      have e5 : sellM mc = endM (mset mc 5 (upd (upd (upd (ofR (asK a mm) (isK a mm) (mm 58 2) (mc 5)) 4 (mc 5 4 + 1)) 5 (mc 5 5 + asK a mm)) 6 (mc 5 6 + isK a mm))) := by
        rw [sellM, hr, if_pos hw, as_eq, gd_eq, e9]
      have hg : gmStep a mm = slM a mm := by rw [gmS_ok hw h26 h27, hpM, if_pos hk]
      rw [e5, hg]
      refine ⟨⟨tr_mem hT (fun r h1 h2 h3 => ?_) (fun r h1 h2 h3 => mset_ne _ _ (by omega)) rfl rfl rfl rfl rfl rfl (tr_cd hT) (tr_dy hT) (tr_wt hT), ⟨?_, ?_, ?_, ?_, ?_⟩, ?_, ?_, ?_, h26, h27⟩, rfl, rfl, rfl, rfl, rfl⟩
      · rw [endM_ne (by omega), mset_ne _ _ (by omega)]
      · exact congrArg (fun q => q + 1) hC.1
      · exact congrArg (fun q => q + asK a mm) hC.2.1
      · exact congrArg (fun q => q + isK a mm) hC.2.2.1
      · show ofR (asK a mm) (isK a mm) (mm 58 2) (mc 5) 7 = if 0 ≤ mm 58 22 then mm 58 22 else if abI (asK a mm - isK a mm) ≤ mm 58 2 then mm 58 22 else nI a
        rw [ofR, hC.2.2.2.1, abI_neg (isK a mm) (asK a mm)]
        rcases hC.2.2.2.2 with e | e
        · rw [e, if_neg (show ¬ (0 : Int32) ≤ -6 by decide)]
          by_cases hl : abI (asK a mm - isK a mm) ≤ mm 58 2
          · rw [if_pos hl, if_neg (fun q => q.2 hl), hC.2.2.2.1, e]
          · rw [if_neg hl, if_pos ⟨rfl, hl⟩, upd_self, h1]
        · rw [if_pos e, if_neg (fun q => by rw [q.1] at e; revert e; decide), hC.2.2.2.1]
      · show (if 0 ≤ mm 58 22 then mm 58 22 else if abI (asK a mm - isK a mm) ≤ mm 58 2 then mm 58 22 else nI a) = -6 ∨ 0 ≤ (if 0 ≤ mm 58 22 then mm 58 22 else if abI (asK a mm - isK a mm) ≤ mm 58 2 then mm 58 22 else nI a)
        rcases hC.2.2.2.2 with e | e
        · rw [e, if_neg (show ¬ (0 : Int32) ≤ -6 by decide)]
          by_cases hl : abI (asK a mm - isK a mm) ≤ mm 58 2
          · rw [if_pos hl]; exact Or.inl rfl
          · rw [if_neg hl]; exact Or.inr (nI_nn (by omega))
        · rw [if_pos e]; exact Or.inr e
      · show ofR (asK a mm) (isK a mm) (mm 58 2) (mc 5) 1 + 1 = nI (a + 1)
        rw [ofR_ne (by decide), h1]; exact nI_1 a
      · show ofR (asK a mm) (isK a mm) (mm 58 2) (mc 5) 2 = -6
        rw [ofR_ne (by decide), h2]
      · show ofR (asK a mm) (isK a mm) (mm 58 2) (mc 5) 3 = -6
        rw [ofR_ne (by decide), h3]
    · right
      have e5 : sellM mc = brkM (wnM a mm) mc := by rw [sellM, hr, if_neg hw]
      rw [e5]
      exact core_bad hh hw rfl
  · right
    have hS0 : subI (nI n1 ||| nI n2) (nI t) = false := by simpa using hS
    have hw : wnM a mm = 1 := by rw [wnM, if_neg k12, m8, m9, e0, if_pos hS0]
    have hr : rsnM (asM mc) mc = 1 := by rw [rsnM, c8, c9, e7, if_pos hS0]
    have e5 : sellM mc = brkM 1 mc := by rw [sellM, hr, if_neg (by decide)]
    rw [e5]
    exact core_bad hh (by rw [hw]; decide) hw.symm
/-! the signs within an act -/
def Prs (d : Int32) (w : PsT) (mc : MemT) : Prop := ∃ n1 n2, n1 < 256 ∧ n2 < 256 ∧ mc 5 8 = nI n1 ∧ mc 5 9 = nI n2 ∧ w.2.2.1 w.1 = nI n1 ∧ w.2.2.2.1 w.1 = nI n2 ∧ (mc 5 10 = 0 ↔ w.2.2.2.2 w.1 = 0) ∧ mc 5 11 = (if d = 2 ∨ d = 3 then 1 else 0) ∧ mc 5 12 = (if d = 4 then 1 else 0) ∧ w.2.1 w.1 = (if d = 4 then 3 else 0) ∧ (d = 4 → n1 = 0 ∧ n2 = 0)
def Sim (t k : Nat) (d : Int32) (w : PsT) (mc mm : MemT) : Prop := Core t k w.1 mc mm ∧ (d = 0 → Zero mc) ∧ (d ≠ 0 → Prs d w mc)
theorem core_cong {t k a : Nat} {mc mm M : MemT} (h : Core t k a mc mm) (hr : ∀ r, r ≠ 5 → M r = mc r) (hf : ∀ i, i < 8 → M 5 i = mc 5 i) : Core t k a M mm := by
  obtain ⟨hT, hC, h1, h2, h3, h26, h27⟩ := h
  refine ⟨?_, ⟨(hf 4 (by decide)).trans hC.1, (hf 5 (by decide)).trans hC.2.1, (hf 6 (by decide)).trans hC.2.2.1, (hf 7 (by decide)).trans hC.2.2.2.1, hC.2.2.2.2⟩, (hf 1 (by decide)).trans h1, (hf 2 (by decide)).trans h2, (hf 3 (by decide)).trans h3, h26, h27⟩
  refine TRel_cong (fun i _ => ?_) (fun r h4 p _ => ?_) (fun _ _ => rfl) (fun _ _ _ _ => rfl) hT
  · unfold xI; rw [hr 42 (by decide)]
  · unfold xR; rw [hr _ (by omega)]
theorem sitR_le {x : Int32} {r : Nat → Int32} {i : Nat} (h : i < 8) : sitR x r i = r i := by
  unfold sitR
  split <;> rw [upd_ne _ _ (by omega)] <;> split <;> first | rfl | exact upd_ne _ _ (by omega)
theorem core_sit {t k a : Nat} {mc mm : MemT} (h : Core t k a mc mm) (x : Int32) : Core t k a (sitM x mc) mm := core_cong h (fun r hr => mset_ne _ _ hr) (fun i hi => sitR_le hi)
theorem core_11 {t k a i : Nat} {mc mm : MemT} (h : Core t k a mc mm) (hi : 8 ≤ i) (x : Int32) : Core t k a (mset mc 5 (upd (mc 5) i x)) mm := core_cong h (fun r hr => mset_ne _ _ hr) (fun j hj => upd_ne _ _ (by omega))
theorem prs_new {x : Int32} {w : PsT} {mc : MemT} (h : Zero mc) (hx : kindC x = 0) : Prs 1 (psNew x w) mc := by
  obtain ⟨z8, z9, z10, z11, z12⟩ := h
  refine ⟨0, 0, by decide, by decide, z8, z9, upd_self _ _ _, upd_self _ _ _, ?_, z11, z12, ?_, fun q => absurd q (by decide)⟩
  · rw [z10]; exact ⟨fun _ => upd_self _ _ _, fun _ => rfl⟩
  · exact (upd_self _ _ _).trans hx
theorem prs_cold {w : PsT} {mc : MemT} (h : Zero mc) : Prs 4 (psNew 94 w) (mset mc 5 (upd (mc 5) 12 1)) := by
  obtain ⟨z8, z9, z10, z11, z12⟩ := h
  refine ⟨0, 0, by decide, by decide, z8, z9, upd_self _ _ _, upd_self _ _ _, ?_, z11, rfl, ?_, fun q => ⟨rfl, rfl⟩⟩
  · show mc 5 10 = 0 ↔ _
    rw [z10]; exact ⟨fun _ => upd_self _ _ _, fun _ => rfl⟩
  · exact (upd_self _ _ _).trans (by decide)
theorem prs_bar {w : PsT} {mc : MemT} (h : Prs 1 w mc) : Prs 2 w (mset mc 5 (upd (mc 5) 11 1)) := by
  obtain ⟨n1, n2, l1, l2, c8, c9, m8, m9, c10, c11, c12, hk, -⟩ := h
  exact ⟨n1, n2, l1, l2, c8, c9, m8, m9, c10, rfl, c12, hk, fun q => absurd q (by decide)⟩
theorem or_eq0 (x y : Int32) : x ||| y = 0 ↔ x = 0 ∧ y = 0 := by
  have e : ∀ z : Int32, z &&& -1 = z := fun z => by
    apply Int32.toBitVec_inj.mp
    rw [Int32.toBitVec_and, show (-1 : Int32).toBitVec = BitVec.allOnes 32 from by decide, BitVec.and_allOnes]
  have := or_and0 x y (-1)
  rw [e, e, e] at this
  exact this
theorem tw_iff {n1 n2 p : Nat} (l1 : n1 < 256) (l2 : n2 < 256) (hp : p < 8) {z y : Int32} (hz : z = 0 ↔ y = 0) : ((if isP (nI n1 ||| nI n2) (nI p) then 1 else z) = 0 ↔ (y ||| ((nI n1 ||| nI n2) &&& nI (2 ^ p))) = 0) := by
  have l3 : n1 ||| n2 < 256 := or_lt l1 l2
  rw [nI_or, isP_n hp, or_eq0]
  by_cases hb : bt (nI (n1 ||| n2)) p = true
  · rw [if_pos hb]
    refine ⟨fun q => absurd q (by decide), fun q => ?_⟩
    have := (and_bit _ l3 p hp).mp q.2
    rw [hb] at this
    cases this
  · rw [if_neg hb]
    have hb0 : bt (nI (n1 ||| n2)) p = false := by simpa using hb
    exact ⟨fun q => ⟨hz.mp q, (and_bit _ l3 p hp).mpr hb0⟩, fun q => hz.mpr q.1⟩
theorem sit_8 {x : Int32} {r : Nat → Int32} (h : r 11 = 0) : sitR x r 8 = r 8 ||| 1 <<< (x &&& 31) ∧ sitR x r 9 = r 9 ∧ sitR x r 10 = (if isP (r 8 ||| r 9) x then 1 else r 10) ∧ sitR x r 11 = r 11 ∧ sitR x r 12 = r 12 := by
  unfold sitR
  rw [if_pos h]
  by_cases c : isP (r 8 ||| r 9) x = true
  · rw [if_pos c, if_pos c]; exact ⟨rfl, rfl, rfl, rfl, rfl⟩
  · rw [if_neg c, if_neg c]; exact ⟨rfl, rfl, rfl, rfl, rfl⟩
theorem sit_9 {x : Int32} {r : Nat → Int32} (h : ¬ r 11 = 0) : sitR x r 9 = r 9 ||| 1 <<< (x &&& 31) ∧ sitR x r 8 = r 8 ∧ sitR x r 10 = (if isP (r 8 ||| r 9) x then 1 else r 10) ∧ sitR x r 11 = r 11 ∧ sitR x r 12 = r 12 := by
  unfold sitR
  rw [if_neg h]
  by_cases c : isP (r 8 ||| r 9) x = true
  · rw [if_pos c, if_pos c]; exact ⟨rfl, rfl, rfl, rfl, rfl⟩
  · rw [if_neg c, if_neg c]; exact ⟨rfl, rfl, rfl, rfl, rfl⟩
theorem prs_near {x : Int32} {w : PsT} {mc : MemT} (h : Prs 1 w mc) (hx : isL x = true) : Prs 1 (psNearIn x w) (sitM (x - 65) mc) := by
  obtain ⟨n1, n2, l1, l2, c8, c9, m8, m9, c10, c11, c12, hk, -⟩ := h
  obtain ⟨p, hp, hxp, hbl⟩ := isL_ex hx
  rw [hxp]
  obtain ⟨s8, s9, s10, s11, s12⟩ := sit_8 (x := nI p) (r := mc 5) c11
  refine ⟨n1 ||| 2 ^ p, n2, or2_lt l1 hp, l2, ?_, ?_, ?_, ?_, ?_, ?_, ?_, ?_, fun q => absurd q (by decide)⟩
  · exact s8.trans (by rw [c8]; exact or2_I hp)
  · exact s9.trans c9
  · exact (upd_self _ _ _).trans (by rw [m8, hbl, nI_or])
  · exact m9
  · show sitR (nI p) (mc 5) 10 = 0 ↔ upd w.2.2.2.2 w.1 (w.2.2.2.2 w.1 ||| ((w.2.2.1 w.1 ||| w.2.2.2.1 w.1) &&& bitL x)) w.1 = 0
    rw [s10, upd_self, c8, c9, m8, m9, hbl]
    exact tw_iff l1 l2 hp c10
  · exact s11.trans c11
  · exact s12.trans c12
  · exact hk
theorem prs_acr {d x : Int32} {w : PsT} {mc : MemT} (hd : d = 2 ∨ d = 3) (h : Prs d w mc) (hx : isL x = true) : Prs 3 (psAcrossIn x w) (sitM (x - 65) mc) := by
  obtain ⟨n1, n2, l1, l2, c8, c9, m8, m9, c10, c11, c12, hk, -⟩ := h
  obtain ⟨p, hp, hxp, hbl⟩ := isL_ex hx
  have d4 : ¬ d = 4 := by rcases hd with rfl | rfl <;> decide
  rw [if_pos hd] at c11
  rw [if_neg d4] at c12 hk
  rw [hxp]
  obtain ⟨s9, s8, s10, s11, s12⟩ := sit_9 (x := nI p) (r := mc 5) (by rw [c11]; decide)
  refine ⟨n1, n2 ||| 2 ^ p, l1, or2_lt l2 hp, ?_, ?_, ?_, ?_, ?_, ?_, ?_, ?_, fun q => absurd q (by decide)⟩
  · exact s8.trans c8
  · exact s9.trans (by rw [c9]; exact or2_I hp)
  · exact m8
  · exact (upd_self _ _ _).trans (by rw [m9, hbl, nI_or])
  · show sitR (nI p) (mc 5) 10 = 0 ↔ upd w.2.2.2.2 w.1 (w.2.2.2.2 w.1 ||| ((w.2.2.1 w.1 ||| w.2.2.2.1 w.1) &&& bitL x)) w.1 = 0
    rw [s10, upd_self, c8, c9, m8, m9, hbl]
    exact tw_iff l1 l2 hp c10
  · exact s11.trans (by rw [c11]; decide)
  · exact s12.trans (by rw [c12]; decide)
  · exact hk
def Nxt (t k : Nat) (x : Int32) (st : Int32 × PsT) (w : PsT) (mc mm : MemT) : Prop := (st.2.1 = w.1 ∧ Sim t k st.1 st.2 (rdM x mc) mm) ∨ (st.1 = 0 ∧ st.2.1 = w.1 + 1 ∧ (mm 67 w.1 = st.2.2.1 w.1 → mm 68 w.1 = st.2.2.2.1 w.1 → mm 69 w.1 = st.2.2.2.2.1 w.1 → mm 70 w.1 = st.2.2.2.2.2 w.1 → (Core t k (w.1 + 1) (rdM x mc) (gmStep w.1 mm) ∧ Zero (rdM x mc)) ∨ Bad t k w.1 (rdM x mc) (gmStep w.1 mm)))
theorem rd_let {x : Int32} {mc : MemT} (hx : isL x = true) (h12 : mc 5 12 = 0) : rdM x mc = sitM (x - 65) mc := by rw [rdM, if_pos hx, rpM, if_pos h12]
theorem rd_bar (mc : MemT) : rdM 124 mc = mset mc 5 (upd (mc 5) 11 1) := by rw [rdM, isL_124, if_neg (by decide), if_pos rfl]
theorem nxt_near {t k : Nat} {x : Int32} {w z : PsT} {mc mm : MemT} (hC : Core t k w.1 mc mm) (hz : z.1 = w.1) (hP : Prs 1 z mc) (hn : ¬ (psNear x z).1 < 0) : Nxt t k x (psNear x z) w mc mm := by
  left
  refine ⟨(psNear_le _ _).trans hz, ?_⟩
  by_cases h1 : x = 124
  · subst h1
    rw [rd_bar, show psNear 124 z = (2, z) from if_pos rfl]
    refine ⟨?_, fun q => absurd q n20, fun _ => prs_bar hP⟩
    rw [show ((2 : Int32), z).2.1 = w.1 from hz]
    exact core_11 hC (by decide) 1
  · by_cases h2 : isL x = true
    · have e : psNear x z = (1, psNearIn x z) := by rw [psNear, if_neg h1, if_pos h2]
      have h12 : mc 5 12 = 0 := by
        obtain ⟨n1, n2, l1, l2, c8, c9, m8, m9, c10, c11, c12, hk, -⟩ := hP
        exact c12
      rw [e, rd_let h2 h12]
      refine ⟨?_, fun q => absurd q n10, fun _ => prs_near hP h2⟩
      rw [show ((1 : Int32), psNearIn x z).2.1 = w.1 from hz]
      exact core_sit hC _
    · exfalso
      apply hn
      rw [psNear, if_neg h1, if_neg h2]
      exact n60
theorem sim_step {t k : Nat} {d x : Int32} {w : PsT} {mc mm : MemT} (hd : dOk d) (h : Sim t k d w mc mm) (ha : w.1 < 60) (hn : ¬ (psStep d x w).1 < 0) : Nxt t k x (psStep d x w) w mc mm := by
  obtain ⟨hC, h0, hP⟩ := h
  rcases hd with rfl | rfl | rfl | rfl | rfl
  · have hZ := h0 rfl
    have e0 : psStep 0 x w = psBegin x w := if_pos rfl
    rw [e0] at hn ⊢
    by_cases hk : kindC x = 0
    · have e1 : psBegin x w = psNear x (psNew x w) := if_pos hk
      rw [e1] at hn ⊢
      exact nxt_near hC rfl (prs_new hZ hk) hn
    · by_cases h94 : x = 94
      · subst h94
        have e1 : psBegin 94 w = (4, psNew 94 w) := by rw [psBegin, if_neg hk, if_pos rfl]
        rw [e1]
        have e2 : rdM 94 mc = mset mc 5 (upd (mc 5) 12 1) := by rw [rdM, isL_94, if_neg (by decide), if_neg (by decide), if_pos rfl]
        left
        rw [e2]
        exact ⟨rfl, core_11 hC (by decide) 1, fun q => absurd q n40, fun _ => prs_cold hZ⟩
      · have e1 : psBegin x w = (0, (w.1 + 1, (psNew x w).2)) := by rw [psBegin, if_neg hk, if_neg h94]
        rw [e1]
        right
        refine ⟨rfl, rfl, fun m1 m2 m3 m4 => Or.inl ?_⟩
        have m1' : mm 67 w.1 = kindC x := m1.trans (upd_self _ _ _)
        by_cases h46 : x = 46
        · subst h46
          have e2 : rdM 46 mc = endM (twDay 42 mc) := by rw [rdM, isL_46, if_neg (by decide), if_neg (by decide), if_neg (by decide), if_pos rfl]
          rw [e2]
          exact core_day hC (m1'.trans (by decide))
        · have h42 : x = 42 := by
            by_cases h42 : x = 42
            · exact h42
            · exact absurd (by rw [kindC, if_neg h46, if_neg h42, if_neg h94]) hk
          subst h42
          have e2 : rdM 42 mc = endM (twFeast 42 mc) := by rw [rdM, isL_42, if_neg (by decide), if_neg (by decide), if_neg (by decide), if_neg (by decide), if_pos rfl]
          rw [e2]
          exact core_feast hC (m1'.trans (by decide))
  · have e0 : psStep 1 x w = psNear x w := by rw [psStep, if_neg (by decide), if_pos rfl]
    rw [e0] at hn ⊢
    exact nxt_near hC rfl (hP (by decide)) hn
  · have e0 : psStep 2 x w = psAcross 2 x w := by rw [psStep, if_neg (by decide), if_neg (by decide), if_neg (by decide)]
    rw [e0] at hn ⊢
    have hP2 := hP (by decide)
    by_cases h2 : isL x = true
    · have e1 : psAcross 2 x w = (3, psAcrossIn x w) := by rw [psAcross, if_neg (fun q => absurd q.1 (by decide)), if_pos h2]
      have h12 : mc 5 12 = 0 := by
        obtain ⟨n1, n2, l1, l2, c8, c9, m8, m9, c10, c11, c12, hk, -⟩ := hP2
        exact c12
      rw [e1]
      left
      rw [rd_let h2 h12]
      exact ⟨rfl, core_sit hC _, fun q => absurd q n30, fun _ => prs_acr (Or.inl rfl) hP2 h2⟩
    · exact absurd (by rw [psAcross, if_neg (fun q => absurd q.1 (by decide)), if_neg h2]; exact n60) hn
  · have e0 : psStep 3 x w = psAcross 3 x w := by rw [psStep, if_neg (by decide), if_neg (by decide), if_neg (by decide)]
    rw [e0] at hn ⊢
    have hP2 := hP (by decide)
    by_cases h59 : x = 59
    · subst h59
      have e1 : psAcross 3 59 w = (0, (w.1 + 1, w.2)) := by rw [psAcross, if_pos ⟨rfl, rfl⟩]
      have e2 : rdM 59 mc = sellM mc := by rw [rdM, isL_59, if_neg (by decide), if_neg (by decide), if_neg (by decide), if_neg (by decide), if_neg (by decide)]
      obtain ⟨n1, n2, l1, l2, c8, c9, m8, m9, c10, c11, c12, hk, -⟩ := hP2
      rw [e1]
      right
      refine ⟨rfl, rfl, fun g1 g2 g3 g4 => ?_⟩
      rw [e2]
      exact core_sell hC ha (g1.trans hk) l1 l2 c8 c9 (g2.trans m8) (g3.trans m9) (by rw [g4]; exact c10)
    · by_cases h2 : isL x = true
      · have e1 : psAcross 3 x w = (3, psAcrossIn x w) := by rw [psAcross, if_neg (fun q => h59 q.2), if_pos h2]
        have h12 : mc 5 12 = 0 := by
          obtain ⟨n1, n2, l1, l2, c8, c9, m8, m9, c10, c11, c12, hk, -⟩ := hP2
          exact c12
        rw [e1]
        left
        rw [rd_let h2 h12]
        exact ⟨rfl, core_sit hC _, fun q => absurd q n30, fun _ => prs_acr (Or.inr rfl) hP2 h2⟩
      · exact absurd (by rw [psAcross, if_neg (fun q => h59 q.2), if_neg h2]; exact n60) hn
  · have e0 : psStep 4 x w = psCold x w := by rw [psStep, if_neg (by decide), if_neg (by decide), if_pos rfl]
    rw [e0] at hn ⊢
    have hP2 := hP (by decide)
    by_cases h2 : isL x = true
    · have e1 : psCold x w = (0, (w.1 + 1, w.2.1, w.2.2.1, upd w.2.2.2.1 w.1 (bitL x), w.2.2.2.2)) := by rw [psCold, if_pos h2]
      obtain ⟨n1, n2, l1, l2, c8, c9, m8, m9, c10, c11, c12, hk, h00⟩ := hP2
      obtain ⟨p, hp, hxp, hbl⟩ := isL_ex h2
      rw [e1]
      right
      refine ⟨rfl, rfl, fun g1 g2 g3 g4 => ?_⟩
      refine core_cold hC hp (g1.trans hk) (g2.trans (m8.trans (by rw [(h00 rfl).1]; rfl))) (g3.trans ((upd_self _ _ _).trans hbl)) ?_
      rw [rdM, if_pos h2, rpM, if_neg (by rw [c12]; decide), hxp]
    · exact absurd (by rw [psCold, if_neg h2]; exact n60) hn
def FinM (t k A : Nat) (mc mm : MemT) : Prop := TrC 42 t k mc mm ∧ Cts mc mm ∧ mc 5 2 = mm 58 26 ∧ mc 5 3 = mm 58 27 ∧ ((mm 58 26 = -6 ∧ mc 5 1 = nI A) ∨ 0 ≤ mm 58 26)
theorem sim_run {t k : Nat} {s : Nat → Int32} {cnt : Int32} {W : PsT} (hcnt : ¬ cnt < 0) : ∀ (n j : Nat) (d : Int32) (w : PsT) (mc mm : MemT), j + n ≤ 60 → w.1 ≤ j → dOk d → (psRun s cnt n j d w).1 < 0 → (psRun s cnt n j d w).2 = W → (∀ i, j ≤ i → i < j + n → mc 4 i = s i) → mm 67 = W.2.1 → mm 68 = W.2.2.1 → mm 69 = W.2.2.2.1 → mm 70 = W.2.2.2.2 → Sim t k d w mc mm → FinM t k W.1 (hlR n j mc) (gmR (W.1 - w.1) w.1 mm) := by
  intro n
  induction n with
  | zero =>
    intro j d w mc mm hj hwj hd hneg hW hs r1 r2 r3 r4 hS
    have e : W = w := hW.symm
    subst e
    rw [Nat.sub_self]
    obtain ⟨⟨hT, hC, h1, h2, h3, h26, h27⟩, -⟩ := hS
    exact ⟨hT, hC, h2.trans h26.symm, h3.trans h27.symm, Or.inl ⟨h26, h1⟩⟩
  | succ n ih =>
    intro j d w mc mm hj hwj hd hneg hW hs r1 r2 r3 r4 hS
    rw [psRun] at hneg hW
    by_cases hc : (psStep d (s j) w).1 < 0
    · rw [if_pos hc] at hneg
      exact absurd hneg (nI_nl (by omega))
    · rw [if_neg hc] at hneg hW
      have hd2 : dOk (psStep d (s j) w).1 := by
        rcases ps_aft (x := s j) w hd with ⟨-, e⟩ | ⟨-, e, e2⟩
        · exact absurd (by rw [e]; decide) hc
        · rw [e]; exact e2
      have e2 : mc 5 2 = -6 := hS.1.2.2.2.1
      have e26 : mm 58 26 = -6 := hS.1.2.2.2.2.2.1
      have kpW : kp (psStep d (s j) w).2 W := by rw [← hW]; exact psRun_kp _ _ _ _ _ _
      rw [hlR, if_pos e2, hs j (by omega) (by omega)]
      have hs2 : ∀ i, j + 1 ≤ i → i < j + 1 + n → rdM (s j) mc 4 i = s i := fun i h1 h2 => by rw [rdM_4]; exact hs i (by omega) (by omega)
      rcases sim_step (x := s j) hd hS (by omega) hc with ⟨a1, a2⟩ | ⟨a0, a1, a2⟩
      · rw [← a1]
        exact ih (j + 1) _ _ _ _ (by omega) (by omega) hd2 hneg hW hs2 r1 r2 r3 r4 a2
      · have hlt : w.1 < (psStep d (s j) w).2.1 := by omega
        obtain ⟨k1, k2, k3, k4⟩ := kpW.2 w.1 hlt
        have hle := kpW.1
        rw [a1] at hle
        have eg : gmR (W.1 - w.1) w.1 mm = gmR (W.1 - (w.1 + 1)) (w.1 + 1) (gmStep w.1 mm) := by
          rw [show W.1 - w.1 = (W.1 - (w.1 + 1)) + 1 by omega, gmR, if_neg (by rw [e26]; decide)]
        rw [eg]
        rcases a2 (by rw [r1]; exact k1) (by rw [r2]; exact k2) (by rw [r3]; exact k3) (by rw [r4]; exact k4) with ⟨b1, b2⟩ | b
        · have hS2 : Sim t k (psStep d (s j) w).1 (psStep d (s j) w).2 (rdM (s j) mc) (gmStep w.1 mm) := by
            refine ⟨by rw [a1]; exact b1, fun _ => b2, fun q => absurd a0 q⟩
          rw [← a1]
          exact ih (j + 1) _ _ _ _ (by omega) (by omega) hd2 hneg hW hs2 ((gmS_ne (by decide) (by decide) _ _).trans r1) ((gmS_ne (by decide) (by decide) _ _).trans r2) ((gmS_ne (by decide) (by decide) _ _).trans r3) ((gmS_ne (by decide) (by decide) _ _).trans r4) hS2
        · obtain ⟨bT, bC, b2, b26, b3⟩ := b
          have nn : 0 ≤ nI w.1 := nI_nn (by omega)
          rw [hlR_stop _ _ (by rw [b2]; intro q; rw [q] at nn; revert nn; decide), gmR_stop _ _ (by rw [b26]; exact nn)]
          exact ⟨bT, bC, b2.trans b26.symm, b3, Or.inr (by rw [b26]; exact nn)⟩
/-! the market's answers -/
theorem sim_mk {t k c : Nat} {μ : MemT} (h : Rel t k c μ) {M : MemT} (hM1 : ∀ r, 58 < r → r ≠ 60 → r ≠ 67 → r ≠ 68 → r ≠ 69 → r ≠ 70 → r ≠ 71 → r ≠ 72 → r ≠ 73 → M r = μ r) (hM0 : ∀ f, (f ≤ 3 ∨ f = 11) → M 58 f = μ 58 f) (hw : ∀ p, p < 8 → M 60 p = μ 60 p) (hff : ffR (μ 4) c 0 0 = -6) (r1 : M 67 = (psAll c μ).2.2.1) (r2 : M 68 = (psAll c μ).2.2.2.1) (r3 : M 69 = (psAll c μ).2.2.2.2.1) (r4 : M 70 = (psAll c μ).2.2.2.2.2) : FinM t k (psAll c μ).2.1 (holdM c μ) (gmM (psAll c μ).2.1 M) := by
  have hpd := rl_pd h
  have hc := pr_hc hpd
  have hneg : (psAll c μ).1 < 0 := by rw [ps_eq h, hff]; decide
  have e := sim_run (t := t) (k := k) (s := μ 66) (cnt := nI c) (W := (psAll c μ).2) (nI_nl (by omega)) c 0 0 (ps0 μ) (stM μ) (gm0 M) (by omega) (Nat.le_refl _) (Or.inl rfl) hneg rfl (fun i _ hi => by rw [stM_4]; exact ((pr_si hpd) i (by omega)).1) (by rw [gm0, mset_ne _ _ (by decide)]; exact r1) (by rw [gm0, mset_ne _ _ (by decide)]; exact r2) (by rw [gm0, mset_ne _ _ (by decide)]; exact r3) (by rw [gm0, mset_ne _ _ (by decide)]; exact r4)
  refine e ⟨⟨?_, ⟨rfl, rfl, rfl, rfl, Or.inl rfl⟩, rfl, rfl, rfl, rfl, rfl⟩, fun _ => ⟨rfl, rfl, rfl, rfl, rfl⟩, fun q => absurd rfl q⟩
  refine TRel_cong (fun f hf => ?_) (fun r hr p hp => ?_) (fun f hf => ?_) (fun r hr p hp => ?_) (rl_tw h)
  · rw [← cp_I (b := 42) (c := 18) f hf]
    unfold xI
    rw [stM, bgM_ne (by decide), mset_ne _ _ (by decide)]
  · rw [← cp_R (b := 42) (c := 18) r hr p hp]
    unfold xR
    rw [stM, bgM_ne (by omega), mset_ne _ _ (by omega)]
  · unfold mI
    rw [gm0, mset_self]
    have hne : ∀ g : Nat, 19 ≤ g → (if f = 4 then 11 else f) ≠ g := fun g hg => by split <;> omega
    rw [upd_ne _ _ (hne 22 (by decide)), upd_ne _ _ (hne 21 (by decide)), upd_ne _ _ (hne 20 (by decide)), upd_ne _ _ (hne 19 (by decide)), upd_ne _ _ (hne 27 (by decide)), upd_ne _ _ (hne 26 (by decide))]
    exact hM0 _ (by split <;> omega)
  · unfold mR
    rw [gm0, mset_ne _ _ (by omega)]
    by_cases h60 : 59 + r = 60
    · rw [h60]; exact hw p hp
    · rw [hM1 _ (by omega) h60 (by omega) (by omega) (by omega) (by omega) (by omega) (by omega) (by omega)]

