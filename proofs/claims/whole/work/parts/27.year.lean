/-! the year -/
theorem nI_div {a b : Nat} (ha : a < 2 ^ 31) (hb : b < 2 ^ 31) (h0 : 0 < b) : nI a / nI b = nI (a / b) := by
  have hab : a / b < 2 ^ 31 := Nat.lt_of_le_of_lt (Nat.div_le_self _ _) ha
  refine Int32.toInt_inj.mp ?_
  rw [Int32.toInt_div_of_ne_right _ _ (fun q => ?_), nI_toInt ha, nI_toInt hb, nI_toInt hab, Int.tdiv_eq_ediv_of_nonneg (by omega)]
  · rfl
  · have := congrArg Int32.toInt q
    rw [nI_toInt hb, show (-1 : Int32).toInt = -1 from rfl] at this
    omega
theorem nI_mod {a b : Nat} (ha : a < 2 ^ 31) (hb : b < 2 ^ 31) (h0 : 0 < b) : nI a - nI a / nI b * nI b = nI (a % b) := by
  rw [nI_div ha hb h0, nI_mul, nI_sub (Nat.div_mul_le_self a b)]
  congr 1
  have := Nat.div_add_mod a b
  rw [Nat.mul_comm] at this
  omega
theorem nI_addN (a b : Nat) : nI a + nI b = nI (a + b) := (Int32.ofNat_add a b).symm
theorem nx_n {X : Nat} (h : X < 65537) : nxI (nI X) = nI ((75 * X + 74) % 65537) := by
  unfold nxI
  rw [show (75 : Int32) = nI 75 from rfl, show (74 : Int32) = nI 74 from rfl, show (65537 : Int32) = nI 65537 from rfl, nI_mul, nI_addN]
  exact nI_mod (by omega) (by decide) (by decide)
theorem yn_n {X : Nat} (h : X < 65537) : ynx (nI X) = nI ((75 * X + 74) % 65537) := by
  have e0 : (nI X).toInt64.toInt = X := by rw [Int32.toInt_toInt64, nI_toInt (by omega)]
  have e1 : (75 * (nI X).toInt64 + 74).toInt = 75 * X + 74 := by
    rw [Int64.toInt_add, Int64.toInt_mul, e0, show (75 : Int64).toInt = 75 from rfl, show (74 : Int64).toInt = 74 from rfl]
    rw [Int.bmod_eq_of_le (n := 75 * (X : Int)) (by omega) (by omega)]
    exact Int.bmod_eq_of_le (by omega) (by omega)
  have e2 : ((75 * (nI X).toInt64 + 74) / 65537).toInt = ((75 * X + 74) / 65537 : Nat) := by
    rw [Int64.toInt_div_of_ne_right _ _ (by decide), e1, show (65537 : Int64).toInt = 65537 from rfl, Int.tdiv_eq_ediv_of_nonneg (by omega)]
    rfl
  have e3 : (75 * (nI X).toInt64 + 74 - (75 * (nI X).toInt64 + 74) / 65537 * 65537).toInt = ((75 * X + 74) % 65537 : Nat) := by
    rw [Int64.toInt_sub, Int64.toInt_mul, e1, e2, show (65537 : Int64).toInt = 65537 from rfl]
    have hd := Nat.div_add_mod (75 * X + 74) 65537
    have hm := Nat.mod_lt (75 * X + 74) (show 0 < 65537 by decide)
    generalize (75 * X + 74) / 65537 = q at hd ⊢
    generalize (75 * X + 74) % 65537 = r at hd hm ⊢
    rw [Int.bmod_eq_of_le (n := (q : Int) * 65537) (by omega) (by omega)]
    rw [Int.bmod_eq_of_le (by omega) (by omega)]
    omega
  refine Int32.toInt_inj.mp ?_
  have hm := Nat.mod_lt (75 * X + 74) (show 0 < 65537 by decide)
  rw [ynx, Int64.toInt_toInt32, e3, nI_toInt (by omega)]
  exact Int.bmod_eq_of_le (by omega) (by omega)
theorem md_n {X : Nat} (h : X < 65537) : md8 (nI X) = nI (X % 8) := by
  unfold md8
  exact nI_mod (b := 8) (by omega) (by decide) (by decide)
theorem day_f {b : Nat} {mc : MemT} (r : Nat) (h1 : r ≠ b) (h2 : r ≠ b + 2) : twDay b mc r = mc r := by
  rw [twDay, mset_ne _ _ h2, mset_ne _ _ h1]
def YC (a g n : Int32) (mc : MemT) : Prop := mc 17 1 = a ∧ mc 17 2 = g ∧ mc 17 3 = n
theorem tr_day50 {t k : Nat} {mc mm : MemT} (hT : TrC 50 t k mc mm) : TrC 50 t k (twDay 50 mc) (mDay mm) := by
  refine tr_mem hT (fun r h1 h2 h3 => ?_) (fun r h1 h2 h3 => ?_) rfl rfl rfl rfl rfl rfl (tr_cd hT) ?_ (fun p hp hb => ?_)
  · exact day_f r (by omega) h3
  · rw [mDay, mset_ne _ _ (by omega), mset_ne _ _ (by omega)]
  · exact congrArg (fun q => q + 1) (tr_dy hT)
  · show pdW (mc 50 7) (mc 53) (mc 52) p = bdW (mm 61) (mm 60) p ∧ inR (pdW (mc 50 7) (mc 53) (mc 52) p) 1 400 = true
    have f2 : mc 52 p = mm 60 p := (tr_wt hT p hp hb).1
    have f3 : mc 53 p = mm 61 p := (tr_dr hT p hp hb).1
    rw [show mc 50 7 = nI t from tr_aps hT, pdW_at hp, if_pos hb, bdW_at hp, f2, f3]
    exact ⟨rfl, drf_in _ _⟩
theorem ys_step {t k X : Nat} {mc : MemT} {a g n : Int32} {mm : MemT} (hX : X < 65537) (hT : TrC 50 t k mc mm) (hY : YC a g n mc) : TrC 50 t k (yrStep (nI X) mc) (ymP (nI X) a g n (ymG (nI X) mm)).2.2.2.2 ∧ YC (ymP (nI X) a g n (ymG (nI X) mm)).2.1 (ymP (nI X) a g n (ymG (nI X) mm)).2.2.1 (ymP (nI X) a g n (ymG (nI X) mm)).2.2.2.1 (yrStep (nI X) mc) ∧ (ymP (nI X) a g n (ymG (nI X) mm)).1 = nI X := by
  have hD : TrC 50 t k (yrDay (nI X) mc) (ymG (nI X) mm) ∧ YC a g n (yrDay (nI X) mc) := by
    unfold yrDay ymG
    by_cases c : nI X / 8 - nI X / 8 / 2 * 2 = 1
    · rw [if_pos c, if_pos c]
      exact ⟨tr_day50 hT, hY⟩
    · rw [if_neg c, if_neg c]
      exact ⟨hT, hY⟩
  obtain ⟨hT, hY⟩ := hD
  unfold yrStep ymP
  generalize yrDay (nI X) mc = mc at hT hY ⊢
  generalize ymG (nI X) mm = mm at hT ⊢
  have ht := tr_ht hT
  have e7 : mc 50 7 = nI t := tr_aps hT
  have e0 : mm 58 0 = nI t := show mI mm 0 = nI t from tr_bps hT
  have hp : X % 8 < 8 := Nat.mod_lt _ (by decide)
  rw [md_n hX, e7, e0, isP_n hp]
  generalize X % 8 = p at hp ⊢
  by_cases hb : bt (nI t) p = true
  · rw [if_pos hb, if_pos hb]
    rw [show (nI p).toNatClampNeg = p from nI_clamp (by omega)]
    have hs : mc 54 p = mm 62 p ∧ spOk t (mc 54) p := tr_sp hT p hp
    have hU : yrX p mc = ymU (nI p) mm ∧ subI (yrX p mc) (nI t) = true := by
      unfold yrX ymU ptn
      rw [cl_8 hp, ← hs.1]
      rcases hs.2 with gg | ⟨s, g1, g2, g3, g4, g5, g6⟩
      · rw [gg, if_pos rfl, if_neg (by decide)]
        refine ⟨rfl, ?_⟩
        rw [or_0, mk_shl p hp, sub_bit t ht p hp]; exact hb
      · rw [g3, if_neg (nI_n6 s g1), if_pos (nI_nn (by omega))]
        refine ⟨rfl, ?_⟩
        rw [subI_or, mk_shl p hp, mk_shl s g1, sub_bit t ht p hp, sub_bit t ht s g1, g5, g6]; rfl
    obtain ⟨hU1, hU2⟩ := hU
    have hA : yrA p mc = sumB (ymU (nI p) mm) (mm 59) := by
      rw [yrA, e7, subI_and hU2, ← hU1]
      exact sumB_cong (fun q hq hb2 => (tr_sw hT q hq (sub_bt ht hU2 hq hb2)).1)
    have hG : yrG p mc = wcB (ymU (nI p) mm) (mm 58 1) (mm 60) := by
      rw [yrG, e7, subI_and hU2, ← hU1, show mc 50 8 = mm 58 1 from tr_cd hT]
      exact wcB_cong (fun q hq hb2 => (tr_wt hT q hq (sub_bt ht hU2 hq hb2)).1)
    have e9 : mc 50 9 = mm 58 2 := tr_lm hT
    have hT2 : TrC 50 t k (yrSell p mc) mm := by
      refine TRel_cong (fun f _ => ?_) (fun r h4 q _ => ?_) (fun _ _ => rfl) (fun _ _ _ _ => rfl) hT
      · unfold xI yrSell; rw [mset_ne _ _ (by decide)]
      · unfold xR yrSell; rw [mset_ne _ _ (by omega)]
    refine ⟨hT2, ⟨?_, ?_, ?_⟩, rfl⟩
    · rw [yrSell, mset_self, hA, hG, hY.1, hY.2.1, hY.2.2]
      split <;> rfl
    · rw [yrSell, mset_self, hA, hG, hY.1, hY.2.1, hY.2.2]
      split <;> rfl
    · rw [yrSell, mset_self, hA, hG, hY.1, hY.2.1, hY.2.2, e9, abI_neg (wcB (ymU (nI p) mm) (mm 58 1) (mm 60)) (sumB (ymU (nI p) mm) (mm 59))]
      show _ = n + _
      by_cases hl : abI (sumB (ymU (nI p) mm) (mm 59) - wcB (ymU (nI p) mm) (mm 58 1) (mm 60)) ≤ mm 58 2
      · rw [if_pos hl, if_pos hl, Int32.add_zero]
        exact hY.2.2
      · rw [if_neg hl, if_neg hl]; rfl
  · rw [if_neg hb, if_neg hb]
    exact ⟨hT, hY, rfl⟩
theorem ys_run {t k : Nat} {μ : MemT} : ∀ (q j X : Nat) (mc : MemT) (a g n : Int32) (mm : MemT), X < 65537 → TrC 50 t k mc mm → YC a g n mc → FrK μ mm → ∃ mm2 a2 g2 n2 x2, itr ymS q j (nI X, a, g, n, mm) = (x2, a2, g2, n2, mm2) ∧ YC a2 g2 n2 (yrR q (nI X) mc) ∧ FrK μ mm2 := by
  intro q
  induction q with
  | zero => intro j X mc a g n mm hX hT hY hF; exact ⟨mm, a, g, n, nI X, rfl, hY, hF⟩
  | succ q ih =>
    intro j X mc a g n mm hX hT hY hF
    have hX2 : (75 * X + 74) % 65537 < 65537 := Nat.mod_lt _ (by decide)
    have eS : ymS j (nI X, a, g, n, mm) = ymP (nI ((75 * X + 74) % 65537)) a g n (ymG (nI ((75 * X + 74) % 65537)) mm) := by
      show ymP (ynx (nI X)) a g n (ymG (ynx (nI X)) mm) = _
      rw [yn_n hX]
    rw [itr_S, eS, yrR, nx_n hX]
    obtain ⟨s1, s2, s3⟩ := ys_step (a := a) (g := g) (n := n) hX2 hT hY
    have hF2 : FrK μ (ymP (nI ((75 * X + 74) % 65537)) a g n (ymG (nI ((75 * X + 74) % 65537)) mm)).2.2.2.2 := by
      have hG : FrK μ (ymG (nI ((75 * X + 74) % 65537)) mm) := by
        unfold ymG
        split
        · exact frK_day hF
        · exact hF
      unfold ymP
      split
      · exact hG
      · exact hG
    generalize hw : ymP (nI ((75 * X + 74) % 65537)) a g n (ymG (nI ((75 * X + 74) % 65537)) mm) = w at s1 s2 s3 hF2 ⊢
    obtain ⟨w1, w2, w3, w4, w5⟩ := w
    cases s3
    exact ih (j + 1) _ _ w2 w3 w4 w5 hX2 s1 s2 hF2
theorem yrR_ne {r : Nat} (h1 : r ≠ 17) (h2 : r < 50 ∨ 58 ≤ r) : ∀ (q : Nat) (x : Int32) (μ : MemT), yrR q x μ r = μ r := by
  intro q
  induction q with
  | zero => intro x μ; rfl
  | succ q ih =>
    intro x μ
    rw [yrR, ih]
    have hd : yrDay (nxI x) μ r = μ r := by
      unfold yrDay
      split
      · exact day_f r (by omega) (by omega)
      · rfl
    unfold yrStep
    split
    · rw [yrSell, mset_ne _ _ h1, hd]
    · exact hd
theorem rl_year {t k c : Nat} {μ : MemT} (h : Rel t k c μ) (s m w : Int32) : (mYear s m w (xYear s m w μ).2).1 = (xYear s m w μ).1 ∧ Rel t k c (mYear s m w (xYear s m w μ).2).2 := by
  by_cases hr : (inR s 0 9999 && (inR m 1 99 && inR w 0 2)) = true
  · have nf : ¬ (inR s 0 9999 && (inR m 1 99 && inR w 0 2)) = false := by rw [hr]; decide
    rw [xYear, if_pos hr]
    rw [Bool.and_eq_true] at hr
    obtain ⟨X, hX, rfl⟩ := inR_ex (n := 9999) hr.1
    generalize hM : yrM (cl m) (nI X) μ = M
    have g : ∀ r, r ≠ 17 → (r < 50 ∨ 58 ≤ r) → M r = μ r := fun r h1 h2 => by
      rw [← hM, yrM, yrR_ne h1 h2, mset_ne _ _ h1, cp_ne (by omega)]
    have hR : Rel t k c M := rl_cong h (g 2 (by decide) (by decide)) (g 78 (by decide) (by decide)) (g 77 (by decide) (by decide)) (by rw [g 3 (by decide) (by decide)]) (g 4 (by decide) (by decide)) (g 66 (by decide) (by decide)) (fun r h1 h2 => g r (by omega) (by omega)) (fun r h1 h2 p _ => by rw [g r (by omega) (by omega)]) (fun f hf => by rw [g 58 (by decide) (by decide)]) (by rw [g 7 (by decide) (by decide)]; exact rl_z7 h) (by rw [g 8 (by decide) (by decide)]; exact rl_z8 h) (by rw [g 9 (by decide) (by decide)]; exact rl_z9 h)
    have hT0 : TrC 50 t k (mset (twCopy 50 18 μ) 17 (upd (upd (upd (μ 17) 1 0) 2 0) 3 0)) (mKeep M) := by
      refine TRel_cong (fun f hf => ?_) (fun r hr p hp => ?_) (fun f hf => ?_) (fun r hr p hp => ?_) (rl_tw h)
      · rw [← cp_I (b := 50) (c := 18) f hf]
        unfold xI
        rw [mset_ne _ _ (by decide)]
      · rw [← cp_R (b := 50) (c := 18) r hr p hp]
        unfold xR
        rw [mset_ne _ _ (by omega)]
      · unfold mI
        rw [mKeep, mset_self, upd_ne _ _ (by split <;> omega), upd_ne _ _ (by split <;> omega), g 58 (by decide) (by decide)]
      · unfold mR
        rw [mKeep, mset_ne _ _ (by omega), mset_ne _ _ (by omega), g _ (by omega) (by omega)]
    obtain ⟨mm2, a2, g2, n2, x2, e1, e2, e3⟩ := ys_run (μ := M) (cl m) 0 X _ 0 0 0 (mKeep M) (by omega) hT0 ⟨rfl, rfl, rfl⟩ (frK_keep M)
    have eR : ymR (cl m) (nI X) M = (x2, a2, g2, n2, mm2) := e1
    have eY : yrR (cl m) (nI X) (mset (twCopy 50 18 μ) 17 (upd (upd (upd (μ 17) 1 0) 2 0) 3 0)) = M := hM
    rw [eY] at e2
    show (mYear (nI X) m w M).1 = _ ∧ Rel t k c (mYear (nI X) m w M).2
    rw [mYear, if_neg nf, eR]
    refine ⟨?_, rl_back hR e3⟩
    show (if w = 0 then a2 else if w = 1 then g2 else n2) = (if w = 0 then M 17 1 else if w = 1 then M 17 2 else M 17 3)
    rw [e2.1, e2.2.1, e2.2.2]
  · have nf : (inR s 0 9999 && (inR m 1 99 && inR w 0 2)) = false := by simpa using hr
    rw [xYear, if_neg hr]
    show (mYear s m w μ).1 = _ ∧ Rel t k c (mYear s m w μ).2
    rw [mYear, if_pos nf]
    exact ⟨rfl, h⟩

