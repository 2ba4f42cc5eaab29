/-! fractions -/
theorem lg0 (x y : Int64) : lg_cmp x y = 0 ↔ x = y := by
  unfold lg_cmp
  split
  · rename_i h
    constructor
    · intro q; cases q
    · intro q; subst q; exact absurd h (Int64.lt_irrefl)
  · split
    · rename_i h; simp [h]
    · rename_i h; constructor
      · intro q; cases q
      · intro q; exact absurd q h
theorem lgle (x y : Int64) : lg_cmp x y ≤ 0 ↔ ¬ y < x := by
  unfold lg_cmp
  split
  · rename_i h
    constructor
    · intro q; exact absurd q (by decide)
    · intro q; exact absurd h q
  · rename_i h
    constructor
    · intro _; exact h
    · intro _; split <;> decide
def gcL : Nat → Int64 → Int64 → Int64
  | 0, a, _ => a
  | n + 1, a, b => if b = 0 then a else gcL n b (a - a / b * b)
theorem gcL_0 (n : Nat) (a : Int64) : gcL n a 0 = a := by
  cases n with
  | zero => rfl
  | succ n => rw [gcL, if_pos rfl]
def powL (x : Int32) (k : Nat) : Int64 := itr (fun _ s => s * x.toInt64) k 0 1
def labs (x : Int64) : Int64 := if 0 < x then x else -x
def frU (a b : Int64) : Int64 := if 1 < gcL 200 (labs a) b then a / gcL 200 (labs a) b else a
def frL (a b : Int64) : Int64 := if 1 < gcL 200 (labs a) b then b / gcL 200 (labs a) b else b
def frRow (u l : Int64) (r : Nat → Int32) : Nat → Int32 := upd (upd (upd (upd r 0 (sw_hi u)) 1 (sw_lo u)) 2 (sw_hi l)) 3 (sw_lo l)
def putF (a b : Int64) (μ : MemT) : MemT := mset μ 16 (frRow (frU a b) (frL a b) (μ 16))
theorem cnt_mono {c d : Nat → Bool} (h : ∀ p, c p = true → d p = true) : ∀ (n j a b : Nat), a ≤ b → itr (fun p n => if c p then n + 1 else n) n j a ≤ itr (fun p n => if d p then n + 1 else n) n j b
  | 0, _, _, _, hab => hab
  | n + 1, j, a, b, hab => by
    rw [itr_S, itr_S]
    refine cnt_mono h n (j + 1) _ _ ?_
    by_cases hc : c j = true
    · rw [if_pos hc, if_pos (h j hc)]; omega
    · rw [if_neg hc]; split <;> omega
theorem pc_sbs (w j : Nat) : pc (sbs w j) ≤ pc w := by
  cases j with
  | zero => exact cnt_mono (fun p h => by rw [sbs, Nat.zero_testBit] at h; cases h) 8 0 0 0 (Nat.le_refl _)
  | succ j => exact cnt_mono (fun p h => by
      unfold sbs nxN at h
      rw [Nat.testBit_and, Bool.and_eq_true] at h
      exact h.2) 8 0 0 0 (Nat.le_refl _)

set_option maxRecDepth 100000 in
set_option maxHeartbeats 4000000 in
theorem kX0_sharedDivisor {l : Launch} {G : GT} {μ : MemT} {x y : Int64} : sw_Met l G yX0_sharedDivisor cX0_sharedDivisor 11 (some .long) (rmk 0 0) [.long x, .long y] μ (fun v μ2 => v = some (.long (gcL 200 x y)) ∧ μ2 = μ) := by
  refine sw_Met.ofY (by decide) (Nat.le_of_ble_eq_true rfl) rfl ?_
  refine y_lload_n dX0_sharedDivisor_0 rfl rfl ?_
  refine y_lstore dX0_sharedDivisor_1 rfl (by decide) ?_
  refine y_lload_n dX0_sharedDivisor_3 rfl rfl ?_
  refine y_lstore dX0_sharedDivisor_4 rfl (by decide) ?_
  refine y_iconst (v := nI 0) dX0_sharedDivisor_6 icn_0 ?_
  refine y_istore dX0_sharedDivisor_7 rfl (by decide) ?_
  refine y_loop2 (fun (j : Nat) (a : Int64) (c : Int64) => [some (.long x), none, some (.long y), none, some (.long a), none, some (.long c), none, some (.int (nI j)), none, none]) (fun (j : Nat) (a : Int64) (c : Int64) => μ) (fun (j : Nat) (a : Int64) (c : Int64) => gcL (200 - j) a c = gcL 200 x y) 200 (fun a c hv9 => ?_) (fun j a c hj hv9 ih9 => ?_) 0 (x) (y) (Nat.zero_le _) (rfl)
  · refine y_iload dX0_sharedDivisor_9 rfl ?_
    refine y_sipush dX0_sharedDivisor_11 is_200 ?_
    refine y_icmp_ge 45 dX0_sharedDivisor_14 (by decide) (fun _ => ?_) (fun hq => absurd (by decide) hq)
    refine y_lload dX0_sharedDivisor_45 rfl ?_
    refine y_lret dX0_sharedDivisor_47 ?_
    first
      | exact ⟨by rw [← hv9, if_pos ((lg0 _ _).mp h21)], rfl⟩
      | exact ⟨by rw [← hv9, Nat.sub_self, gcL], rfl⟩
  · rw [sub_s hj, gcL] at hv9
    refine y_iload dX0_sharedDivisor_9 rfl ?_
    refine y_sipush dX0_sharedDivisor_11 is_200 ?_
    refine y_icmp_ge 45 dX0_sharedDivisor_14 (by decide) (fun hq => absurd hq (nI_ge (b := 200) hj (by decide))) (fun _ => ?_)
    refine y_lload dX0_sharedDivisor_17 rfl ?_
    refine y_lconst dX0_sharedDivisor_19 lc_0 ?_
    refine y_lcmp dX0_sharedDivisor_20 ?_
    refine y_if_eq 45 dX0_sharedDivisor_21 (by decide) (fun h21 => ?_) (fun h21 => ?_)
    · refine y_lload dX0_sharedDivisor_45 rfl ?_
      refine y_lret dX0_sharedDivisor_47 ?_
      first
        | exact ⟨by rw [← hv9, if_pos ((lg0 _ _).mp h21)], rfl⟩
        | exact ⟨by rw [← hv9, Nat.sub_self, gcL], rfl⟩
    · refine y_lload dX0_sharedDivisor_24 rfl ?_
      refine y_lload dX0_sharedDivisor_26 rfl ?_
      refine y_lrem dX0_sharedDivisor_28 (fun q => h21 ((lg0 _ _).mpr q)) ?_
      refine y_lstore dX0_sharedDivisor_29 rfl (by decide) ?_
      refine y_lload dX0_sharedDivisor_31 rfl ?_
      refine y_lstore dX0_sharedDivisor_33 rfl (by decide) ?_
      refine y_lload dX0_sharedDivisor_35 rfl ?_
      refine y_lstore dX0_sharedDivisor_37 rfl (by decide) ?_
      refine y_iinc (v := nI (j + 1)) dX0_sharedDivisor_39 rfl (nI_i1 _) rfl (by decide) ?_
      refine y_goto 9 dX0_sharedDivisor_42 (by decide) ?_
      exact y_drop 9 (ih9 _ _ (by rw [← hv9, if_neg (fun q => h21 ((lg0 _ _).mpr q))]))

set_option maxRecDepth 100000 in
set_option maxHeartbeats 4000000 in
theorem kX0_power {l : Launch} {G : GT} {μ : MemT} {x y : Int32} {k : Nat} (hk : k < 2 ^ 31) (hx : y = nI k) : sw_Met l G yX0_power cX0_power 5 (some .long) (rmk 0 0) [.int x, .int y] μ (fun v μ2 => v = some (.long (powL x k)) ∧ μ2 = μ) := by
  subst hx
  refine sw_Met.ofY (by decide) (Nat.le_of_ble_eq_true rfl) rfl ?_
  refine y_lconst dX0_power_0 lc_1 ?_
  refine y_lstore_n dX0_power_1 rfl rfl (by decide) ?_
  refine y_iconst (v := nI 0) dX0_power_2 icn_0 ?_
  refine y_istore dX0_power_3 rfl (by decide) ?_
  refine y_loop1 (fun (j : Nat) (a : Int64) => [some (.int x), some (.int (nI k)), some (.long a), none, some (.int (nI j))]) (fun (j : Nat) (a : Int64) => μ) (fun (j : Nat) (a : Int64) => itr (fun _ s => s * x.toInt64) (k - j) j a = powL x k) k (fun a hv5 => ?_) (fun j a hj hv5 ih5 => ?_) 0 (1) (Nat.zero_le _) (rfl)
  · refine y_iload dX0_power_5 rfl ?_
    refine y_iload_n dX0_power_7 rfl rfl ?_
    refine y_icmp_ge 22 dX0_power_8 (by decide) (fun _ => ?_) (fun hq => absurd (Int32.le_refl _) hq)
    refine y_lload_n dX0_power_22 rfl rfl ?_
    refine y_lret dX0_power_23 ?_
    exact ⟨by rw [itr_ex hv5], rfl⟩
  · refine y_iload dX0_power_5 rfl ?_
    refine y_iload_n dX0_power_7 rfl rfl ?_
    refine y_icmp_ge 22 dX0_power_8 (by decide) (fun hq => absurd hq (nI_ge hj hk)) (fun _ => ?_)
    refine y_lload_n dX0_power_11 rfl rfl ?_
    refine y_iload_n dX0_power_12 rfl rfl ?_
    refine y_i2l dX0_power_13 ?_
    refine y_lmul dX0_power_14 ?_
    refine y_lstore_n dX0_power_15 rfl rfl (by decide) ?_
    refine y_iinc (v := nI (j + 1)) dX0_power_16 rfl (nI_i1 _) rfl (by decide) ?_
    refine y_goto 5 dX0_power_19 (by decide) ?_
    exact ih5 _ (itr_nx hj hv5 rfl)

set_option maxRecDepth 100000 in
set_option maxHeartbeats 4000000 in
theorem kX0_put {l : Launch} {G : GT} {μ : MemT} {x y : Int64} : sw_Met l G yX0_put cX0_put 7 none (rmk 1 30) [.ref (G.2.1 16), .long x, .long y] μ (fun v μ2 => v = none ∧ μ2 = putF x y μ) := by
  refine sw_Met.ofY (by decide) (Nat.le_of_ble_eq_true rfl) rfl ?_
  refine y_lload_n dX0_put_0 rfl rfl ?_
  refine y_mabsl dX0_put_1 wm_ml_X0_44 (by decide) (Nat.le_of_ble_eq_true rfl) ?_
  refine y_lload_n dX0_put_4 rfl rfl ?_
  refine y_cS2 dX0_put_5 meX0_sharedDivisor wm_ml_X0_50 (kX0_sharedDivisor) ⟨Nat.le_of_ble_eq_true rfl, Nat.le_of_ble_eq_true rfl⟩ ⟨rfl, rfl⟩ (Nat.le_of_ble_eq_true rfl) (fun v5 μ5 hp5 => ?_)
  obtain ⟨rfl, he5⟩ := hp5
  replace he5 := he5.symm
  subst he5
  refine y_rl ?_
  refine y_lstore dX0_put_8 rfl (by decide) ?_
  refine y_aload_n dX0_put_10 rfl rfl ?_
  refine y_lload dX0_put_11 rfl ?_
  refine y_lconst dX0_put_13 lc_1 ?_
  refine y_lcmp dX0_put_14 ?_
  refine y_if_le 25 dX0_put_15 (by decide) (fun h15 => ?_) (fun h15 => ?_)
  · refine y_lload_n dX0_put_25 rfl rfl ?_
    refine y_putl dX0_put_26 0 clX0 kd_16 (by decide) wm_fl_X0_54 rfl rfl rfl rfl (tyX0_ok 0 (by decide)) rfl rfl ?_
    refine y_aload_n dX0_put_29 rfl rfl ?_
    refine y_lload dX0_put_30 rfl ?_
    refine y_lconst dX0_put_32 lc_1 ?_
    
    refine y_lcmp dX0_put_33 ?_
    refine y_if_le 44 dX0_put_34 (by decide) (fun h34 => ?_) (fun h34 => ?_)
    · refine y_lload_n dX0_put_44 rfl rfl ?_
      refine y_putl dX0_put_45 1 clX0 kd_16 (by decide) wm_fl_X0_58 rfl rfl rfl rfl (tyX0_ok 1 (by decide)) rfl rfl ?_
      refine y_vret dX0_put_48 ?_
      refine ⟨rfl, ?_⟩
      simp only [lgle] at *
      simp_all [-Int64.not_lt, putF, frU, frL, frRow, labs, mset_mset, mset_self, mset, upd]
    · have g2 : (1 : Int64) < gcL 200 (labs x) y := Decidable.not_not.mp (fun q => h34 ((lgle _ _).mpr q))
      refine y_lload_n dX0_put_37 rfl rfl ?_
      refine y_lload dX0_put_38 rfl ?_
      refine y_ldiv dX0_put_40 (fun q => by rw [show gcL 200 (if 0 < x then x else -x) y = gcL 200 (labs x) y from rfl] at q; rw [q] at g2; exact absurd g2 (by decide)) ?_
      refine y_goto 45 dX0_put_41 (by decide) ?_
      refine y_putl dX0_put_45 1 clX0 kd_16 (by decide) wm_fl_X0_58 rfl rfl rfl rfl (tyX0_ok 1 (by decide)) rfl rfl ?_
      refine y_vret dX0_put_48 ?_
      refine ⟨rfl, ?_⟩
      simp only [lgle] at *
      simp_all [-Int64.not_lt, putF, frU, frL, frRow, labs, mset_mset, mset_self, mset, upd]
  · have g1 : (1 : Int64) < gcL 200 (labs x) y := Decidable.not_not.mp (fun q => h15 ((lgle _ _).mpr q))
    refine y_lload_n dX0_put_18 rfl rfl ?_
    refine y_lload dX0_put_19 rfl ?_
    refine y_ldiv dX0_put_21 (fun q => by rw [show gcL 200 (if 0 < x then x else -x) y = gcL 200 (labs x) y from rfl] at q; rw [q] at g1; exact absurd g1 (by decide)) ?_
    refine y_goto 26 dX0_put_22 (by decide) ?_
    refine y_putl dX0_put_26 0 clX0 kd_16 (by decide) wm_fl_X0_54 rfl rfl rfl rfl (tyX0_ok 0 (by decide)) rfl rfl ?_
    refine y_aload_n dX0_put_29 rfl rfl ?_
    refine y_lload dX0_put_30 rfl ?_
    refine y_lconst dX0_put_32 lc_1 ?_
    
    refine y_lcmp dX0_put_33 ?_
    refine y_if_le 44 dX0_put_34 (by decide) (fun h34 => ?_) (fun h34 => ?_)
    · refine y_lload_n dX0_put_44 rfl rfl ?_
      refine y_putl dX0_put_45 1 clX0 kd_16 (by decide) wm_fl_X0_58 rfl rfl rfl rfl (tyX0_ok 1 (by decide)) rfl rfl ?_
      refine y_vret dX0_put_48 ?_
      refine ⟨rfl, ?_⟩
      simp only [lgle] at *
      simp_all [-Int64.not_lt, putF, frU, frL, frRow, labs, mset_mset, mset_self, mset, upd]
    · have g2 : (1 : Int64) < gcL 200 (labs x) y := Decidable.not_not.mp (fun q => h34 ((lgle _ _).mpr q))
      refine y_lload_n dX0_put_37 rfl rfl ?_
      refine y_lload dX0_put_38 rfl ?_
      refine y_ldiv dX0_put_40 (fun q => by rw [show gcL 200 (if 0 < x then x else -x) y = gcL 200 (labs x) y from rfl] at q; rw [q] at g2; exact absurd g2 (by decide)) ?_
      refine y_goto 45 dX0_put_41 (by decide) ?_
      refine y_putl dX0_put_45 1 clX0 kd_16 (by decide) wm_fl_X0_58 rfl rfl rfl rfl (tyX0_ok 1 (by decide)) rfl rfl ?_
      refine y_vret dX0_put_48 ?_
      refine ⟨rfl, ?_⟩
      simp only [lgle] at *
      simp_all [-Int64.not_lt, putF, frU, frL, frRow, labs, mset_mset, mset_self, mset, upd]

def aheS (x y : Int32) (b : Nat) (μ : MemT) : Int32 := sumB (x &&& μ b 7) (μ (b + 2)) - sumB (y &&& μ b 7) (μ (b + 2))
def meanM (x y t k : Int32) (μ : MemT) : MemT := putF (10 * (aheS x y 18 μ).toInt64 + t.toInt64 * k.toInt64 * (bcI x - bcI y).toInt64) 10 μ
def hvS (a b : Nat) (t k ah : Int32) (j : Nat) (w : Int64) : Int64 := if ah + k * (bcI (nI (sbs (a ||| b) j) &&& nI a) - bcI (nI (sbs (a ||| b) j) &&& nI b)) ≤ 0 then w else w + powL t (pc (sbs (a ||| b) j)) * powL (10 - t) (pc (a ||| b) - pc (sbs (a ||| b) j))
def hvR (a b : Nat) (t k ah : Int32) : Int64 := itr (hvS a b t k ah) (2 ^ pc (a ||| b)) 0 0
def heavM (a b : Nat) (t k : Int32) (μ : MemT) : MemT := putF (hvR a b t k (aheS (nI a) (nI b) 18 μ)) (powL 10 (pc (a ||| b))) μ

set_option maxRecDepth 100000 in
set_option maxHeartbeats 4000000 in
theorem kX0_setMean {l : Launch} {G : GT} {μ : MemT} {x y t k : Int32} : sw_Met l G yX0_setMean cX0_setMean 8 none (rmk 2 56) [.ref (G.2.1 16), .ref (G.2.1 18), .int x, .int y, .int t, .int k] μ (fun v μ2 => v = none ∧ μ2 = meanM x y t k μ) := by
  refine sw_Met.ofY (by decide) (Nat.le_of_ble_eq_true rfl) rfl ?_
  refine y_aload_n dX0_setMean_0 rfl rfl ?_
  refine y_iload_n dX0_setMean_1 rfl rfl ?_
  refine y_aload_n dX0_setMean_2 rfl rfl ?_
  refine y_getr dX0_setMean_3 1 clX4 kd_18 (by decide) wm_fl_X0_7 rfl rfl ?_
  refine y_cV2 dX0_setMean_6 meX4_sumOver clX4 kd_18 wm_ml_X0_13 (kX4_sumOver tw18 (hf := kd_20)) ⟨Nat.le_of_ble_eq_true rfl, Nat.le_of_ble_eq_true rfl⟩ ⟨rfl, rfl⟩ (Nat.le_of_ble_eq_true rfl) (fun v6 μ6 hp6 => ?_)
  obtain ⟨rfl, he6⟩ := hp6
  replace he6 := he6.symm
  subst he6
  refine y_ri ?_
  refine y_aload_n dX0_setMean_9 rfl rfl ?_
  refine y_iload_n dX0_setMean_10 rfl rfl ?_
  refine y_aload_n dX0_setMean_11 rfl rfl ?_
  refine y_getr dX0_setMean_12 1 clX4 kd_18 (by decide) wm_fl_X0_7 rfl rfl ?_
  refine y_cV2 dX0_setMean_15 meX4_sumOver clX4 kd_18 wm_ml_X0_13 (kX4_sumOver tw18 (hf := kd_20)) ⟨Nat.le_of_ble_eq_true rfl, Nat.le_of_ble_eq_true rfl⟩ ⟨rfl, rfl⟩ (Nat.le_of_ble_eq_true rfl) (fun v15 μ15 hp15 => ?_)
  obtain ⟨rfl, he15⟩ := hp15
  replace he15 := he15.symm
  subst he15
  refine y_ri ?_
  refine y_isub dX0_setMean_18 ?_
  refine y_istore dX0_setMean_19 rfl (by decide) ?_
  refine y_iload_n dX0_setMean_21 rfl rfl ?_
  refine y_cS1 dX0_setMean_22 meJ6_bitCount_0f7a4 wm_ml_X0_17 (kJ6_bitCount_0f7a4) ⟨Nat.le_of_ble_eq_true rfl, Nat.le_of_ble_eq_true rfl⟩ ⟨rfl, rfl⟩ (Nat.le_of_ble_eq_true rfl) (fun v22 μ22 hp22 => ?_)
  obtain ⟨rfl, he22⟩ := hp22
  replace he22 := he22.symm
  subst he22
  refine y_ri ?_
  refine y_iload_n dX0_setMean_25 rfl rfl ?_
  refine y_cS1 dX0_setMean_26 meJ6_bitCount_0f7a4 wm_ml_X0_17 (kJ6_bitCount_0f7a4) ⟨Nat.le_of_ble_eq_true rfl, Nat.le_of_ble_eq_true rfl⟩ ⟨rfl, rfl⟩ (Nat.le_of_ble_eq_true rfl) (fun v26 μ26 hp26 => ?_)
  obtain ⟨rfl, he26⟩ := hp26
  replace he26 := he26.symm
  subst he26
  refine y_ri ?_
  refine y_isub dX0_setMean_29 ?_
  refine y_istore dX0_setMean_30 rfl (by decide) ?_
  refine y_aload_n dX0_setMean_32 rfl rfl ?_
  refine y_ldc2 dX0_setMean_33 wm_cl_X0_42 ?_
  refine y_iload dX0_setMean_36 rfl ?_
  refine y_i2l dX0_setMean_38 ?_
  refine y_lmul dX0_setMean_39 ?_
  refine y_iload dX0_setMean_40 rfl ?_
  refine y_i2l dX0_setMean_42 ?_
  refine y_iload dX0_setMean_43 rfl ?_
  refine y_i2l dX0_setMean_45 ?_
  refine y_lmul dX0_setMean_46 ?_
  refine y_iload dX0_setMean_47 rfl ?_
  refine y_i2l dX0_setMean_49 ?_
  refine y_lmul dX0_setMean_50 ?_
  refine y_ladd dX0_setMean_51 ?_
  refine y_ldc2 dX0_setMean_52 wm_cl_X0_42 ?_
  refine y_cV2 dX0_setMean_55 meX0_put clX0 kd_16 wm_ml_X0_38 (kX0_put) ⟨Nat.le_of_ble_eq_true rfl, Nat.le_of_ble_eq_true rfl⟩ ⟨rfl, rfl⟩ (Nat.le_of_ble_eq_true rfl) (fun v55 μ55 hp55 => ?_)
  obtain ⟨rfl, he55⟩ := hp55
  replace he55 := he55.symm
  subst he55
  refine y_rv ?_
  refine y_vret dX0_setMean_58 ?_
  exact ⟨rfl, rfl⟩

theorem or_lt {a b : Nat} (ha : a < 256) (hb : b < 256) : a ||| b < 256 := Nat.or_lt_two_pow (n := 8) ha hb
theorem pc8 {s : Nat} (h : s < 256) : pc s < 2 ^ 31 := Nat.lt_of_le_of_lt (mk_bc s h).2 (by decide)

set_option maxRecDepth 100000 in
set_option maxHeartbeats 4000000 in
theorem kX0_setHeavier {l : Launch} {G : GT} {μ : MemT} {a : Nat} (ha : a < 256) {b : Nat} (hb : b < 256) {t k : Int32} : sw_Met l G yX0_setHeavier cX0_setHeavier 16 none (rmk 2 56) [.ref (G.2.1 16), .ref (G.2.1 18), .int (nI a), .int (nI b), .int t, .int k] μ (fun v μ2 => v = none ∧ μ2 = heavM a b t k μ) := by
  refine sw_Met.ofY (by decide) (Nat.le_of_ble_eq_true rfl) rfl ?_
  refine y_iload_n dX0_setHeavier_0 rfl rfl ?_
  refine y_iload_n dX0_setHeavier_1 rfl rfl ?_
  refine y_ior dX0_setHeavier_2 ?_
  rw [nI_or]
  refine y_istore dX0_setHeavier_3 rfl (by decide) ?_
  refine y_aload_n dX0_setHeavier_5 rfl rfl ?_
  refine y_iload_n dX0_setHeavier_6 rfl rfl ?_
  refine y_aload_n dX0_setHeavier_7 rfl rfl ?_
  refine y_getr dX0_setHeavier_8 1 clX4 kd_18 (by decide) wm_fl_X0_7 rfl rfl ?_
  refine y_cV2 dX0_setHeavier_11 meX4_sumOver clX4 kd_18 wm_ml_X0_13 (kX4_sumOver tw18 (hf := kd_20)) ⟨Nat.le_of_ble_eq_true rfl, Nat.le_of_ble_eq_true rfl⟩ ⟨rfl, rfl⟩ (Nat.le_of_ble_eq_true rfl) (fun v11 μ11 hp11 => ?_)
  obtain ⟨rfl, he11⟩ := hp11
  replace he11 := he11.symm
  subst he11
  refine y_ri ?_
  refine y_aload_n dX0_setHeavier_14 rfl rfl ?_
  refine y_iload_n dX0_setHeavier_15 rfl rfl ?_
  refine y_aload_n dX0_setHeavier_16 rfl rfl ?_
  refine y_getr dX0_setHeavier_17 1 clX4 kd_18 (by decide) wm_fl_X0_7 rfl rfl ?_
  refine y_cV2 dX0_setHeavier_20 meX4_sumOver clX4 kd_18 wm_ml_X0_13 (kX4_sumOver tw18 (hf := kd_20)) ⟨Nat.le_of_ble_eq_true rfl, Nat.le_of_ble_eq_true rfl⟩ ⟨rfl, rfl⟩ (Nat.le_of_ble_eq_true rfl) (fun v20 μ20 hp20 => ?_)
  obtain ⟨rfl, he20⟩ := hp20
  replace he20 := he20.symm
  subst he20
  refine y_ri ?_
  refine y_isub dX0_setHeavier_23 ?_
  refine y_istore dX0_setHeavier_24 rfl (by decide) ?_
  refine y_iload dX0_setHeavier_26 rfl ?_
  refine y_cS1 dX0_setHeavier_28 meJ6_bitCount_0f7a4 wm_ml_X0_17 (kJ6_bitCount_0f7a4) ⟨Nat.le_of_ble_eq_true rfl, Nat.le_of_ble_eq_true rfl⟩ ⟨rfl, rfl⟩ (Nat.le_of_ble_eq_true rfl) (fun v28 μ28 hp28 => ?_)
  obtain ⟨rfl, he28⟩ := hp28
  replace he28 := he28.symm
  subst he28
  refine y_ri ?_
  rw [(mk_bc _ (or_lt ha hb)).1]
  refine y_istore dX0_setHeavier_31 rfl (by decide) ?_
  refine y_lconst dX0_setHeavier_33 lc_0 ?_
  refine y_lstore dX0_setHeavier_34 rfl (by decide) ?_
  refine y_iconst (v := nI 0) dX0_setHeavier_36 icn_0 ?_
  refine y_istore dX0_setHeavier_37 rfl (by decide) ?_
  refine y_iload dX0_setHeavier_39 rfl ?_
  refine y_cN1 dX0_setHeavier_41 meX7_subsetsOf wn_X0_23 (kX7_subsetsOf) ⟨Nat.le_of_ble_eq_true rfl, Nat.le_of_ble_eq_true rfl⟩ ⟨rfl, rfl⟩ (Nat.le_of_ble_eq_true rfl) (fun v41 μ41 hp41 => ?_)
  obtain ⟨rfl, he41⟩ := hp41
  replace he41 := he41.symm
  subst he41
  refine y_ri ?_
  rw [mk_sh _ (or_lt ha hb)]
  refine y_istore dX0_setHeavier_44 rfl (by decide) ?_
  refine y_iconst (v := nI 0) dX0_setHeavier_46 icn_0 ?_
  refine y_istore dX0_setHeavier_47 rfl (by decide) ?_
  refine y_loop1 (fun (j : Nat) (w : Int64) => [some (.ref (G.2.1 16)), some (.ref (G.2.1 18)), some (.int (nI a)), some (.int (nI b)), some (.int t), some (.int k), some (.int (nI (a ||| b))), some (.int (aheS (nI a) (nI b) 18 μ)), some (.int (nI (pc (a ||| b)))), some (.long w), none, some (.int (nI (sbs (a ||| b) j))), some (.int (nI (2 ^ pc (a ||| b)))), some (.int (nI j)), none, none]) (fun (j : Nat) (w : Int64) => μ) (fun (j : Nat) (w : Int64) => itr (hvS a b t k (aheS (nI a) (nI b) 18 μ)) (2 ^ pc (a ||| b) - j) j w = hvR a b t k (aheS (nI a) (nI b) 18 μ)) (2 ^ pc (a ||| b)) (fun w hv49 => ?_) (fun j w hj hv49 ih49 => ?_) 0 (0) (Nat.zero_le _) (rfl)
  · refine y_iload dX0_setHeavier_49 rfl ?_
    refine y_iload dX0_setHeavier_51 rfl ?_
    refine y_icmp_ge 132 dX0_setHeavier_53 (by decide) (fun _ => ?_) (fun hq => absurd (Int32.le_refl _) hq)
    refine y_aload_n dX0_setHeavier_132 rfl rfl ?_
    refine y_lload dX0_setHeavier_133 rfl ?_
    refine y_bipush dX0_setHeavier_135 ib_10 ?_
    refine y_iload dX0_setHeavier_137 rfl ?_
    refine y_cS2 dX0_setHeavier_139 meX0_power wm_ml_X0_28 (kX0_power (pc8 (or_lt ha hb)) rfl) ⟨Nat.le_of_ble_eq_true rfl, Nat.le_of_ble_eq_true rfl⟩ ⟨rfl, rfl⟩ (Nat.le_of_ble_eq_true rfl) (fun v139 μ139 hp139 => ?_)
    obtain ⟨rfl, he139⟩ := hp139
    replace he139 := he139.symm
    subst he139
    refine y_rl ?_
    refine y_cV2 dX0_setHeavier_142 meX0_put clX0 kd_16 wm_ml_X0_38 (kX0_put) ⟨Nat.le_of_ble_eq_true rfl, Nat.le_of_ble_eq_true rfl⟩ ⟨rfl, rfl⟩ (Nat.le_of_ble_eq_true rfl) (fun v142 μ142 hp142 => ?_)
    obtain ⟨rfl, he142⟩ := hp142
    replace he142 := he142.symm
    subst he142
    refine y_rv ?_
    refine y_vret dX0_setHeavier_145 ?_
    exact ⟨rfl, by rw [itr_ex hv49]; rfl⟩
  · refine y_iload dX0_setHeavier_49 rfl ?_
    refine y_iload dX0_setHeavier_51 rfl ?_
    refine y_icmp_ge 132 dX0_setHeavier_53 (by decide) (fun hq => absurd hq (nI_ge hj (pc_le (or_lt ha hb)))) (fun _ => ?_)
    refine y_iload dX0_setHeavier_56 rfl ?_
    refine y_iload_n dX0_setHeavier_58 rfl rfl ?_
    refine y_iand dX0_setHeavier_59 ?_
    refine y_cS1 dX0_setHeavier_60 meJ6_bitCount_0f7a4 wm_ml_X0_17 (kJ6_bitCount_0f7a4) ⟨Nat.le_of_ble_eq_true rfl, Nat.le_of_ble_eq_true rfl⟩ ⟨rfl, rfl⟩ (Nat.le_of_ble_eq_true rfl) (fun v60 μ60 hp60 => ?_)
    obtain ⟨rfl, he60⟩ := hp60
    replace he60 := he60.symm
    subst he60
    refine y_ri ?_
    refine y_iload dX0_setHeavier_63 rfl ?_
    refine y_iload_n dX0_setHeavier_65 rfl rfl ?_
    refine y_iand dX0_setHeavier_66 ?_
    refine y_cS1 dX0_setHeavier_67 meJ6_bitCount_0f7a4 wm_ml_X0_17 (kJ6_bitCount_0f7a4) ⟨Nat.le_of_ble_eq_true rfl, Nat.le_of_ble_eq_true rfl⟩ ⟨rfl, rfl⟩ (Nat.le_of_ble_eq_true rfl) (fun v67 μ67 hp67 => ?_)
    obtain ⟨rfl, he67⟩ := hp67
    replace he67 := he67.symm
    subst he67
    refine y_ri ?_
    refine y_isub dX0_setHeavier_70 ?_
    refine y_istore dX0_setHeavier_71 rfl (by decide) ?_
    refine y_iload dX0_setHeavier_73 rfl ?_
    refine y_iload dX0_setHeavier_75 rfl ?_
    refine y_iload dX0_setHeavier_77 rfl ?_
    refine y_imul dX0_setHeavier_79 ?_
    refine y_iadd dX0_setHeavier_80 ?_
    refine y_if_le 117 dX0_setHeavier_81 (by decide) (fun h81 => ?_) (fun h81 => ?_)
    · refine y_iload dX0_setHeavier_117 rfl ?_
      refine y_iload dX0_setHeavier_119 rfl ?_
      refine y_cN2 dX0_setHeavier_121 meX7_nextSubset wn_X0_34 (kX7_nextSubset) ⟨Nat.le_of_ble_eq_true rfl, Nat.le_of_ble_eq_true rfl⟩ ⟨rfl, rfl⟩ (Nat.le_of_ble_eq_true rfl) (fun v121 μ121 hp121 => ?_)
      obtain ⟨rfl, he121⟩ := hp121
      replace he121 := he121.symm
      subst he121
      refine y_ri ?_
      rw [(mk_nx _ (sbs_lt (or_lt ha hb) j) _ (or_lt ha hb)).1]
      refine y_istore dX0_setHeavier_124 rfl (by decide) ?_
      refine y_iinc (v := nI (j + 1)) dX0_setHeavier_126 rfl (nI_i1 _) rfl (by decide) ?_
      refine y_goto 49 dX0_setHeavier_129 (by decide) ?_
      exact y_drop 15 (y_drop 14 (ih49 _ (itr_nx hj hv49 (by clear ih49 hv49; simp_all [-Int32.not_le, hvS]))))
    · refine y_iload dX0_setHeavier_84 rfl ?_
      refine y_cS1 dX0_setHeavier_86 meJ6_bitCount_0f7a4 wm_ml_X0_17 (kJ6_bitCount_0f7a4) ⟨Nat.le_of_ble_eq_true rfl, Nat.le_of_ble_eq_true rfl⟩ ⟨rfl, rfl⟩ (Nat.le_of_ble_eq_true rfl) (fun v86 μ86 hp86 => ?_)
      obtain ⟨rfl, he86⟩ := hp86
      replace he86 := he86.symm
      subst he86
      refine y_ri ?_
      rw [(mk_bc _ (sbs_lt (or_lt ha hb) j)).1]
      refine y_istore dX0_setHeavier_89 rfl (by decide) ?_
      refine y_lload dX0_setHeavier_91 rfl ?_
      refine y_iload dX0_setHeavier_93 rfl ?_
      refine y_iload dX0_setHeavier_95 rfl ?_
      refine y_cS2 dX0_setHeavier_97 meX0_power wm_ml_X0_28 (kX0_power (pc8 (sbs_lt (or_lt ha hb) j)) rfl) ⟨Nat.le_of_ble_eq_true rfl, Nat.le_of_ble_eq_true rfl⟩ ⟨rfl, rfl⟩ (Nat.le_of_ble_eq_true rfl) (fun v97 μ97 hp97 => ?_)
      obtain ⟨rfl, he97⟩ := hp97
      replace he97 := he97.symm
      subst he97
      refine y_rl ?_
      refine y_bipush dX0_setHeavier_100 ib_10 ?_
      refine y_iload dX0_setHeavier_102 rfl ?_
      refine y_isub dX0_setHeavier_104 ?_
      refine y_iload dX0_setHeavier_105 rfl ?_
      refine y_iload dX0_setHeavier_107 rfl ?_
      refine y_isub dX0_setHeavier_109 ?_
      refine y_cS2 dX0_setHeavier_110 meX0_power wm_ml_X0_28 (kX0_power (k := pc (a ||| b) - pc (sbs (a ||| b) j)) (Nat.lt_of_le_of_lt (Nat.sub_le _ _) (pc8 (or_lt ha hb))) (nI_sub (pc_sbs _ _))) ⟨Nat.le_of_ble_eq_true rfl, Nat.le_of_ble_eq_true rfl⟩ ⟨rfl, rfl⟩ (Nat.le_of_ble_eq_true rfl) (fun v110 μ110 hp110 => ?_)
      obtain ⟨rfl, he110⟩ := hp110
      replace he110 := he110.symm
      subst he110
      refine y_rl ?_
      refine y_lmul dX0_setHeavier_113 ?_
      refine y_ladd dX0_setHeavier_114 ?_
      refine y_lstore dX0_setHeavier_115 rfl (by decide) ?_
      refine y_iload dX0_setHeavier_117 rfl ?_
      refine y_iload dX0_setHeavier_119 rfl ?_
      refine y_cN2 dX0_setHeavier_121 meX7_nextSubset wn_X0_34 (kX7_nextSubset) ⟨Nat.le_of_ble_eq_true rfl, Nat.le_of_ble_eq_true rfl⟩ ⟨rfl, rfl⟩ (Nat.le_of_ble_eq_true rfl) (fun v121 μ121 hp121 => ?_)
      obtain ⟨rfl, he121⟩ := hp121
      replace he121 := he121.symm
      subst he121
      refine y_ri ?_
      rw [(mk_nx _ (sbs_lt (or_lt ha hb) j) _ (or_lt ha hb)).1]
      refine y_istore dX0_setHeavier_124 rfl (by decide) ?_
      refine y_iinc (v := nI (j + 1)) dX0_setHeavier_126 rfl (nI_i1 _) rfl (by decide) ?_
      refine y_goto 49 dX0_setHeavier_129 (by decide) ?_
      exact y_drop 15 (y_drop 14 (ih49 _ (itr_nx hj hv49 (by clear ih49 hv49; simp_all [-Int32.not_le, hvS]))))
