theorem rdM_3 (s : Int32) (μ : MemT) : rdM s μ 3 = μ 3 := by
  unfold rdM rpM sellM
  repeat' split
  all_goals simp [sitM, endM, bgM, brkM, twCold, twDay, twFeast, mset]
theorem rdM_4 (s : Int32) (μ : MemT) : rdM s μ 4 = μ 4 := by
  unfold rdM rpM sellM
  repeat' split
  all_goals simp [sitM, endM, bgM, brkM, twCold, twDay, twFeast, mset]
def holdM (c : Nat) (μ : MemT) : MemT := hlR c 0 (stM μ)
theorem stM_3 (μ : MemT) : stM μ 3 = μ 3 := by simp [stM, bgM, twCopy, mset]
theorem stM_4 (μ : MemT) : stM μ 4 = μ 4 := by simp [stM, bgM, twCopy, mset]
theorem hlR_stop (n j : Nat) {μ : MemT} (h : ¬ μ 5 2 = -6) : hlR n j μ = μ := by
  cases n with
  | zero => rfl
  | succ n => rw [hlR, if_neg h]

set_option maxRecDepth 100000 in
set_option maxHeartbeats 4000000 in
theorem kX1_hold {l : Launch} {G : GT} {μ : MemT} {c : Nat} (hc60 : c ≤ 60) (hc : μ 3 1 = nI c) : sw_Met l G yX1_hold cX1_hold 4 none (rmk 4 89) [.ref (G.2.1 5), .ref (G.2.1 3), .ref (G.2.1 18)] μ (fun v μ2 => v = none ∧ μ2 = holdM c μ) := by
  refine sw_Met.ofY (by decide) (Nat.le_of_ble_eq_true rfl) rfl ?_
  refine y_aload_n dX1_hold_0 rfl rfl ?_
  refine y_getr dX1_hold_1 0 clX1 kd_5 (by decide) wm_fl_X1_12 rfl rfl ?_
  refine y_aload_n dX1_hold_4 rfl rfl ?_
  refine y_cV1 dX1_hold_5 meX4_copyFrom clX4 kd_42 wm_ml_X1_18 (kX4_copyFrom tw42 tw18 (by decide)) ⟨Nat.le_of_ble_eq_true rfl, Nat.le_of_ble_eq_true rfl⟩ ⟨rfl, rfl⟩ (Nat.le_of_ble_eq_true rfl) (fun v5 μ5 hp5 => ?_)
  obtain ⟨rfl, he5⟩ := hp5
  replace he5 := he5.symm
  subst he5
  refine y_rv ?_
  refine y_aload_n dX1_hold_8 rfl rfl ?_
  refine y_iconst dX1_hold_9 ic_0 ?_
  refine y_puti dX1_hold_10 1 clX1 kd_5 (by decide) wm_fl_X1_22 rfl rfl rfl rfl (tyX1_ok 1 (by decide)) rfl rfl ?_
  refine y_aload_n dX1_hold_13 rfl rfl ?_
  refine y_bipush dX1_hold_14 ib_m6 ?_
  refine y_puti dX1_hold_16 2 clX1 kd_5 (by decide) wm_fl_X1_26 rfl rfl rfl rfl (tyX1_ok 2 (by decide)) rfl rfl ?_
  refine y_aload_n dX1_hold_19 rfl rfl ?_
  refine y_bipush dX1_hold_20 ib_m6 ?_
  refine y_puti dX1_hold_22 3 clX1 kd_5 (by decide) wm_fl_X1_29 rfl rfl rfl rfl (tyX1_ok 3 (by decide)) rfl rfl ?_
  refine y_aload_n dX1_hold_25 rfl rfl ?_
  refine y_iconst dX1_hold_26 ic_0 ?_
  refine y_puti dX1_hold_27 4 clX1 kd_5 (by decide) wm_fl_X1_32 rfl rfl rfl rfl (tyX1_ok 4 (by decide)) rfl rfl ?_
  refine y_aload_n dX1_hold_30 rfl rfl ?_
  refine y_iconst dX1_hold_31 ic_0 ?_
  refine y_puti dX1_hold_32 5 clX1 kd_5 (by decide) wm_fl_X1_35 rfl rfl rfl rfl (tyX1_ok 5 (by decide)) rfl rfl ?_
  refine y_aload_n dX1_hold_35 rfl rfl ?_
  refine y_iconst dX1_hold_36 ic_0 ?_
  refine y_puti dX1_hold_37 6 clX1 kd_5 (by decide) wm_fl_X1_38 rfl rfl rfl rfl (tyX1_ok 6 (by decide)) rfl rfl ?_
  refine y_aload_n dX1_hold_40 rfl rfl ?_
  refine y_bipush dX1_hold_41 ib_m6 ?_
  refine y_puti dX1_hold_43 7 clX1 kd_5 (by decide) wm_fl_X1_41 rfl rfl rfl rfl (tyX1_ok 7 (by decide)) rfl rfl ?_
  refine y_aload_n dX1_hold_46 rfl rfl ?_
  refine y_cV0 dX1_hold_47 meX1_beginAct clX1 kd_5 wm_ml_X1_44 (kX1_beginAct) ⟨Nat.le_of_ble_eq_true rfl, Nat.le_of_ble_eq_true rfl⟩ ⟨rfl, rfl⟩ (Nat.le_of_ble_eq_true rfl) (fun v47 μ47 hp47 => ?_)
  obtain ⟨rfl, he47⟩ := hp47
  replace he47 := he47.symm
  subst he47
  refine y_rv ?_
  refine y_iconst (v := nI 0) dX1_hold_50 icn_0 ?_
  refine y_istore_n dX1_hold_51 rfl rfl (by decide) ?_
  refine y_eq (show _ = stM μ by simp [stM, bgM, twCopy, mset_mset, mset, upd]) rfl rfl ?_
  refine y_loop1 (fun (j : Nat) (a : MemT) => [some (.ref (G.2.1 5)), some (.ref (G.2.1 3)), some (.ref (G.2.1 18)), some (.int (nI j))]) (fun (j : Nat) (a : MemT) => a) (fun (j : Nat) (a : MemT) => a 3 = μ 3 ∧ a 4 = μ 4 ∧ hlR (c - j) j a = holdM c μ) c (fun a hv52 => ?_) (fun j a hj hv52 ih52 => ?_) 0 (stM μ) (Nat.zero_le _) (⟨stM_3 μ, stM_4 μ, rfl⟩)
  · refine y_iload_n dX1_hold_52 rfl rfl ?_
    refine y_aload_n dX1_hold_53 rfl rfl ?_
    refine y_geti dX1_hold_54 1 clX2 kd_3 (by decide) wm_fl_X1_47 rfl rfl ?_
    refine y_icmp_ge 85 dX1_hold_57 (by decide) (fun _ => ?_) (fun hq => absurd (by rw [hv52.1, hc]; exact Int32.le_refl _) hq)
    refine y_vret dX1_hold_85 ?_
    first
      | exact ⟨rfl, by rw [← hv52.2.2, Nat.sub_self, hlR]⟩
      | exact ⟨rfl, by rw [← hv52.2.2, hlR_stop _ _ h66]⟩
  · refine y_iload_n dX1_hold_52 rfl rfl ?_
    refine y_aload_n dX1_hold_53 rfl rfl ?_
    refine y_geti dX1_hold_54 1 clX2 kd_3 (by decide) wm_fl_X1_47 rfl rfl ?_
    refine y_icmp_ge 85 dX1_hold_57 (by decide) (fun hq => absurd (by rw [hv52.1, hc] at hq; exact hq) (nI_ge hj (by omega))) (fun _ => ?_)
    refine y_aload_n dX1_hold_60 rfl rfl ?_
    refine y_geti dX1_hold_61 2 clX1 kd_5 (by decide) wm_fl_X1_26 rfl rfl ?_
    refine y_bipush dX1_hold_64 ib_m6 ?_
    refine y_icmp_ne 85 dX1_hold_66 (by decide) (fun h66 => ?_) (fun h66 => ?_)
    · refine y_vret dX1_hold_85 ?_
      first
        | exact ⟨rfl, by rw [← hv52.2.2, Nat.sub_self, hlR]⟩
        | exact ⟨rfl, by rw [← hv52.2.2, hlR_stop _ _ h66]⟩
    · refine y_aload_n dX1_hold_69 rfl rfl ?_
      refine y_aload_n dX1_hold_70 rfl rfl ?_
      refine y_getr dX1_hold_71 0 clX2 kd_3 (by decide) wm_fl_X1_52 rfl rfl ?_
      refine y_iload_n dX1_hold_74 rfl rfl ?_
      refine y_iald dX1_hold_75 j kd_4 rfl (by omega) (by decide) ?_
      refine y_cV1 dX1_hold_76 meX1_read clX1 kd_5 wm_ml_X1_56 (kX1_read) ⟨Nat.le_of_ble_eq_true rfl, Nat.le_of_ble_eq_true rfl⟩ ⟨rfl, rfl⟩ (Nat.le_of_ble_eq_true rfl) (fun v76 μ76 hp76 => ?_)
      obtain ⟨rfl, he76⟩ := hp76
      replace he76 := he76.symm
      subst he76
      refine y_rv ?_
      refine y_iinc (v := nI (j + 1)) dX1_hold_79 rfl (nI_i1 _) rfl (by decide) ?_
      refine y_goto 52 dX1_hold_82 (by decide) ?_
      exact ih52 _ ⟨by rw [rdM_3]; exact hv52.1, by rw [rdM_4]; exact hv52.2.1, by rw [← hv52.2.2, sub_s hj, hlR, if_pos h66]⟩

def ptn (p : Nat) (sp : Nat → Int32) : Int32 := if sp p = -6 then 0 else 1 <<< (sp p &&& 31)
def yrX (p : Nat) (μ : MemT) : Int32 := (1 <<< (nI p &&& 31)) ||| ptn p (μ 54)
def yrA (p : Nat) (μ : MemT) : Int32 := sumB (yrX p μ &&& μ 50 7) (μ 51)
def yrG (p : Nat) (μ : MemT) : Int32 := wcB (yrX p μ &&& μ 50 7) (μ 50 8) (μ 52)
def yrSell (p : Nat) (μ : MemT) : MemT := mset μ 17 (if abI (yrG p μ - yrA p μ) ≤ μ 50 9 then upd (upd (μ 17) 1 (μ 17 1 + yrA p μ)) 2 (μ 17 2 + yrG p μ) else upd (upd (upd (μ 17) 1 (μ 17 1 + yrA p μ)) 2 (μ 17 2 + yrG p μ)) 3 (μ 17 3 + 1))
def nxI (x : Int32) : Int32 := 75 * x + 74 - (75 * x + 74) / 65537 * 65537
def md8 (x : Int32) : Int32 := x - x / 8 * 8
def yrDay (x : Int32) (μ : MemT) : MemT := if x / 8 - x / 8 / 2 * 2 = 1 then twDay 50 μ else μ
def yrStep (x : Int32) (μ : MemT) : MemT := if isP (yrDay x μ 50 7) (md8 x) then yrSell (md8 x).toNatClampNeg (yrDay x μ) else yrDay x μ
def yrR : Nat → Int32 → MemT → MemT
  | 0, _, μ => μ
  | n + 1, x, μ => yrR n (nxI x) (yrStep (nxI x) μ)
def yrM (m : Nat) (x : Int32) (μ : MemT) : MemT := yrR m x (mset (twCopy 50 18 μ) 17 (upd (upd (upd (μ 17) 1 0) 2 0) 3 0))

set_option maxRecDepth 100000 in
set_option maxHeartbeats 4000000 in
theorem kX6_sell {l : Launch} {G : GT} {μ : MemT} {x : Int32} {p : Nat} (hp : p < 8) (hx : x = nI p) : sw_Met l G yX6_sell cX6_sell 5 none (rmk 2 45) [.ref (G.2.1 17), .int x] μ (fun v μ2 => v = none ∧ μ2 = yrSell p μ) := by
  subst hx
  refine sw_Met.ofY (by decide) (Nat.le_of_ble_eq_true rfl) rfl ?_
  refine y_iconst dX6_sell_0 ic_1 ?_
  refine y_iload_n dX6_sell_1 rfl rfl ?_
  refine y_ishl dX6_sell_2 ?_
  refine y_aload_n dX6_sell_3 rfl rfl ?_
  refine y_getr dX6_sell_4 0 clX6 kd_17 (by decide) wm_fl_X6_10 rfl rfl ?_
  refine y_iload_n dX6_sell_7 rfl rfl ?_
  refine y_cV1 dX6_sell_8 meX4_partner clX4 kd_50 wm_ml_X6_42 (kX4_partner tw50 (by first | assumption | omega)) ⟨Nat.le_of_ble_eq_true rfl, Nat.le_of_ble_eq_true rfl⟩ ⟨rfl, rfl⟩ (Nat.le_of_ble_eq_true rfl) (fun v8 μ8 hp8 => ?_)
  obtain ⟨rfl, he8⟩ := hp8
  replace he8 := he8.symm
  subst he8
  refine y_ri ?_
  refine y_ior dX6_sell_11 ?_
  refine y_istore_n dX6_sell_12 rfl rfl (by decide) ?_
  refine y_aload_n dX6_sell_13 rfl rfl ?_
  refine y_getr dX6_sell_14 0 clX6 kd_17 (by decide) wm_fl_X6_10 rfl rfl ?_
  refine y_iload_n dX6_sell_17 rfl rfl ?_
  refine y_aload_n dX6_sell_18 rfl rfl ?_
  refine y_getr dX6_sell_19 0 clX6 kd_17 (by decide) wm_fl_X6_10 rfl rfl ?_
  refine y_getr dX6_sell_22 0 clX4 kd_50 (by decide) wm_fl_X6_46 rfl rfl ?_
  refine y_cV2 dX6_sell_25 meX4_sumOver clX4 kd_50 wm_ml_X6_50 (kX4_sumOver tw50 (hf := kd_51)) ⟨Nat.le_of_ble_eq_true rfl, Nat.le_of_ble_eq_true rfl⟩ ⟨rfl, rfl⟩ (Nat.le_of_ble_eq_true rfl) (fun v25 μ25 hp25 => ?_)
  obtain ⟨rfl, he25⟩ := hp25
  replace he25 := he25.symm
  subst he25
  refine y_ri ?_
  refine y_istore_n dX6_sell_28 rfl rfl (by decide) ?_
  refine y_aload_n dX6_sell_29 rfl rfl ?_
  refine y_getr dX6_sell_30 0 clX6 kd_17 (by decide) wm_fl_X6_10 rfl rfl ?_
  refine y_iload_n dX6_sell_33 rfl rfl ?_
  refine y_cV1 dX6_sell_34 meX4_poundsOfAll clX4 kd_50 wm_ml_X6_54 (kX4_poundsOfAll tw50) ⟨Nat.le_of_ble_eq_true rfl, Nat.le_of_ble_eq_true rfl⟩ ⟨rfl, rfl⟩ (Nat.le_of_ble_eq_true rfl) (fun v34 μ34 hp34 => ?_)
  obtain ⟨rfl, he34⟩ := hp34
  replace he34 := he34.symm
  subst he34
  refine y_ri ?_
  refine y_istore dX6_sell_37 rfl (by decide) ?_
  refine y_aload_n dX6_sell_39 rfl rfl ?_
  refine y_dup dX6_sell_40 rfl ?_
  refine y_geti dX6_sell_41 1 clX6 kd_17 (by decide) wm_fl_X6_20 rfl rfl ?_
  refine y_iload_n dX6_sell_44 rfl rfl ?_
  refine y_iadd dX6_sell_45 ?_
  refine y_puti dX6_sell_46 1 clX6 kd_17 (by decide) wm_fl_X6_20 rfl rfl rfl rfl (tyX6_ok 1 (by decide)) rfl rfl ?_
  refine y_aload_n dX6_sell_49 rfl rfl ?_
  refine y_dup dX6_sell_50 rfl ?_
  refine y_geti dX6_sell_51 2 clX6 kd_17 (by decide) wm_fl_X6_24 rfl rfl ?_
  refine y_iload dX6_sell_54 rfl ?_
  refine y_iadd dX6_sell_56 ?_
  refine y_puti dX6_sell_57 2 clX6 kd_17 (by decide) wm_fl_X6_24 rfl rfl rfl rfl (tyX6_ok 2 (by decide)) rfl rfl ?_
  refine y_iload dX6_sell_60 rfl ?_
  refine y_iload_n dX6_sell_62 rfl rfl ?_
  refine y_isub dX6_sell_63 ?_
  refine y_mabs dX6_sell_64 wm_ml_X6_57 (by decide) (Nat.le_of_ble_eq_true rfl) ?_
  refine y_aload_n dX6_sell_67 rfl rfl ?_
  refine y_getr dX6_sell_68 0 clX6 kd_17 (by decide) wm_fl_X6_10 rfl rfl ?_
  refine y_geti dX6_sell_71 9 clX4 kd_50 (by decide) wm_fl_X6_62 rfl rfl ?_
  refine y_icmp_le 87 dX6_sell_74 (by decide) (fun h74 => ?_) (fun h74 => ?_)
  · refine y_vret dX6_sell_87 ?_
    refine ⟨rfl, ?_⟩
    simp_all [-Int32.not_le, yrSell, yrA, yrG, yrX, ptn, abI, mset_mset, mset, upd]
  · refine y_aload_n dX6_sell_77 rfl rfl ?_
    refine y_dup dX6_sell_78 rfl ?_
    refine y_geti dX6_sell_79 3 clX6 kd_17 (by decide) wm_fl_X6_27 rfl rfl ?_
    refine y_iconst dX6_sell_82 ic_1 ?_
    refine y_iadd dX6_sell_83 ?_
    refine y_puti dX6_sell_84 3 clX6 kd_17 (by decide) wm_fl_X6_27 rfl rfl rfl rfl (tyX6_ok 3 (by decide)) rfl rfl ?_
    refine y_vret dX6_sell_87 ?_
    refine ⟨rfl, ?_⟩
    simp_all [-Int32.not_le, yrSell, yrA, yrG, yrX, ptn, abI, mset_mset, mset, upd]

set_option maxRecDepth 100000 in
set_option maxHeartbeats 4000000 in
theorem kX6_pass {l : Launch} {G : GT} {μ : MemT} {x : Int32} {m : Nat} (hm : m < 2 ^ 31) : sw_Met l G yX6_pass cX6_pass 6 none (rmk 3 69) [.ref (G.2.1 17), .ref (G.2.1 18), .int x, .int (nI m)] μ (fun v μ2 => v = none ∧ μ2 = yrM m x μ) := by
  refine sw_Met.ofY (by decide) (Nat.le_of_ble_eq_true rfl) rfl ?_
  refine y_aload_n dX6_pass_0 rfl rfl ?_
  refine y_getr dX6_pass_1 0 clX6 kd_17 (by decide) wm_fl_X6_10 rfl rfl ?_
  refine y_aload_n dX6_pass_4 rfl rfl ?_
  refine y_cV1 dX6_pass_5 meX4_copyFrom clX4 kd_50 wm_ml_X6_16 (kX4_copyFrom tw50 tw18 (by decide)) ⟨Nat.le_of_ble_eq_true rfl, Nat.le_of_ble_eq_true rfl⟩ ⟨rfl, rfl⟩ (Nat.le_of_ble_eq_true rfl) (fun v5 μ5 hp5 => ?_)
  obtain ⟨rfl, he5⟩ := hp5
  replace he5 := he5.symm
  subst he5
  refine y_rv ?_
  refine y_aload_n dX6_pass_8 rfl rfl ?_
  refine y_iconst dX6_pass_9 ic_0 ?_
  refine y_puti dX6_pass_10 1 clX6 kd_17 (by decide) wm_fl_X6_20 rfl rfl rfl rfl (tyX6_ok 1 (by decide)) rfl rfl ?_
  refine y_aload_n dX6_pass_13 rfl rfl ?_
  refine y_iconst dX6_pass_14 ic_0 ?_
  refine y_puti dX6_pass_15 2 clX6 kd_17 (by decide) wm_fl_X6_24 rfl rfl rfl rfl (tyX6_ok 2 (by decide)) rfl rfl ?_
  refine y_aload_n dX6_pass_18 rfl rfl ?_
  refine y_iconst dX6_pass_19 ic_0 ?_
  refine y_puti dX6_pass_20 3 clX6 kd_17 (by decide) wm_fl_X6_27 rfl rfl rfl rfl (tyX6_ok 3 (by decide)) rfl rfl ?_
  refine y_iload_n dX6_pass_23 rfl rfl ?_
  refine y_istore dX6_pass_24 rfl (by decide) ?_
  refine y_iconst (v := nI 0) dX6_pass_26 icn_0 ?_
  refine y_istore dX6_pass_27 rfl (by decide) ?_
  refine y_eq (show _ = mset (twCopy 50 18 μ) 17 (upd (upd (upd (μ 17) 1 0) 2 0) 3 0) by simp [twCopy, mset_mset, mset, upd]) rfl rfl ?_
  refine y_loop2 (fun (j : Nat) (a : Int32) (c : MemT) => [some (.ref (G.2.1 17)), some (.ref (G.2.1 18)), some (.int x), some (.int (nI m)), some (.int a), some (.int (nI j))]) (fun (j : Nat) (a : Int32) (c : MemT) => c) (fun (j : Nat) (a : Int32) (c : MemT) => yrR (m - j) a c = yrM m x μ) m (fun a c hv29 => ?_) (fun j a c hj hv29 ih29 => ?_) 0 (x) (mset (twCopy 50 18 μ) 17 (upd (upd (upd (μ 17) 1 0) 2 0) 3 0)) (Nat.zero_le _) (rfl)
  · refine y_iload dX6_pass_29 rfl ?_
    refine y_iload_n dX6_pass_31 rfl rfl ?_
    refine y_icmp_ge 96 dX6_pass_32 (by decide) (fun _ => ?_) (fun hq => absurd (Int32.le_refl _) hq)
    refine y_vret dX6_pass_96 ?_
    exact ⟨rfl, by rw [← hv29, Nat.sub_self, yrR]⟩
  · refine y_iload dX6_pass_29 rfl ?_
    refine y_iload_n dX6_pass_31 rfl rfl ?_
    refine y_icmp_ge 96 dX6_pass_32 (by decide) (fun hq => absurd hq (nI_ge hj hm)) (fun _ => ?_)
    refine y_bipush dX6_pass_35 ib_75 ?_
    refine y_iload dX6_pass_37 rfl ?_
    refine y_imul dX6_pass_39 ?_
    refine y_bipush dX6_pass_40 ib_74 ?_
    refine y_iadd dX6_pass_42 ?_
    refine y_ldc dX6_pass_43 wm_ck_X6_30 ?_
    refine y_irem dX6_pass_45 (by decide) ?_
    refine y_istore dX6_pass_46 rfl (by decide) ?_
    refine y_iload dX6_pass_48 rfl ?_
    refine y_bipush dX6_pass_50 ib_8 ?_
    refine y_idiv dX6_pass_52 (by decide) ?_
    refine y_iconst dX6_pass_53 ic_2 ?_
    refine y_irem dX6_pass_54 (by decide) ?_
    refine y_iconst dX6_pass_55 ic_1 ?_
    refine y_icmp_ne 66 dX6_pass_56 (by decide) (fun h56 => ?_) (fun h56 => ?_)
    · refine y_aload_n dX6_pass_66 rfl rfl ?_
      refine y_getr dX6_pass_67 0 clX6 kd_17 (by decide) wm_fl_X6_10 rfl rfl ?_
      refine y_iload dX6_pass_70 rfl ?_
      refine y_bipush dX6_pass_72 ib_8 ?_
      refine y_irem dX6_pass_74 (by decide) ?_
      refine y_cV1 dX6_pass_75 meX4_has clX4 kd_50 wm_ml_X6_34 (kX4_has tw50) ⟨Nat.le_of_ble_eq_true rfl, Nat.le_of_ble_eq_true rfl⟩ ⟨rfl, rfl⟩ (Nat.le_of_ble_eq_true rfl) (fun v75 μ75 hp75 => ?_)
      obtain ⟨rfl, he75⟩ := hp75
      replace he75 := he75.symm
      subst he75
      refine y_ri ?_
      refine y_ifb_eq 90 dX6_pass_78 (by decide) (fun h78 => ?_) (fun h78 => ?_)
      · refine y_iinc (v := nI (j + 1)) dX6_pass_90 rfl (nI_i1 _) rfl (by decide) ?_
        refine y_goto 29 dX6_pass_93 (by decide) ?_
        exact y_eq (μ2 := yrStep (nxI a) c) (by clear ih29 hv29; simp_all [yrStep, yrDay, nxI, md8]) rfl rfl (ih29 (nxI a) _ (by rw [← hv29, sub_s hj, yrR]))
      · refine y_aload_n dX6_pass_81 rfl rfl ?_
        refine y_iload dX6_pass_82 rfl ?_
        refine y_bipush dX6_pass_84 ib_8 ?_
        refine y_irem dX6_pass_86 (by decide) ?_
        refine y_cV1 dX6_pass_87 meX6_sell clX6 kd_17 wm_ml_X6_38 (kX6_sell (isP_nI h78).2 (isP_nI h78).1) ⟨Nat.le_of_ble_eq_true rfl, Nat.le_of_ble_eq_true rfl⟩ ⟨rfl, rfl⟩ (Nat.le_of_ble_eq_true rfl) (fun v87 μ87 hp87 => ?_)
        obtain ⟨rfl, he87⟩ := hp87
        replace he87 := he87.symm
        subst he87
        refine y_rv ?_
        refine y_iinc (v := nI (j + 1)) dX6_pass_90 rfl (nI_i1 _) rfl (by decide) ?_
        refine y_goto 29 dX6_pass_93 (by decide) ?_
        exact y_eq (μ2 := yrStep (nxI a) c) (by clear ih29 hv29; simp_all [yrStep, yrDay, nxI, md8]) rfl rfl (ih29 (nxI a) _ (by rw [← hv29, sub_s hj, yrR]))
    · refine y_aload_n dX6_pass_59 rfl rfl ?_
      refine y_getr dX6_pass_60 0 clX6 kd_17 (by decide) wm_fl_X6_10 rfl rfl ?_
      refine y_cV0 dX6_pass_63 meX4_passDay clX4 kd_50 wm_ml_X6_31 (kX4_passDay tw50) ⟨Nat.le_of_ble_eq_true rfl, Nat.le_of_ble_eq_true rfl⟩ ⟨rfl, rfl⟩ (Nat.le_of_ble_eq_true rfl) (fun v63 μ63 hp63 => ?_)
      obtain ⟨rfl, he63⟩ := hp63
      replace he63 := he63.symm
      subst he63
      refine y_rv ?_
      refine y_aload_n dX6_pass_66 rfl rfl ?_
      refine y_getr dX6_pass_67 0 clX6 kd_17 (by decide) wm_fl_X6_10 rfl rfl ?_
      refine y_iload dX6_pass_70 rfl ?_
      refine y_bipush dX6_pass_72 ib_8 ?_
      refine y_irem dX6_pass_74 (by decide) ?_
      refine y_cV1 dX6_pass_75 meX4_has clX4 kd_50 wm_ml_X6_34 (kX4_has tw50) ⟨Nat.le_of_ble_eq_true rfl, Nat.le_of_ble_eq_true rfl⟩ ⟨rfl, rfl⟩ (Nat.le_of_ble_eq_true rfl) (fun v75 μ75 hp75 => ?_)
      obtain ⟨rfl, he75⟩ := hp75
      replace he75 := he75.symm
      subst he75
      refine y_ri ?_
      refine y_ifb_eq 90 dX6_pass_78 (by decide) (fun h78 => ?_) (fun h78 => ?_)
      · refine y_iinc (v := nI (j + 1)) dX6_pass_90 rfl (nI_i1 _) rfl (by decide) ?_
        refine y_goto 29 dX6_pass_93 (by decide) ?_
        exact y_eq (μ2 := yrStep (nxI a) c) (by clear ih29 hv29; simp_all [yrStep, yrDay, nxI, md8]) rfl rfl (ih29 (nxI a) _ (by rw [← hv29, sub_s hj, yrR]))
      · refine y_aload_n dX6_pass_81 rfl rfl ?_
        refine y_iload dX6_pass_82 rfl ?_
        refine y_bipush dX6_pass_84 ib_8 ?_
        refine y_irem dX6_pass_86 (by decide) ?_
        refine y_cV1 dX6_pass_87 meX6_sell clX6 kd_17 wm_ml_X6_38 (kX6_sell (isP_nI h78).2 (isP_nI h78).1) ⟨Nat.le_of_ble_eq_true rfl, Nat.le_of_ble_eq_true rfl⟩ ⟨rfl, rfl⟩ (Nat.le_of_ble_eq_true rfl) (fun v87 μ87 hp87 => ?_)
        obtain ⟨rfl, he87⟩ := hp87
        replace he87 := he87.symm
        subst he87
        refine y_rv ?_
        refine y_iinc (v := nI (j + 1)) dX6_pass_90 rfl (nI_i1 _) rfl (by decide) ?_
        refine y_goto 29 dX6_pass_93 (by decide) ?_
        exact y_eq (μ2 := yrStep (nxI a) c) (by clear ih29 hv29; simp_all [yrStep, yrDay, nxI, md8]) rfl rfl (ih29 (nxI a) _ (by rw [← hv29, sub_s hj, yrR]))

def ldR (t : Int32) (sw sf ss : Nat → Int32) (n j : Nat) (l : Nat → Int32) : Nat → Int32 := itr (fun j l => upd l j (sumB (sf j &&& t) sw - sumB (ss j &&& t) sw)) n j l
def leadM (k : Nat) (μ : MemT) : MemT := mset μ 14 (ldR (μ 18 7) (μ 19) (μ 23) (μ 24) k 0 (μ 14))
def ledR (sf ss l : Nat → Int32) (x d : Int32) (j : Nat) : Int32 := if isP (sf j) x then l j + d else if isP (ss j) x then l j - d else l j
def unsB (sf ss sh l : Nat → Int32) (x d : Int32) (j : Nat) : Bool := !decide (balI (ledR sf ss l x d j) 0 = sh j)
def seenB (k : Nat) (sf ss sh l : Nat → Int32) (x d : Int32) : Bool := (fnd (unsB sf ss sh l x d) k 0).isNone
abbrev WsT : Type := (Nat → Int32) × (Nat → Int32) × Nat
def wAdd (b : Bool) (x d : Int32) (w : WsT) : WsT := if w.2.2 < 145 ∧ b = true then (upd w.1 w.2.2 x, upd w.2.1 w.2.2 d, w.2.2 + 1) else w
theorem upd_id (f : Nat → Int32) (k : Nat) : upd f k (f k) = f := by
  funext j
  unfold upd
  split
  · subst_vars; rfl
  · rfl
def wPut (w : WsT) (μ : MemT) : MemT := mset (mset (mset μ 12 w.1) 13 w.2.1) 11 (upd (μ 11) 4 (nI w.2.2))
theorem wPut_id {c : Nat} {μ : MemT} (hc : μ 11 4 = nI c) : wPut (μ 12, μ 13, c) μ = μ := by
  simp only [wPut]
  rw [mset_same μ 12, mset_same μ 13, ← hc, upd_id, mset_same μ 11]

set_option maxRecDepth 100000 in
set_option maxHeartbeats 4000000 in
theorem kX5_fillLeads {l : Launch} {G : GT} {μ : MemT} {k : Nat} (hk : k ≤ 8) (hs : μ 18 11 = nI k) : sw_Met l G yX5_fillLeads cX5_fillLeads 3 none (rmk 2 45) [.ref (G.2.1 11), .ref (G.2.1 18)] μ (fun v μ2 => v = none ∧ μ2 = leadM k μ) := by
  refine sw_Met.ofY (by decide) (Nat.le_of_ble_eq_true rfl) rfl ?_
  refine y_iconst (v := nI 0) dX5_fillLeads_0 icn_0 ?_
  refine y_istore_n dX5_fillLeads_1 rfl rfl (by decide) ?_
  refine y_eq (mset_eq (k := 14) (r := μ 14) rfl) rfl rfl ?_
  refine y_loop1 (fun (j : Nat) (a : Nat → Int32) => [some (.ref (G.2.1 11)), some (.ref (G.2.1 18)), some (.int (nI j))]) (fun (j : Nat) (a : Nat → Int32) => mset μ 14 a) (fun (j : Nat) (a : Nat → Int32) => ldR (μ 18 7) (μ 19) (μ 23) (μ 24) (k - j) j a = ldR (μ 18 7) (μ 19) (μ 23) (μ 24) k 0 (μ 14)) k (fun a hv2 => ?_) (fun j a hj hv2 ih2 => ?_) 0 (μ 14) (Nat.zero_le _) (rfl)
  · refine y_iload_n dX5_fillLeads_2 rfl rfl ?_
    refine y_aload_n dX5_fillLeads_3 rfl rfl ?_
    refine y_geti dX5_fillLeads_4 11 clX4 kd_18 (by decide) wm_fl_X5_53 rfl rfl ?_
    refine y_icmp_ge 51 dX5_fillLeads_7 (by decide) (fun _ => ?_) (fun hq => absurd (by rw [show mset μ 14 a 18 11 = nI k from hs]; exact Int32.le_refl _) hq)
    refine y_vret dX5_fillLeads_51 ?_
    exact ⟨rfl, by rw [leadM, ← hv2, Nat.sub_self]; rfl⟩
  · refine y_iload_n dX5_fillLeads_2 rfl rfl ?_
    refine y_aload_n dX5_fillLeads_3 rfl rfl ?_
    refine y_geti dX5_fillLeads_4 11 clX4 kd_18 (by decide) wm_fl_X5_53 rfl rfl ?_
    refine y_icmp_ge 51 dX5_fillLeads_7 (by decide) (fun hq => absurd (by rw [show mset μ 14 a 18 11 = nI k from hs] at hq; exact hq) (nI_ge hj (by omega))) (fun _ => ?_)
    refine y_aload_n dX5_fillLeads_10 rfl rfl ?_
    refine y_getr dX5_fillLeads_11 2 clX5 kd_11 (by decide) wm_fl_X5_18 rfl rfl ?_
    refine y_iload_n dX5_fillLeads_14 rfl rfl ?_
    refine y_aload_n dX5_fillLeads_15 rfl rfl ?_
    refine y_aload_n dX5_fillLeads_16 rfl rfl ?_
    refine y_getr dX5_fillLeads_17 4 clX4 kd_18 (by decide) wm_fl_X5_56 rfl rfl ?_
    refine y_iload_n dX5_fillLeads_20 rfl rfl ?_
    refine y_iald dX5_fillLeads_21 j kd_23 rfl (by omega) (by decide) ?_
    refine y_aload_n dX5_fillLeads_22 rfl rfl ?_
    refine y_getr dX5_fillLeads_23 0 clX4 kd_18 (by decide) wm_fl_X5_46 rfl rfl ?_
    refine y_cV2 dX5_fillLeads_26 meX4_sumOver clX4 kd_18 wm_ml_X5_59 (kX4_sumOver tw18 (hf := kd_19)) ⟨Nat.le_of_ble_eq_true rfl, Nat.le_of_ble_eq_true rfl⟩ ⟨rfl, rfl⟩ (Nat.le_of_ble_eq_true rfl) (fun v26 μ26 hp26 => ?_)
    obtain ⟨rfl, he26⟩ := hp26
    replace he26 := he26.symm
    subst he26
    refine y_ri ?_
    refine y_aload_n dX5_fillLeads_29 rfl rfl ?_
    refine y_aload_n dX5_fillLeads_30 rfl rfl ?_
    refine y_getr dX5_fillLeads_31 5 clX4 kd_18 (by decide) wm_fl_X5_63 rfl rfl ?_
    refine y_iload_n dX5_fillLeads_34 rfl rfl ?_
    refine y_iald dX5_fillLeads_35 j kd_24 rfl (by omega) (by decide) ?_
    refine y_aload_n dX5_fillLeads_36 rfl rfl ?_
    refine y_getr dX5_fillLeads_37 0 clX4 kd_18 (by decide) wm_fl_X5_46 rfl rfl ?_
    refine y_cV2 dX5_fillLeads_40 meX4_sumOver clX4 kd_18 wm_ml_X5_59 (kX4_sumOver tw18 (hf := kd_19)) ⟨Nat.le_of_ble_eq_true rfl, Nat.le_of_ble_eq_true rfl⟩ ⟨rfl, rfl⟩ (Nat.le_of_ble_eq_true rfl) (fun v40 μ40 hp40 => ?_)
    obtain ⟨rfl, he40⟩ := hp40
    replace he40 := he40.symm
    subst he40
    refine y_ri ?_
    refine y_isub dX5_fillLeads_43 ?_
    refine y_iast dX5_fillLeads_44 j kd_14 rfl (by omega) (by decide) ?_
    refine y_iinc (v := nI (j + 1)) dX5_fillLeads_45 rfl (nI_i1 _) rfl (by decide) ?_
    refine y_goto 2 dX5_fillLeads_48 (by decide) ?_
    exact y_eq (μ2 := mset μ 14 (upd a j (sumB (μ 23 j &&& μ 18 7) (μ 19) - sumB (μ 24 j &&& μ 18 7) (μ 19)))) (by simp [mset_mset, mset]) rfl rfl (ih2 _ (itr_nx hj hv2 rfl))

set_option maxRecDepth 100000 in
set_option maxHeartbeats 4000000 in
theorem kX5_isAsSeen {l : Launch} {G : GT} {μ : MemT} {k : Nat} (hk : k ≤ 8) (hs : μ 18 11 = nI k) {x d : Int32} : sw_Met l G yX5_isAsSeen cX5_isAsSeen 6 (some .boolean) (rmk 1 21) [.ref (G.2.1 11), .ref (G.2.1 18), .int x, .int d] μ (fun v μ2 => v = some (.int (bI (seenB k (μ 23) (μ 24) (μ 25) (μ 14) x d))) ∧ μ2 = μ) := by
  refine sw_Met.ofY (by decide) (Nat.le_of_ble_eq_true rfl) rfl ?_
  refine y_iconst (v := nI 0) dX5_isAsSeen_0 icn_0 ?_
  refine y_istore dX5_isAsSeen_1 rfl (by decide) ?_
  refine y_loop0 (fun (j : Nat)  => [some (.ref (G.2.1 11)), some (.ref (G.2.1 18)), some (.int x), some (.int d), some (.int (nI j)), none]) (fun (j : Nat)  => μ) (fun (j : Nat)  => fnd (unsB (μ 23) (μ 24) (μ 25) (μ 14) x d) (k - j) j = fnd (unsB (μ 23) (μ 24) (μ 25) (μ 14) x d) k 0) k (fun  hv3 => ?_) (fun j hj hv3 ih3 => ?_) 0  (Nat.zero_le _) (rfl)
  · refine y_iload dX5_isAsSeen_3 rfl ?_
    refine y_aload_n dX5_isAsSeen_5 rfl rfl ?_
    refine y_geti dX5_isAsSeen_6 11 clX4 kd_18 (by decide) wm_fl_X5_53 rfl rfl ?_
    refine y_icmp_ge 88 dX5_isAsSeen_9 (by decide) (fun _ => ?_) (fun hq => absurd (by rw [hs]; exact Int32.le_refl _) hq)
    refine y_iconst dX5_isAsSeen_88 ic_1 ?_
    refine y_zret dX5_isAsSeen_89 rfl ?_
    exact ⟨e_b1 (by rw [seenB, fnd_ex hv3]; rfl), rfl⟩
  · refine y_iload dX5_isAsSeen_3 rfl ?_
    refine y_aload_n dX5_isAsSeen_5 rfl rfl ?_
    refine y_geti dX5_isAsSeen_6 11 clX4 kd_18 (by decide) wm_fl_X5_53 rfl rfl ?_
    refine y_icmp_ge 88 dX5_isAsSeen_9 (by decide) (fun hq => absurd (by rw [hs] at hq; exact hq) (nI_ge hj (by omega))) (fun _ => ?_)
    refine y_aload_n dX5_isAsSeen_12 rfl rfl ?_
    refine y_getr dX5_isAsSeen_13 2 clX5 kd_11 (by decide) wm_fl_X5_18 rfl rfl ?_
    refine y_iload dX5_isAsSeen_16 rfl ?_
    refine y_iald dX5_isAsSeen_18 j kd_14 rfl (by omega) (by decide) ?_
    refine y_istore dX5_isAsSeen_19 rfl (by decide) ?_
    refine y_aload_n dX5_isAsSeen_21 rfl rfl ?_
    refine y_getr dX5_isAsSeen_22 4 clX4 kd_18 (by decide) wm_fl_X5_56 rfl rfl ?_
    refine y_iload dX5_isAsSeen_25 rfl ?_
    refine y_iald dX5_isAsSeen_27 j kd_23 rfl (by omega) (by decide) ?_
    refine y_iload_n dX5_isAsSeen_28 rfl rfl ?_
    refine y_cN2 dX5_isAsSeen_29 meX7_holds wn_X5_66 (kX7_holds) ⟨Nat.le_of_ble_eq_true rfl, Nat.le_of_ble_eq_true rfl⟩ ⟨rfl, rfl⟩ (Nat.le_of_ble_eq_true rfl) (fun v29 μ29 hp29 => ?_)
    obtain ⟨rfl, he29⟩ := hp29
    replace he29 := he29.symm
    subst he29
    refine y_ri ?_
    refine y_ifb_eq 44 dX5_isAsSeen_32 (by decide) (fun h32 => ?_) (fun h32 => ?_)
    · refine y_aload_n dX5_isAsSeen_44 rfl rfl ?_
      refine y_getr dX5_isAsSeen_45 5 clX4 kd_18 (by decide) wm_fl_X5_63 rfl rfl ?_
      refine y_iload dX5_isAsSeen_48 rfl ?_
      refine y_iald dX5_isAsSeen_50 j kd_24 rfl (by omega) (by decide) ?_
      refine y_iload_n dX5_isAsSeen_51 rfl rfl ?_
      refine y_cN2 dX5_isAsSeen_52 meX7_holds wn_X5_66 (kX7_holds) ⟨Nat.le_of_ble_eq_true rfl, Nat.le_of_ble_eq_true rfl⟩ ⟨rfl, rfl⟩ (Nat.le_of_ble_eq_true rfl) (fun v52 μ52 hp52 => ?_)
      obtain ⟨rfl, he52⟩ := hp52
      replace he52 := he52.symm
      subst he52
      refine y_ri ?_
      refine y_ifb_eq 64 dX5_isAsSeen_55 (by decide) (fun h55 => ?_) (fun h55 => ?_)
      · refine y_iload dX5_isAsSeen_64 rfl ?_
        refine y_iconst dX5_isAsSeen_66 ic_0 ?_
        refine y_cN2 dX5_isAsSeen_67 meX7_balance wn_X5_70 (kX7_balance) ⟨Nat.le_of_ble_eq_true rfl, Nat.le_of_ble_eq_true rfl⟩ ⟨rfl, rfl⟩ (Nat.le_of_ble_eq_true rfl) (fun v67 μ67 hp67 => ?_)
        obtain ⟨rfl, he67⟩ := hp67
        replace he67 := he67.symm
        subst he67
        refine y_ri ?_
        refine y_aload_n dX5_isAsSeen_70 rfl rfl ?_
        refine y_getr dX5_isAsSeen_71 6 clX4 kd_18 (by decide) wm_fl_X5_74 rfl rfl ?_
        refine y_iload dX5_isAsSeen_74 rfl ?_
        refine y_iald dX5_isAsSeen_76 j kd_25 rfl (by omega) (by decide) ?_
        refine y_icmp_eq 82 dX5_isAsSeen_77 (by decide) (fun h77 => ?_) (fun h77 => ?_)
        · refine y_iinc (v := nI (j + 1)) dX5_isAsSeen_82 rfl (nI_i1 _) rfl (by decide) ?_
          refine y_goto 3 dX5_isAsSeen_85 (by decide) ?_
          exact y_drop 5 (ih3 (fnd_nx hj hv3 (by clear ih3 hv3; simp_all [unsB, ledR])))
        · refine y_iconst dX5_isAsSeen_80 ic_0 ?_
          refine y_zret dX5_isAsSeen_81 rfl ?_
          exact ⟨e_b0 (by rw [seenB, fnd_hit hj hv3 (by clear ih3 hv3; simp_all [unsB, ledR])]; rfl), rfl⟩
      · refine y_iload dX5_isAsSeen_58 rfl ?_
        refine y_iload_n dX5_isAsSeen_60 rfl rfl ?_
        refine y_isub dX5_isAsSeen_61 ?_
        refine y_istore dX5_isAsSeen_62 rfl (by decide) ?_
        refine y_iload dX5_isAsSeen_64 rfl ?_
        refine y_iconst dX5_isAsSeen_66 ic_0 ?_
        refine y_cN2 dX5_isAsSeen_67 meX7_balance wn_X5_70 (kX7_balance) ⟨Nat.le_of_ble_eq_true rfl, Nat.le_of_ble_eq_true rfl⟩ ⟨rfl, rfl⟩ (Nat.le_of_ble_eq_true rfl) (fun v67 μ67 hp67 => ?_)
        obtain ⟨rfl, he67⟩ := hp67
        replace he67 := he67.symm
        subst he67
        refine y_ri ?_
        refine y_aload_n dX5_isAsSeen_70 rfl rfl ?_
        refine y_getr dX5_isAsSeen_71 6 clX4 kd_18 (by decide) wm_fl_X5_74 rfl rfl ?_
        refine y_iload dX5_isAsSeen_74 rfl ?_
        refine y_iald dX5_isAsSeen_76 j kd_25 rfl (by omega) (by decide) ?_
        refine y_icmp_eq 82 dX5_isAsSeen_77 (by decide) (fun h77 => ?_) (fun h77 => ?_)
        · refine y_iinc (v := nI (j + 1)) dX5_isAsSeen_82 rfl (nI_i1 _) rfl (by decide) ?_
          refine y_goto 3 dX5_isAsSeen_85 (by decide) ?_
          exact y_drop 5 (ih3 (fnd_nx hj hv3 (by clear ih3 hv3; simp_all [unsB, ledR])))
        · refine y_iconst dX5_isAsSeen_80 ic_0 ?_
          refine y_zret dX5_isAsSeen_81 rfl ?_
          exact ⟨e_b0 (by rw [seenB, fnd_hit hj hv3 (by clear ih3 hv3; simp_all [unsB, ledR])]; rfl), rfl⟩
    · refine y_iload dX5_isAsSeen_35 rfl ?_
      refine y_iload_n dX5_isAsSeen_37 rfl rfl ?_
      refine y_iadd dX5_isAsSeen_38 ?_
      refine y_istore dX5_isAsSeen_39 rfl (by decide) ?_
      refine y_goto 64 dX5_isAsSeen_41 (by decide) ?_
      refine y_iload dX5_isAsSeen_64 rfl ?_
      refine y_iconst dX5_isAsSeen_66 ic_0 ?_
      refine y_cN2 dX5_isAsSeen_67 meX7_balance wn_X5_70 (kX7_balance) ⟨Nat.le_of_ble_eq_true rfl, Nat.le_of_ble_eq_true rfl⟩ ⟨rfl, rfl⟩ (Nat.le_of_ble_eq_true rfl) (fun v67 μ67 hp67 => ?_)
      obtain ⟨rfl, he67⟩ := hp67
      replace he67 := he67.symm
      subst he67
      refine y_ri ?_
      refine y_aload_n dX5_isAsSeen_70 rfl rfl ?_
      refine y_getr dX5_isAsSeen_71 6 clX4 kd_18 (by decide) wm_fl_X5_74 rfl rfl ?_
      refine y_iload dX5_isAsSeen_74 rfl ?_
      refine y_iald dX5_isAsSeen_76 j kd_25 rfl (by omega) (by decide) ?_
      refine y_icmp_eq 82 dX5_isAsSeen_77 (by decide) (fun h77 => ?_) (fun h77 => ?_)
      · refine y_iinc (v := nI (j + 1)) dX5_isAsSeen_82 rfl (nI_i1 _) rfl (by decide) ?_
        refine y_goto 3 dX5_isAsSeen_85 (by decide) ?_
        exact y_drop 5 (ih3 (fnd_nx hj hv3 (by clear ih3 hv3; simp_all [unsB, ledR])))
      · refine y_iconst dX5_isAsSeen_80 ic_0 ?_
        refine y_zret dX5_isAsSeen_81 rfl ?_
        exact ⟨e_b0 (by rw [seenB, fnd_hit hj hv3 (by clear ih3 hv3; simp_all [unsB, ledR])]; rfl), rfl⟩

set_option maxRecDepth 100000 in
set_option maxHeartbeats 4000000 in
theorem kX5_addIfSeen {l : Launch} {G : GT} {μ : MemT} {k : Nat} (hk : k ≤ 8) (hs : μ 18 11 = nI k) {c : Nat} (hc145 : c ≤ 145) (hc : μ 11 4 = nI c) {x d : Int32} : sw_Met l G yX5_addIfSeen cX5_addIfSeen 4 none (rmk 2 46) [.ref (G.2.1 11), .ref (G.2.1 18), .int x, .int d] μ (fun v μ2 => v = none ∧ μ2 = wPut (wAdd (seenB k (μ 23) (μ 24) (μ 25) (μ 14) x d) x d (μ 12, μ 13, c)) μ) := by
  refine sw_Met.ofY (by decide) (Nat.le_of_ble_eq_true rfl) rfl ?_
  refine y_aload_n dX5_addIfSeen_0 rfl rfl ?_
  refine y_geti dX5_addIfSeen_1 4 clX5 kd_11 (by decide) wm_fl_X5_24 rfl rfl ?_
  refine y_sipush dX5_addIfSeen_4 is_145 ?_
  refine y_icmp_ge 50 dX5_addIfSeen_7 (by decide) (fun h7 => ?_) (fun h7 => ?_)
  · refine y_vret dX5_addIfSeen_50 ?_
    first
      | exact ⟨rfl, by rw [wAdd, if_neg (fun q => absurd h7 (by rw [hc]; exact nI_ge q.1 (by decide))), wPut_id hc]⟩
      | exact ⟨rfl, by rw [wAdd, if_neg (fun q => absurd (h17.symm.trans q.2) (by decide)), wPut_id hc]⟩
      | exact ⟨rfl, by
          rw [wAdd, if_pos ⟨by rw [hc] at h7; exact Nat.not_le.mp (fun q => h7 (nI_le (a := 145) q (by omega))), h17⟩]
          simp [wPut, hc, nI_1, mset_mset, mset]⟩
  · refine y_aload_n dX5_addIfSeen_10 rfl rfl ?_
    refine y_aload_n dX5_addIfSeen_11 rfl rfl ?_
    refine y_iload_n dX5_addIfSeen_12 rfl rfl ?_
    refine y_iload_n dX5_addIfSeen_13 rfl rfl ?_
    refine y_cV3 dX5_addIfSeen_14 meX5_isAsSeen clX5 kd_11 wm_ml_X5_49 (kX5_isAsSeen (by omega) hs) ⟨Nat.le_of_ble_eq_true rfl, Nat.le_of_ble_eq_true rfl⟩ ⟨rfl, rfl⟩ (Nat.le_of_ble_eq_true rfl) (fun v14 μ14 hp14 => ?_)
    obtain ⟨rfl, he14⟩ := hp14
    replace he14 := he14.symm
    subst he14
    refine y_ri ?_
    refine y_ifb_eq 50 dX5_addIfSeen_17 (by decide) (fun h17 => ?_) (fun h17 => ?_)
    · refine y_vret dX5_addIfSeen_50 ?_
      first
        | exact ⟨rfl, by rw [wAdd, if_neg (fun q => absurd h7 (by rw [hc]; exact nI_ge q.1 (by decide))), wPut_id hc]⟩
        | exact ⟨rfl, by rw [wAdd, if_neg (fun q => absurd (h17.symm.trans q.2) (by decide)), wPut_id hc]⟩
        | exact ⟨rfl, by
            rw [wAdd, if_pos ⟨by rw [hc] at h7; exact Nat.not_le.mp (fun q => h7 (nI_le (a := 145) q (by omega))), h17⟩]
            simp [wPut, hc, nI_1, mset_mset, mset]⟩
    · refine y_aload_n dX5_addIfSeen_20 rfl rfl ?_
      refine y_getr dX5_addIfSeen_21 0 clX5 kd_11 (by decide) wm_fl_X5_11 rfl rfl ?_
      refine y_aload_n dX5_addIfSeen_24 rfl rfl ?_
      refine y_geti dX5_addIfSeen_25 4 clX5 kd_11 (by decide) wm_fl_X5_24 rfl rfl ?_
      refine y_iload_n dX5_addIfSeen_28 rfl rfl ?_
      refine y_iast dX5_addIfSeen_29 c kd_12 (by simpa [mset] using hc) (by rw [hc] at h7; exact Nat.not_le.mp (fun q => h7 (nI_le (a := 145) q (by omega)))) (by decide) ?_
      refine y_aload_n dX5_addIfSeen_30 rfl rfl ?_
      refine y_getr dX5_addIfSeen_31 1 clX5 kd_11 (by decide) wm_fl_X5_15 rfl rfl ?_
      refine y_aload_n dX5_addIfSeen_34 rfl rfl ?_
      refine y_geti dX5_addIfSeen_35 4 clX5 kd_11 (by decide) wm_fl_X5_24 rfl rfl ?_
      refine y_iload_n dX5_addIfSeen_38 rfl rfl ?_
      refine y_iast dX5_addIfSeen_39 c kd_13 (by simpa [mset] using hc) (by rw [hc] at h7; exact Nat.not_le.mp (fun q => h7 (nI_le (a := 145) q (by omega)))) (by decide) ?_
      refine y_aload_n dX5_addIfSeen_40 rfl rfl ?_
      refine y_dup dX5_addIfSeen_41 rfl ?_
      refine y_geti dX5_addIfSeen_42 4 clX5 kd_11 (by decide) wm_fl_X5_24 rfl rfl ?_
      refine y_iconst dX5_addIfSeen_45 ic_1 ?_
      refine y_iadd dX5_addIfSeen_46 ?_
      refine y_puti dX5_addIfSeen_47 4 clX5 kd_11 (by decide) wm_fl_X5_24 rfl rfl rfl rfl (tyX5_ok 4 (by decide)) rfl rfl ?_
      refine y_vret dX5_addIfSeen_50 ?_
      first
        | exact ⟨rfl, by rw [wAdd, if_neg (fun q => absurd h7 (by rw [hc]; exact nI_ge q.1 (by decide))), wPut_id hc]⟩
        | exact ⟨rfl, by rw [wAdd, if_neg (fun q => absurd (h17.symm.trans q.2) (by decide)), wPut_id hc]⟩
        | exact ⟨rfl, by
            rw [wAdd, if_pos ⟨by rw [hc] at h7; exact Nat.not_le.mp (fun q => h7 (nI_le (a := 145) q (by omega))), h17⟩]
            simp [wPut, hc, nI_1, mset_mset, mset]⟩

theorem wAdd_le {b : Bool} {x d : Int32} {w : WsT} (h : w.2.2 ≤ 145) : (wAdd b x d w).2.2 ≤ 145 := by
  unfold wAdd
  split
  · rename_i q
    exact q.1
  · exact h
theorem wPut_wPut (w z : WsT) (μ : MemT) : wPut w (wPut z μ) = wPut w μ := by
  funext k
  simp only [wPut, mset]
  repeat' split
  all_goals simp_all [upd_upd, mset]
theorem wPut_12 (w : WsT) (μ : MemT) : wPut w μ 12 = w.1 := by simp [wPut, mset]
theorem wPut_13 (w : WsT) (μ : MemT) : wPut w μ 13 = w.2.1 := by simp [wPut, mset]
theorem wPut_4 (w : WsT) (μ : MemT) : wPut w μ 11 4 = nI w.2.2 := by simp [wPut, mset, upd]
theorem wPut_ne (w : WsT) (μ : MemT) {k : Nat} (h1 : k ≠ 11) (h2 : k ≠ 12) (h3 : k ≠ 13) : wPut w μ k = μ k := by simp [wPut, mset, h1, h2, h3]
/-- the d's from -9 to 9, by place -/
def dI (j : Nat) : Int32 := Int32.ofInt ((j : Int) - 9)
def wOf (k : Nat) (sf ss sh l : Nat → Int32) (x : Int32) (s : Int32) (w : WsT) : WsT := itr (fun j w => if ¬ dI j = 0 ∧ ¬ s + dI j < 1 then wAdd (seenB k sf ss sh l x (dI j)) x (dI j) w else w) 19 0 w
