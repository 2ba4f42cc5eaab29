def twCopy (b c : Nat) (μ : MemT) : MemT := mset (mset (mset (mset (mset (mset (mset (mset μ (b + 1) (va_cpy (μ (c + 1)) (μ (b + 1)) 0 0 8)) (b + 2) (va_cpy (μ (c + 2)) (μ (b + 2)) 0 0 8)) (b + 3) (va_cpy (μ (c + 3)) (μ (b + 3)) 0 0 8)) (b + 4) (va_cpy (μ (c + 4)) (μ (b + 4)) 0 0 8)) (b + 5) (va_cpy (μ (c + 5)) (μ (b + 5)) 0 0 8)) (b + 6) (va_cpy (μ (c + 6)) (μ (b + 6)) 0 0 8)) (b + 7) (va_cpy (μ (c + 7)) (μ (b + 7)) 0 0 8)) b (upd (upd (upd (upd (upd (μ b) 7 (μ c 7)) 8 (μ c 8)) 9 (μ c 9)) 10 (μ c 10)) 11 (μ c 11))

set_option maxRecDepth 100000 in
set_option maxHeartbeats 4000000 in
theorem kX4_copyFrom {l : Launch} {G : GT} {b : Nat} (hT : isTw b) {c : Nat} (hC : isTw c) (hbc : b + 8 ≤ c ∨ c + 8 ≤ b) {μ : MemT} : sw_Met l G yX4_copyFrom cX4_copyFrom 2 none (rmk 1 30) [.ref (G.2.1 b), .ref (G.2.1 c)] μ (fun v μ2 => v = none ∧ μ2 = twCopy b c μ) := by
  refine sw_Met.ofY (by decide) (Nat.le_of_ble_eq_true rfl) rfl ?_
  refine y_aload_n dX4_copyFrom_0 rfl rfl ?_
  refine y_getr dX4_copyFrom_1 0 clX4 (tw_0 hC) (by decide) wm_fl_X4_9 rfl rfl ?_
  refine y_iconst dX4_copyFrom_4 ic_0 ?_
  refine y_aload_n dX4_copyFrom_5 rfl rfl ?_
  refine y_getr dX4_copyFrom_6 0 clX4 (tw_0 hT) (by decide) wm_fl_X4_9 rfl rfl ?_
  refine y_iconst dX4_copyFrom_9 ic_0 ?_
  refine y_bipush dX4_copyFrom_10 ib_8 ?_
  refine y_copy dX4_copyFrom_12 0 0 8 (tw_1 hC) (tw_1 hT) rfl rfl rfl (by decide) (by decide) (by decide) (by decide) wm_ml_X4_43 (by decide) (Nat.le_of_ble_eq_true rfl) ?_
  refine y_aload_n dX4_copyFrom_15 rfl rfl ?_
  refine y_getr dX4_copyFrom_16 1 clX4 (tw_0 hC) (by decide) wm_fl_X4_15 rfl rfl ?_
  refine y_iconst dX4_copyFrom_19 ic_0 ?_
  refine y_aload_n dX4_copyFrom_20 rfl rfl ?_
  refine y_getr dX4_copyFrom_21 1 clX4 (tw_0 hT) (by decide) wm_fl_X4_15 rfl rfl ?_
  refine y_iconst dX4_copyFrom_24 ic_0 ?_
  refine y_bipush dX4_copyFrom_25 ib_8 ?_
  refine y_copy dX4_copyFrom_27 0 0 8 (tw_2 hC) (tw_2 hT) rfl rfl rfl (by decide) (by decide) (by decide) (by decide) wm_ml_X4_43 (by decide) (Nat.le_of_ble_eq_true rfl) ?_
  refine y_aload_n dX4_copyFrom_30 rfl rfl ?_
  refine y_getr dX4_copyFrom_31 2 clX4 (tw_0 hC) (by decide) wm_fl_X4_18 rfl rfl ?_
  refine y_iconst dX4_copyFrom_34 ic_0 ?_
  refine y_aload_n dX4_copyFrom_35 rfl rfl ?_
  refine y_getr dX4_copyFrom_36 2 clX4 (tw_0 hT) (by decide) wm_fl_X4_18 rfl rfl ?_
  refine y_iconst dX4_copyFrom_39 ic_0 ?_
  refine y_bipush dX4_copyFrom_40 ib_8 ?_
  refine y_copy dX4_copyFrom_42 0 0 8 (tw_3 hC) (tw_3 hT) rfl rfl rfl (by decide) (by decide) (by decide) (by decide) wm_ml_X4_43 (by decide) (Nat.le_of_ble_eq_true rfl) ?_
  refine y_aload_n dX4_copyFrom_45 rfl rfl ?_
  refine y_getr dX4_copyFrom_46 3 clX4 (tw_0 hC) (by decide) wm_fl_X4_21 rfl rfl ?_
  refine y_iconst dX4_copyFrom_49 ic_0 ?_
  refine y_aload_n dX4_copyFrom_50 rfl rfl ?_
  refine y_getr dX4_copyFrom_51 3 clX4 (tw_0 hT) (by decide) wm_fl_X4_21 rfl rfl ?_
  refine y_iconst dX4_copyFrom_54 ic_0 ?_
  refine y_bipush dX4_copyFrom_55 ib_8 ?_
  refine y_copy dX4_copyFrom_57 0 0 8 (tw_4 hC) (tw_4 hT) rfl rfl rfl (by decide) (by decide) (by decide) (by decide) wm_ml_X4_43 (by decide) (Nat.le_of_ble_eq_true rfl) ?_
  refine y_aload_n dX4_copyFrom_60 rfl rfl ?_
  refine y_getr dX4_copyFrom_61 4 clX4 (tw_0 hC) (by decide) wm_fl_X4_24 rfl rfl ?_
  refine y_iconst dX4_copyFrom_64 ic_0 ?_
  refine y_aload_n dX4_copyFrom_65 rfl rfl ?_
  refine y_getr dX4_copyFrom_66 4 clX4 (tw_0 hT) (by decide) wm_fl_X4_24 rfl rfl ?_
  refine y_iconst dX4_copyFrom_69 ic_0 ?_
  refine y_bipush dX4_copyFrom_70 ib_8 ?_
  refine y_copy dX4_copyFrom_72 0 0 8 (tw_5 hC) (tw_5 hT) rfl rfl rfl (by decide) (by decide) (by decide) (by decide) wm_ml_X4_43 (by decide) (Nat.le_of_ble_eq_true rfl) ?_
  refine y_aload_n dX4_copyFrom_75 rfl rfl ?_
  refine y_getr dX4_copyFrom_76 5 clX4 (tw_0 hC) (by decide) wm_fl_X4_27 rfl rfl ?_
  refine y_iconst dX4_copyFrom_79 ic_0 ?_
  refine y_aload_n dX4_copyFrom_80 rfl rfl ?_
  refine y_getr dX4_copyFrom_81 5 clX4 (tw_0 hT) (by decide) wm_fl_X4_27 rfl rfl ?_
  refine y_iconst dX4_copyFrom_84 ic_0 ?_
  refine y_bipush dX4_copyFrom_85 ib_8 ?_
  refine y_copy dX4_copyFrom_87 0 0 8 (tw_6 hC) (tw_6 hT) rfl rfl rfl (by decide) (by decide) (by decide) (by decide) wm_ml_X4_43 (by decide) (Nat.le_of_ble_eq_true rfl) ?_
  refine y_aload_n dX4_copyFrom_90 rfl rfl ?_
  refine y_getr dX4_copyFrom_91 6 clX4 (tw_0 hC) (by decide) wm_fl_X4_30 rfl rfl ?_
  refine y_iconst dX4_copyFrom_94 ic_0 ?_
  refine y_aload_n dX4_copyFrom_95 rfl rfl ?_
  refine y_getr dX4_copyFrom_96 6 clX4 (tw_0 hT) (by decide) wm_fl_X4_30 rfl rfl ?_
  refine y_iconst dX4_copyFrom_99 ic_0 ?_
  refine y_bipush dX4_copyFrom_100 ib_8 ?_
  refine y_copy dX4_copyFrom_102 0 0 8 (tw_7 hC) (tw_7 hT) rfl rfl rfl (by decide) (by decide) (by decide) (by decide) wm_ml_X4_43 (by decide) (Nat.le_of_ble_eq_true rfl) ?_
  refine y_aload_n dX4_copyFrom_105 rfl rfl ?_
  refine y_aload_n dX4_copyFrom_106 rfl rfl ?_
  refine y_geti dX4_copyFrom_107 7 clX4 (tw_0 hC) (by decide) wm_fl_X4_49 rfl rfl ?_
  refine y_puti dX4_copyFrom_110 7 clX4 (tw_0 hT) (by decide) wm_fl_X4_49 rfl rfl rfl rfl (tyX4_ok 7 (by decide)) rfl rfl ?_
  refine y_aload_n dX4_copyFrom_113 rfl rfl ?_
  refine y_aload_n dX4_copyFrom_114 rfl rfl ?_
  refine y_geti dX4_copyFrom_115 8 clX4 (tw_0 hC) (by decide) wm_fl_X4_52 rfl rfl ?_
  refine y_puti dX4_copyFrom_118 8 clX4 (tw_0 hT) (by decide) wm_fl_X4_52 rfl rfl rfl rfl (tyX4_ok 8 (by decide)) rfl rfl ?_
  refine y_aload_n dX4_copyFrom_121 rfl rfl ?_
  refine y_aload_n dX4_copyFrom_122 rfl rfl ?_
  refine y_geti dX4_copyFrom_123 9 clX4 (tw_0 hC) (by decide) wm_fl_X4_33 rfl rfl ?_
  refine y_puti dX4_copyFrom_126 9 clX4 (tw_0 hT) (by decide) wm_fl_X4_33 rfl rfl rfl rfl (tyX4_ok 9 (by decide)) rfl rfl ?_
  refine y_aload_n dX4_copyFrom_129 rfl rfl ?_
  refine y_aload_n dX4_copyFrom_130 rfl rfl ?_
  refine y_geti dX4_copyFrom_131 10 clX4 (tw_0 hC) (by decide) wm_fl_X4_55 rfl rfl ?_
  refine y_puti dX4_copyFrom_134 10 clX4 (tw_0 hT) (by decide) wm_fl_X4_55 rfl rfl rfl rfl (tyX4_ok 10 (by decide)) rfl rfl ?_
  refine y_aload_n dX4_copyFrom_137 rfl rfl ?_
  refine y_aload_n dX4_copyFrom_138 rfl rfl ?_
  refine y_geti dX4_copyFrom_139 11 clX4 (tw_0 hC) (by decide) wm_fl_X4_58 rfl rfl ?_
  refine y_puti dX4_copyFrom_142 11 clX4 (tw_0 hT) (by decide) wm_fl_X4_58 rfl rfl rfl rfl (tyX4_ok 11 (by decide)) rfl rfl ?_
  refine y_vret dX4_copyFrom_145 ?_
  refine ⟨rfl, ?_⟩
  have n_0_0 : ¬ c = b := by omega
  have n_0_1 : ¬ c = b + 1 := by omega
  have n_0_2 : ¬ c = b + 2 := by omega
  have n_0_3 : ¬ c = b + 3 := by omega
  have n_0_4 : ¬ c = b + 4 := by omega
  have n_0_5 : ¬ c = b + 5 := by omega
  have n_0_6 : ¬ c = b + 6 := by omega
  have n_0_7 : ¬ c = b + 7 := by omega
  have n_1_0 : ¬ c + 1 = b := by omega
  have n_1_1 : ¬ c + 1 = b + 1 := by omega
  have n_1_2 : ¬ c + 1 = b + 2 := by omega
  have n_1_3 : ¬ c + 1 = b + 3 := by omega
  have n_1_4 : ¬ c + 1 = b + 4 := by omega
  have n_1_5 : ¬ c + 1 = b + 5 := by omega
  have n_1_6 : ¬ c + 1 = b + 6 := by omega
  have n_1_7 : ¬ c + 1 = b + 7 := by omega
  have n_2_0 : ¬ c + 2 = b := by omega
  have n_2_1 : ¬ c + 2 = b + 1 := by omega
  have n_2_2 : ¬ c + 2 = b + 2 := by omega
  have n_2_3 : ¬ c + 2 = b + 3 := by omega
  have n_2_4 : ¬ c + 2 = b + 4 := by omega
  have n_2_5 : ¬ c + 2 = b + 5 := by omega
  have n_2_6 : ¬ c + 2 = b + 6 := by omega
  have n_2_7 : ¬ c + 2 = b + 7 := by omega
  have n_3_0 : ¬ c + 3 = b := by omega
  have n_3_1 : ¬ c + 3 = b + 1 := by omega
  have n_3_2 : ¬ c + 3 = b + 2 := by omega
  have n_3_3 : ¬ c + 3 = b + 3 := by omega
  have n_3_4 : ¬ c + 3 = b + 4 := by omega
  have n_3_5 : ¬ c + 3 = b + 5 := by omega
  have n_3_6 : ¬ c + 3 = b + 6 := by omega
  have n_3_7 : ¬ c + 3 = b + 7 := by omega
  have n_4_0 : ¬ c + 4 = b := by omega
  have n_4_1 : ¬ c + 4 = b + 1 := by omega
  have n_4_2 : ¬ c + 4 = b + 2 := by omega
  have n_4_3 : ¬ c + 4 = b + 3 := by omega
  have n_4_4 : ¬ c + 4 = b + 4 := by omega
  have n_4_5 : ¬ c + 4 = b + 5 := by omega
  have n_4_6 : ¬ c + 4 = b + 6 := by omega
  have n_4_7 : ¬ c + 4 = b + 7 := by omega
  have n_5_0 : ¬ c + 5 = b := by omega
  have n_5_1 : ¬ c + 5 = b + 1 := by omega
  have n_5_2 : ¬ c + 5 = b + 2 := by omega
  have n_5_3 : ¬ c + 5 = b + 3 := by omega
  have n_5_4 : ¬ c + 5 = b + 4 := by omega
  have n_5_5 : ¬ c + 5 = b + 5 := by omega
  have n_5_6 : ¬ c + 5 = b + 6 := by omega
  have n_5_7 : ¬ c + 5 = b + 7 := by omega
  have n_6_0 : ¬ c + 6 = b := by omega
  have n_6_1 : ¬ c + 6 = b + 1 := by omega
  have n_6_2 : ¬ c + 6 = b + 2 := by omega
  have n_6_3 : ¬ c + 6 = b + 3 := by omega
  have n_6_4 : ¬ c + 6 = b + 4 := by omega
  have n_6_5 : ¬ c + 6 = b + 5 := by omega
  have n_6_6 : ¬ c + 6 = b + 6 := by omega
  have n_6_7 : ¬ c + 6 = b + 7 := by omega
  have n_7_0 : ¬ c + 7 = b := by omega
  have n_7_1 : ¬ c + 7 = b + 1 := by omega
  have n_7_2 : ¬ c + 7 = b + 2 := by omega
  have n_7_3 : ¬ c + 7 = b + 3 := by omega
  have n_7_4 : ¬ c + 7 = b + 4 := by omega
  have n_7_5 : ¬ c + 7 = b + 5 := by omega
  have n_7_6 : ¬ c + 7 = b + 6 := by omega
  have n_7_7 : ¬ c + 7 = b + 7 := by omega
  simp [twCopy, mset_mset, mset, upd, n_0_0, n_0_1, n_0_2, n_0_3, n_0_4, n_0_5, n_0_6, n_0_7, n_1_0, n_1_1, n_1_2, n_1_3, n_1_4, n_1_5, n_1_6, n_1_7, n_2_0, n_2_1, n_2_2, n_2_3, n_2_4, n_2_5, n_2_6, n_2_7, n_3_0, n_3_1, n_3_2, n_3_3, n_3_4, n_3_5, n_3_6, n_3_7, n_4_0, n_4_1, n_4_2, n_4_3, n_4_4, n_4_5, n_4_6, n_4_7, n_5_0, n_5_1, n_5_2, n_5_3, n_5_4, n_5_5, n_5_6, n_5_7, n_6_0, n_6_1, n_6_2, n_6_3, n_6_4, n_6_5, n_6_6, n_6_7, n_7_0, n_7_1, n_7_2, n_7_3, n_7_4, n_7_5, n_7_6, n_7_7]

def isL (x : Int32) : Bool := inR x 65 72
def aftN (x : Int32) : Int32 := if x = 42 then 0 else if x = 46 then 0 else if x = 94 then 4 else if x = 124 then 2 else if isL x then 1 else 5
def aft (r x : Int32) : Int32 := if r = 0 then aftN x else if r = 1 then (if isL x then 1 else if x = 124 then 2 else 5) else if r = 2 then (if isL x then 3 else 5) else if r = 3 then (if isL x then 3 else if x = 59 then 0 else 5) else if r = 4 then (if isL x then 0 else 5) else 5
def padAdd (k : Nat) (x : Int32) (μ : MemT) : MemT := mset (mset μ 4 (upd (μ 4) k x)) 3 (upd (μ 3) 1 (nI (k + 1)))
def ffR (s : Nat → Int32) : Nat → Nat → Int32 → Int32
  | 0, j, r => if r = 0 then -6 else nI j
  | n + 1, j, r => if aft r (s j) = 5 then nI j else ffR s n (j + 1) (aft r (s j))

set_option maxRecDepth 100000 in
set_option maxHeartbeats 4000000 in
theorem kX2_isLetter {l : Launch} {G : GT} {μ : MemT} {x : Int32} : sw_Met l G yX2_isLetter cX2_isLetter 1 (some .boolean) (rmk 1 22) [.int x] μ (fun v μ2 => v = some (.int (bI (isL x))) ∧ μ2 = μ) := by
  refine sw_Met.ofY (by decide) (Nat.le_of_ble_eq_true rfl) rfl ?_
  refine y_iload_n dX2_isLetter_0 rfl rfl ?_
  refine y_bipush dX2_isLetter_1 ib_65 ?_
  refine y_bipush dX2_isLetter_3 ib_72 ?_
  refine y_cN3 dX2_isLetter_5 meX7_within wn_X2_31 (kX7_within (A := 65) (B := 72) rfl rfl) ⟨Nat.le_of_ble_eq_true rfl, Nat.le_of_ble_eq_true rfl⟩ ⟨rfl, rfl⟩ (Nat.le_of_ble_eq_true rfl) (fun v5 μ5 hp5 => ?_)
  obtain ⟨rfl, he5⟩ := hp5
  replace he5 := he5.symm
  subst he5
  refine y_ri ?_
  refine y_zret dX2_isLetter_8 (bI_nar _) ?_
  exact ⟨rfl, rfl⟩

set_option maxRecDepth 100000 in
set_option maxHeartbeats 4000000 in
theorem kX2_afterNothing {l : Launch} {G : GT} {μ : MemT} {x : Int32} : sw_Met l G yX2_afterNothing cX2_afterNothing 1 (some .int) (rmk 2 42) [.int x] μ (fun v μ2 => v = some (.int (aftN x)) ∧ μ2 = μ) := by
  refine sw_Met.ofY (by decide) (Nat.le_of_ble_eq_true rfl) rfl ?_
  refine y_iload_n dX2_afterNothing_0 rfl rfl ?_
  refine y_case 42 (fun hs1 => ?_) (fun hn1_42 => ?_)
  · refine y_lookup 46 dX2_afterNothing_1 rfl rfl (by decide) ?_
    refine y_iconst dX2_afterNothing_46 ic_0 ?_
    refine y_iret dX2_afterNothing_47 ?_
    exact ⟨by simp_all [aftN], rfl⟩
  refine y_case 46 (fun hs1 => ?_) (fun hn1_46 => ?_)
  · refine y_lookup 44 dX2_afterNothing_1 rfl rfl (by decide) ?_
    refine y_iconst dX2_afterNothing_44 ic_0 ?_
    refine y_iret dX2_afterNothing_45 ?_
    exact ⟨by simp_all [aftN], rfl⟩
  refine y_case 94 (fun hs1 => ?_) (fun hn1_94 => ?_)
  · refine y_lookup 48 dX2_afterNothing_1 rfl rfl (by decide) ?_
    refine y_iconst dX2_afterNothing_48 ic_4 ?_
    refine y_iret dX2_afterNothing_49 ?_
    exact ⟨by simp_all [aftN], rfl⟩
  refine y_case 124 (fun hs1 => ?_) (fun hn1_124 => ?_)
  · refine y_lookup 50 dX2_afterNothing_1 rfl rfl (by decide) ?_
    refine y_iconst dX2_afterNothing_50 ic_2 ?_
    refine y_iret dX2_afterNothing_51 ?_
    exact ⟨by simp_all [aftN], rfl⟩
  refine y_lookup (off := 51) 52 dX2_afterNothing_1 rfl ((lv_osw hn1_42 rfl).trans ((lv_osw hn1_46 rfl).trans ((lv_osw hn1_94 rfl).trans ((lv_osw hn1_124 rfl).trans rfl)))) (by decide) ?_
  refine y_iload_n dX2_afterNothing_52 rfl rfl ?_
  refine y_cS1 dX2_afterNothing_53 meX2_isLetter wm_ml_X2_27 (kX2_isLetter) ⟨Nat.le_of_ble_eq_true rfl, Nat.le_of_ble_eq_true rfl⟩ ⟨rfl, rfl⟩ (Nat.le_of_ble_eq_true rfl) (fun v53 μ53 hp53 => ?_)
  obtain ⟨rfl, he53⟩ := hp53
  replace he53 := he53.symm
  subst he53
  refine y_ri ?_
  refine y_ifb_eq 63 dX2_afterNothing_56 (by decide) (fun h56 => ?_) (fun h56 => ?_)
  · refine y_iconst dX2_afterNothing_63 ic_5 ?_
    refine y_iret dX2_afterNothing_64 ?_
    exact ⟨by simp_all [aftN], rfl⟩
  · refine y_iconst dX2_afterNothing_59 ic_1 ?_
    refine y_goto 64 dX2_afterNothing_60 (by decide) ?_
    refine y_iret dX2_afterNothing_64 ?_
    exact ⟨by simp_all [aftN], rfl⟩

set_option maxRecDepth 100000 in
set_option maxHeartbeats 4000000 in
theorem kX2_after {l : Launch} {G : GT} {μ : MemT} {r x : Int32} : sw_Met l G yX2_after cX2_after 2 (some .int) (rmk 3 62) [.int r, .int x] μ (fun v μ2 => v = some (.int (aft r x)) ∧ μ2 = μ) := by
  refine sw_Met.ofY (by decide) (Nat.le_of_ble_eq_true rfl) rfl ?_
  refine y_iload_n dX2_after_0 rfl rfl ?_
  refine y_case 0 (fun hs1 => ?_) (fun hn1_0 => ?_)
  · refine y_tableIn 36 dX2_after_1 (by decide) (by decide) rfl (by decide) ?_
    refine y_iload_n dX2_after_36 rfl rfl ?_
    refine y_cS1 dX2_after_37 meX2_afterNothing wm_ml_X2_23 (kX2_afterNothing) ⟨Nat.le_of_ble_eq_true rfl, Nat.le_of_ble_eq_true rfl⟩ ⟨rfl, rfl⟩ (Nat.le_of_ble_eq_true rfl) (fun v37 μ37 hp37 => ?_)
    obtain ⟨rfl, he37⟩ := hp37
    replace he37 := he37.symm
    subst he37
    refine y_ri ?_
    refine y_iret dX2_after_40 ?_
    exact ⟨by simp_all [aft], rfl⟩
  refine y_case 1 (fun hs1 => ?_) (fun hn1_1 => ?_)
  · refine y_tableIn 41 dX2_after_1 (by decide) (by decide) rfl (by decide) ?_
    refine y_iload_n dX2_after_41 rfl rfl ?_
    refine y_cS1 dX2_after_42 meX2_isLetter wm_ml_X2_27 (kX2_isLetter) ⟨Nat.le_of_ble_eq_true rfl, Nat.le_of_ble_eq_true rfl⟩ ⟨rfl, rfl⟩ (Nat.le_of_ble_eq_true rfl) (fun v42 μ42 hp42 => ?_)
    obtain ⟨rfl, he42⟩ := hp42
    replace he42 := he42.symm
    subst he42
    refine y_ri ?_
    refine y_ifb_eq 52 dX2_after_45 (by decide) (fun h45 => ?_) (fun h45 => ?_)
    · refine y_iload_n dX2_after_52 rfl rfl ?_
      refine y_bipush dX2_after_53 ib_124 ?_
      refine y_icmp_ne 62 dX2_after_55 (by decide) (fun h55 => ?_) (fun h55 => ?_)
      · refine y_iconst dX2_after_62 ic_5 ?_
        refine y_iret dX2_after_63 ?_
        exact ⟨by simp_all [aft], rfl⟩
      · refine y_iconst dX2_after_58 ic_2 ?_
        refine y_goto 63 dX2_after_59 (by decide) ?_
        refine y_iret dX2_after_63 ?_
        exact ⟨by simp_all [aft], rfl⟩
    · refine y_iconst dX2_after_48 ic_1 ?_
      refine y_goto 63 dX2_after_49 (by decide) ?_
      refine y_iret dX2_after_63 ?_
      exact ⟨by simp_all [aft], rfl⟩
  refine y_case 2 (fun hs1 => ?_) (fun hn1_2 => ?_)
  · refine y_tableIn 64 dX2_after_1 (by decide) (by decide) rfl (by decide) ?_
    refine y_iload_n dX2_after_64 rfl rfl ?_
    refine y_cS1 dX2_after_65 meX2_isLetter wm_ml_X2_27 (kX2_isLetter) ⟨Nat.le_of_ble_eq_true rfl, Nat.le_of_ble_eq_true rfl⟩ ⟨rfl, rfl⟩ (Nat.le_of_ble_eq_true rfl) (fun v65 μ65 hp65 => ?_)
    obtain ⟨rfl, he65⟩ := hp65
    replace he65 := he65.symm
    subst he65
    refine y_ri ?_
    refine y_ifb_eq 75 dX2_after_68 (by decide) (fun h68 => ?_) (fun h68 => ?_)
    · refine y_iconst dX2_after_75 ic_5 ?_
      refine y_iret dX2_after_76 ?_
      exact ⟨by simp_all [aft], rfl⟩
    · refine y_iconst dX2_after_71 ic_3 ?_
      refine y_goto 76 dX2_after_72 (by decide) ?_
      refine y_iret dX2_after_76 ?_
      exact ⟨by simp_all [aft], rfl⟩
  refine y_case 3 (fun hs1 => ?_) (fun hn1_3 => ?_)
  · refine y_tableIn 77 dX2_after_1 (by decide) (by decide) rfl (by decide) ?_
    refine y_iload_n dX2_after_77 rfl rfl ?_
    refine y_cS1 dX2_after_78 meX2_isLetter wm_ml_X2_27 (kX2_isLetter) ⟨Nat.le_of_ble_eq_true rfl, Nat.le_of_ble_eq_true rfl⟩ ⟨rfl, rfl⟩ (Nat.le_of_ble_eq_true rfl) (fun v78 μ78 hp78 => ?_)
    obtain ⟨rfl, he78⟩ := hp78
    replace he78 := he78.symm
    subst he78
    refine y_ri ?_
    refine y_ifb_eq 88 dX2_after_81 (by decide) (fun h81 => ?_) (fun h81 => ?_)
    · refine y_iload_n dX2_after_88 rfl rfl ?_
      refine y_bipush dX2_after_89 ib_59 ?_
      refine y_icmp_ne 98 dX2_after_91 (by decide) (fun h91 => ?_) (fun h91 => ?_)
      · refine y_iconst dX2_after_98 ic_5 ?_
        refine y_iret dX2_after_99 ?_
        exact ⟨by simp_all [aft], rfl⟩
      · refine y_iconst dX2_after_94 ic_0 ?_
        refine y_goto 99 dX2_after_95 (by decide) ?_
        refine y_iret dX2_after_99 ?_
        exact ⟨by simp_all [aft], rfl⟩
    · refine y_iconst dX2_after_84 ic_3 ?_
      refine y_goto 99 dX2_after_85 (by decide) ?_
      refine y_iret dX2_after_99 ?_
      exact ⟨by simp_all [aft], rfl⟩
  refine y_case 4 (fun hs1 => ?_) (fun hn1_4 => ?_)
  · refine y_tableIn 100 dX2_after_1 (by decide) (by decide) rfl (by decide) ?_
    refine y_iload_n dX2_after_100 rfl rfl ?_
    refine y_cS1 dX2_after_101 meX2_isLetter wm_ml_X2_27 (kX2_isLetter) ⟨Nat.le_of_ble_eq_true rfl, Nat.le_of_ble_eq_true rfl⟩ ⟨rfl, rfl⟩ (Nat.le_of_ble_eq_true rfl) (fun v101 μ101 hp101 => ?_)
    obtain ⟨rfl, he101⟩ := hp101
    replace he101 := he101.symm
    subst he101
    refine y_ri ?_
    refine y_ifb_eq 111 dX2_after_104 (by decide) (fun h104 => ?_) (fun h104 => ?_)
    · refine y_iconst dX2_after_111 ic_5 ?_
      refine y_iret dX2_after_112 ?_
      exact ⟨by simp_all [aft], rfl⟩
    · refine y_iconst dX2_after_107 ic_0 ?_
      refine y_goto 112 dX2_after_108 (by decide) ?_
      refine y_iret dX2_after_112 ?_
      exact ⟨by simp_all [aft], rfl⟩
  refine y_tableOut 113 dX2_after_1 (sw_out5 hn1_0 hn1_1 hn1_2 hn1_3 hn1_4) (by decide) ?_
  refine y_iconst dX2_after_113 ic_5 ?_
  refine y_iret dX2_after_114 ?_
  exact ⟨by simp_all [aft], rfl⟩

set_option maxRecDepth 100000 in
set_option maxHeartbeats 4000000 in
theorem kX2_add {l : Launch} {G : GT} {μ : MemT} {x : Int32} {k : Nat} (hk : k ≤ 60) (hs : μ 3 1 = nI k) : sw_Met l G yX2_add cX2_add 2 (some .boolean) (rmk 0 0) [.ref (G.2.1 3), .int x] μ (fun v μ2 => v = some (.int (bI (decide (k < 60)))) ∧ μ2 = if k < 60 then padAdd k x μ else μ) := by
  refine sw_Met.ofY (by decide) (Nat.le_of_ble_eq_true rfl) rfl ?_
  refine y_aload_n dX2_add_0 rfl rfl ?_
  refine y_geti dX2_add_1 1 clX2 kd_3 (by decide) wm_fl_X2_15 rfl rfl ?_
  refine y_bipush dX2_add_4 ib_60 ?_
  refine y_icmp_lt 11 dX2_add_6 (by decide) (fun h6 => ?_) (fun h6 => ?_)
  · refine y_aload_n dX2_add_11 rfl rfl ?_
    refine y_getr dX2_add_12 0 clX2 kd_3 (by decide) wm_fl_X2_9 rfl rfl ?_
    refine y_aload_n dX2_add_15 rfl rfl ?_
    refine y_geti dX2_add_16 1 clX2 kd_3 (by decide) wm_fl_X2_15 rfl rfl ?_
    refine y_iload_n dX2_add_19 rfl rfl ?_
    refine y_iast dX2_add_20 k kd_4 hs (by rw [hs] at h6; exact (nI_ltI (a := k) (b := 60) (by omega) (by decide)).mp h6) (by decide) ?_
    refine y_aload_n dX2_add_21 rfl rfl ?_
    refine y_dup dX2_add_22 rfl ?_
    refine y_geti dX2_add_23 1 clX2 kd_3 (by decide) wm_fl_X2_15 rfl rfl ?_
    refine y_iconst dX2_add_26 ic_1 ?_
    refine y_iadd dX2_add_27 ?_
    refine y_puti dX2_add_28 1 clX2 kd_3 (by decide) wm_fl_X2_15 rfl rfl rfl rfl (tyX2_ok 1 (by decide)) rfl rfl ?_
    refine y_iconst dX2_add_31 ic_1 ?_
    refine y_zret dX2_add_32 rfl ?_
    have hk8 : k < 60 := by
      rw [hs] at h6
      exact (nI_ltI (a := k) (b := 60) (by omega) (by decide)).mp h6
    exact ⟨e_b1 (decide_eq_true hk8), by rw [if_pos hk8]; simp [padAdd, mset_mset, mset, hs, nI_1]⟩
  · refine y_iconst dX2_add_9 ic_0 ?_
    refine y_zret dX2_add_10 rfl ?_
    have hk8 : ¬ k < 60 := fun q => h6 (by rw [hs]; exact nI_lt q (by decide))
    exact ⟨e_b0 (decide_eq_false hk8), by rw [if_neg hk8]⟩

set_option maxRecDepth 100000 in
set_option maxHeartbeats 4000000 in
theorem kX2_firstFault {l : Launch} {G : GT} {μ : MemT} {c : Nat} (hc60 : c ≤ 60) (hc : μ 3 1 = nI c) : sw_Met l G yX2_firstFault cX2_firstFault 3 (some .int) (rmk 4 83) [.ref (G.2.1 3)] μ (fun v μ2 => v = some (.int (ffR (μ 4) c 0 0)) ∧ μ2 = μ) := by
  refine sw_Met.ofY (by decide) (Nat.le_of_ble_eq_true rfl) rfl ?_
  refine y_iconst dX2_firstFault_0 ic_0 ?_
  refine y_istore_n dX2_firstFault_1 rfl rfl (by decide) ?_
  refine y_iconst (v := nI 0) dX2_firstFault_2 icn_0 ?_
  refine y_istore_n dX2_firstFault_3 rfl rfl (by decide) ?_
  refine y_loop1 (fun (j : Nat) (a : Int32) => [some (.ref (G.2.1 3)), some (.int a), some (.int (nI j))]) (fun (j : Nat) (a : Int32) => μ) (fun (j : Nat) (a : Int32) => ffR (μ 4) (c - j) j a = ffR (μ 4) c 0 0) c (fun a hv4 => ?_) (fun j a hj hv4 ih4 => ?_) 0 (0) (Nat.zero_le _) (rfl)
  · rw [Nat.sub_self, ffR] at hv4
    refine y_iload_n dX2_firstFault_4 rfl rfl ?_
    refine y_aload_n dX2_firstFault_5 rfl rfl ?_
    refine y_geti dX2_firstFault_6 1 clX2 kd_3 (by decide) wm_fl_X2_15 rfl rfl ?_
    refine y_icmp_ge 36 dX2_firstFault_9 (by decide) (fun _ => ?_) (fun hq => absurd (by rw [hc]; exact Int32.le_refl _) hq)
    refine y_iload_n dX2_firstFault_36 rfl rfl ?_
    refine y_if_ne 45 dX2_firstFault_37 (by decide) (fun h37 => ?_) (fun h37 => ?_)
    · refine y_aload_n dX2_firstFault_45 rfl rfl ?_
      refine y_geti dX2_firstFault_46 1 clX2 kd_3 (by decide) wm_fl_X2_15 rfl rfl ?_
      refine y_iret dX2_firstFault_49 ?_
      first
        | exact ⟨by rw [← hv4, if_pos h37], rfl⟩
        | exact ⟨by rw [← hv4, if_neg h37, hc], rfl⟩
    · refine y_bipush dX2_firstFault_40 ib_m6 ?_
      refine y_goto 49 dX2_firstFault_42 (by decide) ?_
      refine y_iret dX2_firstFault_49 ?_
      first
        | exact ⟨by rw [← hv4, if_pos h37], rfl⟩
        | exact ⟨by rw [← hv4, if_neg h37, hc], rfl⟩
  · rw [sub_s hj, ffR] at hv4
    refine y_iload_n dX2_firstFault_4 rfl rfl ?_
    refine y_aload_n dX2_firstFault_5 rfl rfl ?_
    refine y_geti dX2_firstFault_6 1 clX2 kd_3 (by decide) wm_fl_X2_15 rfl rfl ?_
    refine y_icmp_ge 36 dX2_firstFault_9 (by decide) (fun hq => absurd (by rw [hc] at hq; exact hq) (nI_ge hj (by omega))) (fun _ => ?_)
    refine y_iload_n dX2_firstFault_12 rfl rfl ?_
    refine y_aload_n dX2_firstFault_13 rfl rfl ?_
    refine y_getr dX2_firstFault_14 0 clX2 kd_3 (by decide) wm_fl_X2_9 rfl rfl ?_
    refine y_iload_n dX2_firstFault_17 rfl rfl ?_
    refine y_iald dX2_firstFault_18 j kd_4 rfl (by omega) (by decide) ?_
    refine y_cS2 dX2_firstFault_19 meX2_after wm_ml_X2_19 (kX2_after) ⟨Nat.le_of_ble_eq_true rfl, Nat.le_of_ble_eq_true rfl⟩ ⟨rfl, rfl⟩ (Nat.le_of_ble_eq_true rfl) (fun v19 μ19 hp19 => ?_)
    obtain ⟨rfl, he19⟩ := hp19
    replace he19 := he19.symm
    subst he19
    refine y_ri ?_
    refine y_istore_n dX2_firstFault_22 rfl rfl (by decide) ?_
    refine y_iload_n dX2_firstFault_23 rfl rfl ?_
    refine y_iconst dX2_firstFault_24 ic_5 ?_
    refine y_icmp_ne 30 dX2_firstFault_25 (by decide) (fun h25 => ?_) (fun h25 => ?_)
    · refine y_iinc (v := nI (j + 1)) dX2_firstFault_30 rfl (nI_i1 _) rfl (by decide) ?_
      refine y_goto 4 dX2_firstFault_33 (by decide) ?_
      exact ih4 _ (by rw [← hv4, if_neg h25])
    · refine y_iload_n dX2_firstFault_28 rfl rfl ?_
      refine y_iret dX2_firstFault_29 ?_
      exact ⟨by rw [← hv4, if_pos h25], rfl⟩

def bgM (μ : MemT) : MemT := mset μ 5 (upd (upd (upd (upd (upd (μ 5) 8 0) 9 0) 10 0) 11 0) 12 0)
def endM (μ : MemT) : MemT := bgM (mset μ 5 (upd (μ 5) 1 (μ 5 1 + 1)))
def brkM (x : Int32) (μ : MemT) : MemT := mset μ 5 (upd (upd (μ 5) 2 (μ 5 1)) 3 x)
def sitR (x : Int32) (r : Nat → Int32) : Nat → Int32 := if r 11 = 0 then upd (if isP (r 8 ||| r 9) x then upd r 10 1 else r) 8 (r 8 ||| 1 <<< (x &&& 31)) else upd (if isP (r 8 ||| r 9) x then upd r 10 1 else r) 9 (r 9 ||| 1 <<< (x &&& 31))
def sitM (x : Int32) (μ : MemT) : MemT := mset μ 5 (sitR x (μ 5))
def rsnM (x : Int32) (μ : MemT) : Int32 := if subI (μ 5 8 ||| μ 5 9) (μ 42 7) = false then 1 else if ¬ μ 5 10 = 0 then 2 else if (togC (μ 5 8) (μ 46) && togC (μ 5 9) (μ 46)) = false then 3 else if 0 < x then 0 else 4
def asM (μ : MemT) : Int32 := sumB (μ 5 9 &&& μ 42 7) (μ 43) - sumB (μ 5 8 &&& μ 42 7) (μ 43)
def gdM (μ : MemT) : Int32 := if 0 < wcB (μ 5 9 &&& μ 42 7) (μ 42 8) (μ 44) - wcB (μ 5 8 &&& μ 42 7) (μ 42 8) (μ 44) then wcB (μ 5 9 &&& μ 42 7) (μ 42 8) (μ 44) - wcB (μ 5 8 &&& μ 42 7) (μ 42 8) (μ 44) else 0
def ofR (as gd lim : Int32) (r : Nat → Int32) : Nat → Int32 := if r 7 = -6 ∧ ¬ abI (gd - as) ≤ lim then upd r 7 (r 1) else r
def sellM (μ : MemT) : MemT := if rsnM (asM μ) μ = 0 then endM (mset μ 5 (upd (upd (upd (ofR (asM μ) (gdM μ) (μ 42 9) (μ 5)) 4 (μ 5 4 + 1)) 5 (μ 5 5 + asM μ)) 6 (μ 5 6 + gdM μ))) else brkM (rsnM (asM μ) μ) μ
def rpM (x : Int32) (μ : MemT) : MemT := if μ 5 12 = 0 then sitM x μ else if isP (μ 42 7) x then endM (twCold 42 x μ) else brkM 1 μ
def rdM (s : Int32) (μ : MemT) : MemT := if isL s then rpM (s - 65) μ else if s = 124 then mset μ 5 (upd (μ 5) 11 1) else if s = 94 then mset μ 5 (upd (μ 5) 12 1) else if s = 46 then endM (twDay 42 μ) else if s = 42 then endM (twFeast 42 μ) else sellM μ
def stM (μ : MemT) : MemT := bgM (mset (twCopy 42 18 μ) 5 (upd (upd (upd (upd (upd (upd (upd (μ 5) 1 0) 2 (-6)) 3 (-6)) 4 0) 5 0) 6 0) 7 (-6)))
def hlR : Nat → Nat → MemT → MemT
  | 0, _, μ => μ
  | n + 1, j, μ => if μ 5 2 = -6 then hlR n (j + 1) (rdM (μ 4 j) μ) else μ
def ansM (μ : MemT) (x : Int32) : Int32 := if x = 0 then μ 5 2 else if x = 1 then μ 5 3 else if x = 2 then μ 5 4 else if x = 3 then μ 5 5 else if x = 4 then μ 5 6 else μ 5 7

set_option maxRecDepth 100000 in
set_option maxHeartbeats 4000000 in
theorem kX1_beginAct {l : Launch} {G : GT} {μ : MemT}  : sw_Met l G yX1_beginAct cX1_beginAct 1 none (rmk 0 0) [.ref (G.2.1 5)] μ (fun v μ2 => v = none ∧ μ2 = bgM μ) := by
  refine sw_Met.ofY (by decide) (Nat.le_of_ble_eq_true rfl) rfl ?_
  refine y_aload_n dX1_beginAct_0 rfl rfl ?_
  refine y_iconst dX1_beginAct_1 ic_0 ?_
  refine y_puti dX1_beginAct_2 8 clX1 kd_5 (by decide) wm_fl_X1_60 rfl rfl rfl rfl (tyX1_ok 8 (by decide)) rfl rfl ?_
  refine y_aload_n dX1_beginAct_5 rfl rfl ?_
  refine y_iconst dX1_beginAct_6 ic_0 ?_
  refine y_puti dX1_beginAct_7 9 clX1 kd_5 (by decide) wm_fl_X1_63 rfl rfl rfl rfl (tyX1_ok 9 (by decide)) rfl rfl ?_
  refine y_aload_n dX1_beginAct_10 rfl rfl ?_
  refine y_iconst dX1_beginAct_11 ic_0 ?_
  refine y_puti dX1_beginAct_12 10 clX1 kd_5 (by decide) wm_fl_X1_66 rfl rfl rfl rfl (tyX1_ok 10 (by decide)) rfl rfl ?_
  refine y_aload_n dX1_beginAct_15 rfl rfl ?_
  refine y_iconst dX1_beginAct_16 ic_0 ?_
  refine y_puti dX1_beginAct_17 11 clX1 kd_5 (by decide) wm_fl_X1_70 rfl rfl rfl rfl (tyX1_ok 11 (by decide)) rfl rfl ?_
  refine y_aload_n dX1_beginAct_20 rfl rfl ?_
  refine y_iconst dX1_beginAct_21 ic_0 ?_
  refine y_puti dX1_beginAct_22 12 clX1 kd_5 (by decide) wm_fl_X1_73 rfl rfl rfl rfl (tyX1_ok 12 (by decide)) rfl rfl ?_
  refine y_vret dX1_beginAct_25 ?_
  exact ⟨rfl, by simp only [bgM, mset_mset, mset_self]⟩

set_option maxRecDepth 100000 in
set_option maxHeartbeats 4000000 in
theorem kX1_endAct {l : Launch} {G : GT} {μ : MemT}  : sw_Met l G yX1_endAct cX1_endAct 1 none (rmk 1 20) [.ref (G.2.1 5)] μ (fun v μ2 => v = none ∧ μ2 = endM μ) := by
  refine sw_Met.ofY (by decide) (Nat.le_of_ble_eq_true rfl) rfl ?_
  refine y_aload_n dX1_endAct_0 rfl rfl ?_
  refine y_dup dX1_endAct_1 rfl ?_
  refine y_geti dX1_endAct_2 1 clX1 kd_5 (by decide) wm_fl_X1_22 rfl rfl ?_
  refine y_iconst dX1_endAct_5 ic_1 ?_
  refine y_iadd dX1_endAct_6 ?_
  refine y_puti dX1_endAct_7 1 clX1 kd_5 (by decide) wm_fl_X1_22 rfl rfl rfl rfl (tyX1_ok 1 (by decide)) rfl rfl ?_
  refine y_aload_n dX1_endAct_10 rfl rfl ?_
  refine y_cV0 dX1_endAct_11 meX1_beginAct clX1 kd_5 wm_ml_X1_44 (kX1_beginAct) ⟨Nat.le_of_ble_eq_true rfl, Nat.le_of_ble_eq_true rfl⟩ ⟨rfl, rfl⟩ (Nat.le_of_ble_eq_true rfl) (fun v11 μ11 hp11 => ?_)
  obtain ⟨rfl, he11⟩ := hp11
  replace he11 := he11.symm
  subst he11
  refine y_rv ?_
  refine y_vret dX1_endAct_14 ?_
  exact ⟨rfl, rfl⟩

set_option maxRecDepth 100000 in
set_option maxHeartbeats 4000000 in
theorem kX1_breakOff {l : Launch} {G : GT} {μ : MemT} {x : Int32} : sw_Met l G yX1_breakOff cX1_breakOff 2 none (rmk 0 0) [.ref (G.2.1 5), .int x] μ (fun v μ2 => v = none ∧ μ2 = brkM x μ) := by
  refine sw_Met.ofY (by decide) (Nat.le_of_ble_eq_true rfl) rfl ?_
  refine y_aload_n dX1_breakOff_0 rfl rfl ?_
  refine y_aload_n dX1_breakOff_1 rfl rfl ?_
  refine y_geti dX1_breakOff_2 1 clX1 kd_5 (by decide) wm_fl_X1_22 rfl rfl ?_
  refine y_puti dX1_breakOff_5 2 clX1 kd_5 (by decide) wm_fl_X1_26 rfl rfl rfl rfl (tyX1_ok 2 (by decide)) rfl rfl ?_
  refine y_aload_n dX1_breakOff_8 rfl rfl ?_
  refine y_iload_n dX1_breakOff_9 rfl rfl ?_
  refine y_puti dX1_breakOff_10 3 clX1 kd_5 (by decide) wm_fl_X1_29 rfl rfl rfl rfl (tyX1_ok 3 (by decide)) rfl rfl ?_
  refine y_vret dX1_breakOff_13 ?_
  exact ⟨rfl, by simp only [brkM, mset_mset, mset_self]⟩

set_option maxRecDepth 100000 in
set_option maxHeartbeats 4000000 in
theorem kX1_sit {l : Launch} {G : GT} {μ : MemT} {x : Int32} : sw_Met l G yX1_sit cX1_sit 2 none (rmk 1 21) [.ref (G.2.1 5), .int x] μ (fun v μ2 => v = none ∧ μ2 = sitM x μ) := by
  refine sw_Met.ofY (by decide) (Nat.le_of_ble_eq_true rfl) rfl ?_
  refine y_aload_n dX1_sit_0 rfl rfl ?_
  refine y_geti dX1_sit_1 8 clX1 kd_5 (by decide) wm_fl_X1_60 rfl rfl ?_
  refine y_aload_n dX1_sit_4 rfl rfl ?_
  refine y_geti dX1_sit_5 9 clX1 kd_5 (by decide) wm_fl_X1_63 rfl rfl ?_
  refine y_ior dX1_sit_8 ?_
  refine y_iload_n dX1_sit_9 rfl rfl ?_
  refine y_cN2 dX1_sit_10 meX7_holds wn_X1_107 (kX7_holds) ⟨Nat.le_of_ble_eq_true rfl, Nat.le_of_ble_eq_true rfl⟩ ⟨rfl, rfl⟩ (Nat.le_of_ble_eq_true rfl) (fun v10 μ10 hp10 => ?_)
  obtain ⟨rfl, he10⟩ := hp10
  replace he10 := he10.symm
  subst he10
  refine y_ri ?_
  refine y_ifb_eq 21 dX1_sit_13 (by decide) (fun h13 => ?_) (fun h13 => ?_)
  · refine y_aload_n dX1_sit_21 rfl rfl ?_
    refine y_geti dX1_sit_22 11 clX1 kd_5 (by decide) wm_fl_X1_70 rfl rfl ?_
    refine y_if_eq 43 dX1_sit_25 (by decide) (fun h25 => ?_) (fun h25 => ?_)
    · refine y_aload_n dX1_sit_43 rfl rfl ?_
      refine y_dup dX1_sit_44 rfl ?_
      refine y_geti dX1_sit_45 8 clX1 kd_5 (by decide) wm_fl_X1_60 rfl rfl ?_
      refine y_iconst dX1_sit_48 ic_1 ?_
      refine y_iload_n dX1_sit_49 rfl rfl ?_
      refine y_ishl dX1_sit_50 ?_
      refine y_ior dX1_sit_51 ?_
      refine y_puti dX1_sit_52 8 clX1 kd_5 (by decide) wm_fl_X1_60 rfl rfl rfl rfl (tyX1_ok 8 (by decide)) rfl rfl ?_
      refine y_vret dX1_sit_55 ?_
      exact ⟨rfl, by simp_all [sitM, sitR, mset_mset, mset_self, upd]⟩
    · refine y_aload_n dX1_sit_28 rfl rfl ?_
      refine y_dup dX1_sit_29 rfl ?_
      refine y_geti dX1_sit_30 9 clX1 kd_5 (by decide) wm_fl_X1_63 rfl rfl ?_
      refine y_iconst dX1_sit_33 ic_1 ?_
      refine y_iload_n dX1_sit_34 rfl rfl ?_
      refine y_ishl dX1_sit_35 ?_
      refine y_ior dX1_sit_36 ?_
      refine y_puti dX1_sit_37 9 clX1 kd_5 (by decide) wm_fl_X1_63 rfl rfl rfl rfl (tyX1_ok 9 (by decide)) rfl rfl ?_
      refine y_goto 55 dX1_sit_40 (by decide) ?_
      refine y_vret dX1_sit_55 ?_
      exact ⟨rfl, by simp_all [sitM, sitR, mset_mset, mset_self, upd]⟩
  · refine y_aload_n dX1_sit_16 rfl rfl ?_
    refine y_iconst dX1_sit_17 ic_1 ?_
    refine y_puti dX1_sit_18 10 clX1 kd_5 (by decide) wm_fl_X1_66 rfl rfl rfl rfl (tyX1_ok 10 (by decide)) rfl rfl ?_
    refine y_aload_n dX1_sit_21 rfl rfl ?_
    refine y_geti dX1_sit_22 11 clX1 kd_5 (by decide) wm_fl_X1_70 rfl rfl ?_
    refine y_if_eq 43 dX1_sit_25 (by decide) (fun h25 => ?_) (fun h25 => ?_)
    · refine y_aload_n dX1_sit_43 rfl rfl ?_
      refine y_dup dX1_sit_44 rfl ?_
      refine y_geti dX1_sit_45 8 clX1 kd_5 (by decide) wm_fl_X1_60 rfl rfl ?_
      refine y_iconst dX1_sit_48 ic_1 ?_
      refine y_iload_n dX1_sit_49 rfl rfl ?_
      refine y_ishl dX1_sit_50 ?_
      refine y_ior dX1_sit_51 ?_
      refine y_puti dX1_sit_52 8 clX1 kd_5 (by decide) wm_fl_X1_60 rfl rfl rfl rfl (tyX1_ok 8 (by decide)) rfl rfl ?_
      refine y_vret dX1_sit_55 ?_
      exact ⟨rfl, by simp_all [sitM, sitR, mset_mset, mset_self, upd]⟩
    · refine y_aload_n dX1_sit_28 rfl rfl ?_
      refine y_dup dX1_sit_29 rfl ?_
      refine y_geti dX1_sit_30 9 clX1 kd_5 (by decide) wm_fl_X1_63 rfl rfl ?_
      refine y_iconst dX1_sit_33 ic_1 ?_
      refine y_iload_n dX1_sit_34 rfl rfl ?_
      refine y_ishl dX1_sit_35 ?_
      refine y_ior dX1_sit_36 ?_
      refine y_puti dX1_sit_37 9 clX1 kd_5 (by decide) wm_fl_X1_63 rfl rfl rfl rfl (tyX1_ok 9 (by decide)) rfl rfl ?_
      refine y_goto 55 dX1_sit_40 (by decide) ?_
      refine y_vret dX1_sit_55 ?_
      exact ⟨rfl, by simp_all [sitM, sitR, mset_mset, mset_self, upd]⟩

set_option maxRecDepth 100000 in
set_option maxHeartbeats 4000000 in
theorem kX1_reasonAgainst {l : Launch} {G : GT} {μ : MemT} {x : Int32} : sw_Met l G yX1_reasonAgainst cX1_reasonAgainst 2 (some .int) (rmk 1 22) [.ref (G.2.1 5), .int x] μ (fun v μ2 => v = some (.int (rsnM x μ)) ∧ μ2 = μ) := by
  refine sw_Met.ofY (by decide) (Nat.le_of_ble_eq_true rfl) rfl ?_
  refine y_aload_n dX1_reasonAgainst_0 rfl rfl ?_
  refine y_getr dX1_reasonAgainst_1 0 clX1 kd_5 (by decide) wm_fl_X1_12 rfl rfl ?_
  refine y_aload_n dX1_reasonAgainst_4 rfl rfl ?_
  refine y_geti dX1_reasonAgainst_5 8 clX1 kd_5 (by decide) wm_fl_X1_60 rfl rfl ?_
  refine y_aload_n dX1_reasonAgainst_8 rfl rfl ?_
  refine y_geti dX1_reasonAgainst_9 9 clX1 kd_5 (by decide) wm_fl_X1_63 rfl rfl ?_
  refine y_ior dX1_reasonAgainst_12 ?_
  refine y_cV1 dX1_reasonAgainst_13 meX4_hasAll clX4 kd_42 wm_ml_X1_137 (kX4_hasAll tw42) ⟨Nat.le_of_ble_eq_true rfl, Nat.le_of_ble_eq_true rfl⟩ ⟨rfl, rfl⟩ (Nat.le_of_ble_eq_true rfl) (fun v13 μ13 hp13 => ?_)
  obtain ⟨rfl, he13⟩ := hp13
  replace he13 := he13.symm
  subst he13
  refine y_ri ?_
  refine y_ifb_ne 21 dX1_reasonAgainst_16 (by decide) (fun h16 => ?_) (fun h16 => ?_)
  · refine y_aload_n dX1_reasonAgainst_21 rfl rfl ?_
    refine y_geti dX1_reasonAgainst_22 10 clX1 kd_5 (by decide) wm_fl_X1_66 rfl rfl ?_
    refine y_if_eq 30 dX1_reasonAgainst_25 (by decide) (fun h25 => ?_) (fun h25 => ?_)
    · refine y_aload_n dX1_reasonAgainst_30 rfl rfl ?_
      refine y_getr dX1_reasonAgainst_31 0 clX1 kd_5 (by decide) wm_fl_X1_12 rfl rfl ?_
      refine y_aload_n dX1_reasonAgainst_34 rfl rfl ?_
      refine y_geti dX1_reasonAgainst_35 8 clX1 kd_5 (by decide) wm_fl_X1_60 rfl rfl ?_
      refine y_cV1 dX1_reasonAgainst_38 meX4_together clX4 kd_42 wm_ml_X1_140 (kX4_together tw42) ⟨Nat.le_of_ble_eq_true rfl, Nat.le_of_ble_eq_true rfl⟩ ⟨rfl, rfl⟩ (Nat.le_of_ble_eq_true rfl) (fun v38 μ38 hp38 => ?_)
      obtain ⟨rfl, he38⟩ := hp38
      replace he38 := he38.symm
      subst he38
      refine y_ri ?_
      refine y_ifb_eq 58 dX1_reasonAgainst_41 (by decide) (fun h41 => ?_) (fun h41 => ?_)
      · refine y_iconst dX1_reasonAgainst_58 ic_3 ?_
        refine y_iret dX1_reasonAgainst_59 ?_
        exact ⟨by simp_all [rsnM], rfl⟩
      · refine y_aload_n dX1_reasonAgainst_44 rfl rfl ?_
        refine y_getr dX1_reasonAgainst_45 0 clX1 kd_5 (by decide) wm_fl_X1_12 rfl rfl ?_
        refine y_aload_n dX1_reasonAgainst_48 rfl rfl ?_
        refine y_geti dX1_reasonAgainst_49 9 clX1 kd_5 (by decide) wm_fl_X1_63 rfl rfl ?_
        refine y_cV1 dX1_reasonAgainst_52 meX4_together clX4 kd_42 wm_ml_X1_140 (kX4_together tw42) ⟨Nat.le_of_ble_eq_true rfl, Nat.le_of_ble_eq_true rfl⟩ ⟨rfl, rfl⟩ (Nat.le_of_ble_eq_true rfl) (fun v52 μ52 hp52 => ?_)
        obtain ⟨rfl, he52⟩ := hp52
        replace he52 := he52.symm
        subst he52
        refine y_ri ?_
        refine y_ifb_ne 60 dX1_reasonAgainst_55 (by decide) (fun h55 => ?_) (fun h55 => ?_)
        · refine y_iload_n dX1_reasonAgainst_60 rfl rfl ?_
          refine y_if_gt 68 dX1_reasonAgainst_61 (by decide) (fun h61 => ?_) (fun h61 => ?_)
          · refine y_iconst dX1_reasonAgainst_68 ic_0 ?_
            refine y_iret dX1_reasonAgainst_69 ?_
            exact ⟨by simp_all [rsnM], rfl⟩
          · refine y_iconst dX1_reasonAgainst_64 ic_4 ?_
            refine y_goto 69 dX1_reasonAgainst_65 (by decide) ?_
            refine y_iret dX1_reasonAgainst_69 ?_
            exact ⟨by simp_all [rsnM], rfl⟩
        · refine y_iconst dX1_reasonAgainst_58 ic_3 ?_
          refine y_iret dX1_reasonAgainst_59 ?_
          exact ⟨by simp_all [rsnM], rfl⟩
    · refine y_iconst dX1_reasonAgainst_28 ic_2 ?_
      refine y_iret dX1_reasonAgainst_29 ?_
      exact ⟨by simp_all [rsnM], rfl⟩
  · refine y_iconst dX1_reasonAgainst_19 ic_1 ?_
    refine y_iret dX1_reasonAgainst_20 ?_
    exact ⟨by simp_all [rsnM], rfl⟩

set_option maxRecDepth 100000 in
set_option maxHeartbeats 4000000 in
theorem kX1_answer {l : Launch} {G : GT} {μ : MemT} {x : Int32} : sw_Met l G yX1_answer cX1_answer 2 (some .int) (rmk 0 0) [.ref (G.2.1 5), .int x] μ (fun v μ2 => v = some (.int (ansM μ x)) ∧ μ2 = μ) := by
  refine sw_Met.ofY (by decide) (Nat.le_of_ble_eq_true rfl) rfl ?_
  refine y_iload_n dX1_answer_0 rfl rfl ?_
  refine y_case 0 (fun hs1 => ?_) (fun hn1_0 => ?_)
  · refine y_tableIn 36 dX1_answer_1 (by decide) (by decide) rfl (by decide) ?_
    refine y_aload_n dX1_answer_36 rfl rfl ?_
    refine y_geti dX1_answer_37 2 clX1 kd_5 (by decide) wm_fl_X1_26 rfl rfl ?_
    refine y_iret dX1_answer_40 ?_
    exact ⟨by simp_all [ansM], rfl⟩
  refine y_case 1 (fun hs1 => ?_) (fun hn1_1 => ?_)
  · refine y_tableIn 41 dX1_answer_1 (by decide) (by decide) rfl (by decide) ?_
    refine y_aload_n dX1_answer_41 rfl rfl ?_
    refine y_geti dX1_answer_42 3 clX1 kd_5 (by decide) wm_fl_X1_29 rfl rfl ?_
    refine y_iret dX1_answer_45 ?_
    exact ⟨by simp_all [ansM], rfl⟩
  refine y_case 2 (fun hs1 => ?_) (fun hn1_2 => ?_)
  · refine y_tableIn 46 dX1_answer_1 (by decide) (by decide) rfl (by decide) ?_
    refine y_aload_n dX1_answer_46 rfl rfl ?_
    refine y_geti dX1_answer_47 4 clX1 kd_5 (by decide) wm_fl_X1_32 rfl rfl ?_
    refine y_iret dX1_answer_50 ?_
    exact ⟨by simp_all [ansM], rfl⟩
  refine y_case 3 (fun hs1 => ?_) (fun hn1_3 => ?_)
  · refine y_tableIn 51 dX1_answer_1 (by decide) (by decide) rfl (by decide) ?_
    refine y_aload_n dX1_answer_51 rfl rfl ?_
    refine y_geti dX1_answer_52 5 clX1 kd_5 (by decide) wm_fl_X1_35 rfl rfl ?_
    refine y_iret dX1_answer_55 ?_
    exact ⟨by simp_all [ansM], rfl⟩
  refine y_case 4 (fun hs1 => ?_) (fun hn1_4 => ?_)
  · refine y_tableIn 56 dX1_answer_1 (by decide) (by decide) rfl (by decide) ?_
    refine y_aload_n dX1_answer_56 rfl rfl ?_
    refine y_geti dX1_answer_57 6 clX1 kd_5 (by decide) wm_fl_X1_38 rfl rfl ?_
    refine y_iret dX1_answer_60 ?_
    exact ⟨by simp_all [ansM], rfl⟩
  refine y_tableOut 61 dX1_answer_1 (sw_out5 hn1_0 hn1_1 hn1_2 hn1_3 hn1_4) (by decide) ?_
  refine y_aload_n dX1_answer_61 rfl rfl ?_
  refine y_geti dX1_answer_62 7 clX1 kd_5 (by decide) wm_fl_X1_41 rfl rfl ?_
  refine y_iret dX1_answer_65 ?_
  exact ⟨by simp_all [ansM], rfl⟩

set_option maxRecDepth 100000 in
set_option maxHeartbeats 4000000 in
theorem kX1_sell {l : Launch} {G : GT} {μ : MemT}  : sw_Met l G yX1_sell cX1_sell 4 none (rmk 2 45) [.ref (G.2.1 5)] μ (fun v μ2 => v = none ∧ μ2 = sellM μ) := by
  refine sw_Met.ofY (by decide) (Nat.le_of_ble_eq_true rfl) rfl ?_
  refine y_aload_n dX1_sell_0 rfl rfl ?_
  refine y_getr dX1_sell_1 0 clX1 kd_5 (by decide) wm_fl_X1_12 rfl rfl ?_
  refine y_aload_n dX1_sell_4 rfl rfl ?_
  refine y_geti dX1_sell_5 9 clX1 kd_5 (by decide) wm_fl_X1_63 rfl rfl ?_
  refine y_aload_n dX1_sell_8 rfl rfl ?_
  refine y_getr dX1_sell_9 0 clX1 kd_5 (by decide) wm_fl_X1_12 rfl rfl ?_
  refine y_getr dX1_sell_12 0 clX4 kd_42 (by decide) wm_fl_X1_111 rfl rfl ?_
  refine y_cV2 dX1_sell_15 meX4_sumOver clX4 kd_42 wm_ml_X1_114 (kX4_sumOver tw42 (hf := kd_43)) ⟨Nat.le_of_ble_eq_true rfl, Nat.le_of_ble_eq_true rfl⟩ ⟨rfl, rfl⟩ (Nat.le_of_ble_eq_true rfl) (fun v15 μ15 hp15 => ?_)
  obtain ⟨rfl, he15⟩ := hp15
  replace he15 := he15.symm
  subst he15
  refine y_ri ?_
  refine y_aload_n dX1_sell_18 rfl rfl ?_
  refine y_getr dX1_sell_19 0 clX1 kd_5 (by decide) wm_fl_X1_12 rfl rfl ?_
  refine y_aload_n dX1_sell_22 rfl rfl ?_
  refine y_geti dX1_sell_23 8 clX1 kd_5 (by decide) wm_fl_X1_60 rfl rfl ?_
  refine y_aload_n dX1_sell_26 rfl rfl ?_
  refine y_getr dX1_sell_27 0 clX1 kd_5 (by decide) wm_fl_X1_12 rfl rfl ?_
  refine y_getr dX1_sell_30 0 clX4 kd_42 (by decide) wm_fl_X1_111 rfl rfl ?_
  refine y_cV2 dX1_sell_33 meX4_sumOver clX4 kd_42 wm_ml_X1_114 (kX4_sumOver tw42 (hf := kd_43)) ⟨Nat.le_of_ble_eq_true rfl, Nat.le_of_ble_eq_true rfl⟩ ⟨rfl, rfl⟩ (Nat.le_of_ble_eq_true rfl) (fun v33 μ33 hp33 => ?_)
  obtain ⟨rfl, he33⟩ := hp33
  replace he33 := he33.symm
  subst he33
  refine y_ri ?_
  refine y_isub dX1_sell_36 ?_
  refine y_istore_n dX1_sell_37 rfl rfl (by decide) ?_
  refine y_aload_n dX1_sell_38 rfl rfl ?_
  refine y_iload_n dX1_sell_39 rfl rfl ?_
  refine y_cV1 dX1_sell_40 meX1_reasonAgainst clX1 kd_5 wm_ml_X1_118 (kX1_reasonAgainst) ⟨Nat.le_of_ble_eq_true rfl, Nat.le_of_ble_eq_true rfl⟩ ⟨rfl, rfl⟩ (Nat.le_of_ble_eq_true rfl) (fun v40 μ40 hp40 => ?_)
  obtain ⟨rfl, he40⟩ := hp40
  replace he40 := he40.symm
  subst he40
  refine y_ri ?_
  refine y_istore_n dX1_sell_43 rfl rfl (by decide) ?_
  refine y_iload_n dX1_sell_44 rfl rfl ?_
  refine y_if_eq 54 dX1_sell_45 (by decide) (fun h45 => ?_) (fun h45 => ?_)
  · refine y_iconst dX1_sell_54 ic_0 ?_
    refine y_aload_n dX1_sell_55 rfl rfl ?_
    refine y_getr dX1_sell_56 0 clX1 kd_5 (by decide) wm_fl_X1_12 rfl rfl ?_
    refine y_aload_n dX1_sell_59 rfl rfl ?_
    refine y_geti dX1_sell_60 9 clX1 kd_5 (by decide) wm_fl_X1_63 rfl rfl ?_
    refine y_cV1 dX1_sell_63 meX4_poundsOfAll clX4 kd_42 wm_ml_X1_122 (kX4_poundsOfAll tw42) ⟨Nat.le_of_ble_eq_true rfl, Nat.le_of_ble_eq_true rfl⟩ ⟨rfl, rfl⟩ (Nat.le_of_ble_eq_true rfl) (fun v63 μ63 hp63 => ?_)
    obtain ⟨rfl, he63⟩ := hp63
    replace he63 := he63.symm
    subst he63
    refine y_ri ?_
    refine y_aload_n dX1_sell_66 rfl rfl ?_
    refine y_getr dX1_sell_67 0 clX1 kd_5 (by decide) wm_fl_X1_12 rfl rfl ?_
    refine y_aload_n dX1_sell_70 rfl rfl ?_
    refine y_geti dX1_sell_71 8 clX1 kd_5 (by decide) wm_fl_X1_60 rfl rfl ?_
    refine y_cV1 dX1_sell_74 meX4_poundsOfAll clX4 kd_42 wm_ml_X1_122 (kX4_poundsOfAll tw42) ⟨Nat.le_of_ble_eq_true rfl, Nat.le_of_ble_eq_true rfl⟩ ⟨rfl, rfl⟩ (Nat.le_of_ble_eq_true rfl) (fun v74 μ74 hp74 => ?_)
    obtain ⟨rfl, he74⟩ := hp74
    replace he74 := he74.symm
    subst he74
    refine y_ri ?_
    refine y_isub dX1_sell_77 ?_
    refine y_mmax dX1_sell_78 wm_ml_X1_125 (by decide) (Nat.le_of_ble_eq_true rfl) ?_
    refine y_istore_n dX1_sell_81 rfl rfl (by decide) ?_
    refine y_aload_n dX1_sell_82 rfl rfl ?_
    refine y_geti dX1_sell_83 7 clX1 kd_5 (by decide) wm_fl_X1_41 rfl rfl ?_
    refine y_bipush dX1_sell_86 ib_m6 ?_
    refine y_icmp_ne 115 dX1_sell_88 (by decide) (fun h88 => ?_) (fun h88 => ?_)
    · refine y_aload_n dX1_sell_115 rfl rfl ?_
      refine y_dup dX1_sell_116 rfl ?_
      refine y_geti dX1_sell_117 4 clX1 kd_5 (by decide) wm_fl_X1_32 rfl rfl ?_
      refine y_iconst dX1_sell_120 ic_1 ?_
      refine y_iadd dX1_sell_121 ?_
      refine y_puti dX1_sell_122 4 clX1 kd_5 (by decide) wm_fl_X1_32 rfl rfl rfl rfl (tyX1_ok 4 (by decide)) rfl rfl ?_
      refine y_aload_n dX1_sell_125 rfl rfl ?_
      refine y_dup dX1_sell_126 rfl ?_
      refine y_geti dX1_sell_127 5 clX1 kd_5 (by decide) wm_fl_X1_35 rfl rfl ?_
      refine y_iload_n dX1_sell_130 rfl rfl ?_
      refine y_iadd dX1_sell_131 ?_
      refine y_puti dX1_sell_132 5 clX1 kd_5 (by decide) wm_fl_X1_35 rfl rfl rfl rfl (tyX1_ok 5 (by decide)) rfl rfl ?_
      refine y_aload_n dX1_sell_135 rfl rfl ?_
      refine y_dup dX1_sell_136 rfl ?_
      refine y_geti dX1_sell_137 6 clX1 kd_5 (by decide) wm_fl_X1_38 rfl rfl ?_
      refine y_iload_n dX1_sell_140 rfl rfl ?_
      refine y_iadd dX1_sell_141 ?_
      refine y_puti dX1_sell_142 6 clX1 kd_5 (by decide) wm_fl_X1_38 rfl rfl rfl rfl (tyX1_ok 6 (by decide)) rfl rfl ?_
      refine y_aload_n dX1_sell_145 rfl rfl ?_
      refine y_cV0 dX1_sell_146 meX1_endAct clX1 kd_5 wm_ml_X1_86 (kX1_endAct) ⟨Nat.le_of_ble_eq_true rfl, Nat.le_of_ble_eq_true rfl⟩ ⟨rfl, rfl⟩ (Nat.le_of_ble_eq_true rfl) (fun v146 μ146 hp146 => ?_)
      obtain ⟨rfl, he146⟩ := hp146
      replace he146 := he146.symm
      subst he146
      refine y_rv ?_
      refine y_vret dX1_sell_149 ?_
      refine ⟨rfl, ?_⟩
      simp_all [sellM, asM, gdM, ofR, abI, mset_mset, mset_self, mset, upd]
    · refine y_iload_n dX1_sell_91 rfl rfl ?_
      refine y_iload_n dX1_sell_92 rfl rfl ?_
      refine y_isub dX1_sell_93 ?_
      refine y_mabs dX1_sell_94 wm_ml_X1_131 (by decide) (Nat.le_of_ble_eq_true rfl) ?_
      refine y_aload_n dX1_sell_97 rfl rfl ?_
      refine y_getr dX1_sell_98 0 clX1 kd_5 (by decide) wm_fl_X1_12 rfl rfl ?_
      refine y_geti dX1_sell_101 9 clX4 kd_42 (by decide) wm_fl_X1_134 rfl rfl ?_
      refine y_icmp_le 115 dX1_sell_104 (by decide) (fun h104 => ?_) (fun h104 => ?_)
      · refine y_aload_n dX1_sell_115 rfl rfl ?_
        refine y_dup dX1_sell_116 rfl ?_
        refine y_geti dX1_sell_117 4 clX1 kd_5 (by decide) wm_fl_X1_32 rfl rfl ?_
        refine y_iconst dX1_sell_120 ic_1 ?_
        refine y_iadd dX1_sell_121 ?_
        refine y_puti dX1_sell_122 4 clX1 kd_5 (by decide) wm_fl_X1_32 rfl rfl rfl rfl (tyX1_ok 4 (by decide)) rfl rfl ?_
        refine y_aload_n dX1_sell_125 rfl rfl ?_
        refine y_dup dX1_sell_126 rfl ?_
        refine y_geti dX1_sell_127 5 clX1 kd_5 (by decide) wm_fl_X1_35 rfl rfl ?_
        refine y_iload_n dX1_sell_130 rfl rfl ?_
        refine y_iadd dX1_sell_131 ?_
        refine y_puti dX1_sell_132 5 clX1 kd_5 (by decide) wm_fl_X1_35 rfl rfl rfl rfl (tyX1_ok 5 (by decide)) rfl rfl ?_
        refine y_aload_n dX1_sell_135 rfl rfl ?_
        refine y_dup dX1_sell_136 rfl ?_
        refine y_geti dX1_sell_137 6 clX1 kd_5 (by decide) wm_fl_X1_38 rfl rfl ?_
        refine y_iload_n dX1_sell_140 rfl rfl ?_
        refine y_iadd dX1_sell_141 ?_
        refine y_puti dX1_sell_142 6 clX1 kd_5 (by decide) wm_fl_X1_38 rfl rfl rfl rfl (tyX1_ok 6 (by decide)) rfl rfl ?_
        refine y_aload_n dX1_sell_145 rfl rfl ?_
        refine y_cV0 dX1_sell_146 meX1_endAct clX1 kd_5 wm_ml_X1_86 (kX1_endAct) ⟨Nat.le_of_ble_eq_true rfl, Nat.le_of_ble_eq_true rfl⟩ ⟨rfl, rfl⟩ (Nat.le_of_ble_eq_true rfl) (fun v146 μ146 hp146 => ?_)
        obtain ⟨rfl, he146⟩ := hp146
        replace he146 := he146.symm
        subst he146
        refine y_rv ?_
        refine y_vret dX1_sell_149 ?_
        refine ⟨rfl, ?_⟩
        simp_all [sellM, asM, gdM, ofR, abI, mset_mset, mset_self, mset, upd]
      · refine y_aload_n dX1_sell_107 rfl rfl ?_
        refine y_aload_n dX1_sell_108 rfl rfl ?_
        refine y_geti dX1_sell_109 1 clX1 kd_5 (by decide) wm_fl_X1_22 rfl rfl ?_
        refine y_puti dX1_sell_112 7 clX1 kd_5 (by decide) wm_fl_X1_41 rfl rfl rfl rfl (tyX1_ok 7 (by decide)) rfl rfl ?_
        refine y_aload_n dX1_sell_115 rfl rfl ?_
        refine y_dup dX1_sell_116 rfl ?_
        refine y_geti dX1_sell_117 4 clX1 kd_5 (by decide) wm_fl_X1_32 rfl rfl ?_
        refine y_iconst dX1_sell_120 ic_1 ?_
        refine y_iadd dX1_sell_121 ?_
        refine y_puti dX1_sell_122 4 clX1 kd_5 (by decide) wm_fl_X1_32 rfl rfl rfl rfl (tyX1_ok 4 (by decide)) rfl rfl ?_
        refine y_aload_n dX1_sell_125 rfl rfl ?_
        refine y_dup dX1_sell_126 rfl ?_
        refine y_geti dX1_sell_127 5 clX1 kd_5 (by decide) wm_fl_X1_35 rfl rfl ?_
        refine y_iload_n dX1_sell_130 rfl rfl ?_
        refine y_iadd dX1_sell_131 ?_
        refine y_puti dX1_sell_132 5 clX1 kd_5 (by decide) wm_fl_X1_35 rfl rfl rfl rfl (tyX1_ok 5 (by decide)) rfl rfl ?_
        refine y_aload_n dX1_sell_135 rfl rfl ?_
        refine y_dup dX1_sell_136 rfl ?_
        refine y_geti dX1_sell_137 6 clX1 kd_5 (by decide) wm_fl_X1_38 rfl rfl ?_
        refine y_iload_n dX1_sell_140 rfl rfl ?_
        refine y_iadd dX1_sell_141 ?_
        refine y_puti dX1_sell_142 6 clX1 kd_5 (by decide) wm_fl_X1_38 rfl rfl rfl rfl (tyX1_ok 6 (by decide)) rfl rfl ?_
        refine y_aload_n dX1_sell_145 rfl rfl ?_
        refine y_cV0 dX1_sell_146 meX1_endAct clX1 kd_5 wm_ml_X1_86 (kX1_endAct) ⟨Nat.le_of_ble_eq_true rfl, Nat.le_of_ble_eq_true rfl⟩ ⟨rfl, rfl⟩ (Nat.le_of_ble_eq_true rfl) (fun v146 μ146 hp146 => ?_)
        obtain ⟨rfl, he146⟩ := hp146
        replace he146 := he146.symm
        subst he146
        refine y_rv ?_
        refine y_vret dX1_sell_149 ?_
        refine ⟨rfl, ?_⟩
        simp_all [sellM, asM, gdM, ofR, abI, mset_mset, mset_self, mset, upd]
  · refine y_aload_n dX1_sell_48 rfl rfl ?_
    refine y_iload_n dX1_sell_49 rfl rfl ?_
    refine y_cV1 dX1_sell_50 meX1_breakOff clX1 kd_5 wm_ml_X1_104 (kX1_breakOff) ⟨Nat.le_of_ble_eq_true rfl, Nat.le_of_ble_eq_true rfl⟩ ⟨rfl, rfl⟩ (Nat.le_of_ble_eq_true rfl) (fun v50 μ50 hp50 => ?_)
    obtain ⟨rfl, he50⟩ := hp50
    replace he50 := he50.symm
    subst he50
    refine y_rv ?_
    refine y_vret dX1_sell_53 ?_
    refine ⟨rfl, ?_⟩
    simp_all [sellM, asM, gdM, ofR, abI, mset_mset, mset_self, mset, upd]

set_option maxRecDepth 100000 in
set_option maxHeartbeats 4000000 in
theorem kX1_readPerson {l : Launch} {G : GT} {μ : MemT} {x : Int32} : sw_Met l G yX1_readPerson cX1_readPerson 2 none (rmk 2 42) [.ref (G.2.1 5), .int x] μ (fun v μ2 => v = none ∧ μ2 = rpM x μ) := by
  refine sw_Met.ofY (by decide) (Nat.le_of_ble_eq_true rfl) rfl ?_
  refine y_aload_n dX1_readPerson_0 rfl rfl ?_
  refine y_geti dX1_readPerson_1 12 clX1 kd_5 (by decide) wm_fl_X1_73 rfl rfl ?_
  refine y_if_ne 15 dX1_readPerson_4 (by decide) (fun h4 => ?_) (fun h4 => ?_)
  · refine y_aload_n dX1_readPerson_15 rfl rfl ?_
    refine y_getr dX1_readPerson_16 0 clX1 kd_5 (by decide) wm_fl_X1_12 rfl rfl ?_
    refine y_iload_n dX1_readPerson_19 rfl rfl ?_
    refine y_cV1 dX1_readPerson_20 meX4_has clX4 kd_42 wm_ml_X1_98 (kX4_has tw42) ⟨Nat.le_of_ble_eq_true rfl, Nat.le_of_ble_eq_true rfl⟩ ⟨rfl, rfl⟩ (Nat.le_of_ble_eq_true rfl) (fun v20 μ20 hp20 => ?_)
    obtain ⟨rfl, he20⟩ := hp20
    replace he20 := he20.symm
    subst he20
    refine y_ri ?_
    refine y_ifb_eq 41 dX1_readPerson_23 (by decide) (fun h23 => ?_) (fun h23 => ?_)
    · refine y_aload_n dX1_readPerson_41 rfl rfl ?_
      refine y_iconst dX1_readPerson_42 ic_1 ?_
      refine y_cV1 dX1_readPerson_43 meX1_breakOff clX1 kd_5 wm_ml_X1_104 (kX1_breakOff) ⟨Nat.le_of_ble_eq_true rfl, Nat.le_of_ble_eq_true rfl⟩ ⟨rfl, rfl⟩ (Nat.le_of_ble_eq_true rfl) (fun v43 μ43 hp43 => ?_)
      obtain ⟨rfl, he43⟩ := hp43
      replace he43 := he43.symm
      subst he43
      refine y_rv ?_
      refine y_vret dX1_readPerson_46 ?_
      exact ⟨rfl, by simp_all [rpM]⟩
    · refine y_aload_n dX1_readPerson_26 rfl rfl ?_
      refine y_getr dX1_readPerson_27 0 clX1 kd_5 (by decide) wm_fl_X1_12 rfl rfl ?_
      refine y_iload_n dX1_readPerson_30 rfl rfl ?_
      refine y_cV1 dX1_readPerson_31 meX4_turnCold clX4 kd_42 wm_ml_X1_101 (kX4_turnCold tw42) ⟨Nat.le_of_ble_eq_true rfl, Nat.le_of_ble_eq_true rfl⟩ ⟨rfl, rfl⟩ (Nat.le_of_ble_eq_true rfl) (fun v31 μ31 hp31 => ?_)
      obtain ⟨rfl, he31⟩ := hp31
      replace he31 := he31.symm
      subst he31
      refine y_rv ?_
      refine y_aload_n dX1_readPerson_34 rfl rfl ?_
      refine y_cV0 dX1_readPerson_35 meX1_endAct clX1 kd_5 wm_ml_X1_86 (kX1_endAct) ⟨Nat.le_of_ble_eq_true rfl, Nat.le_of_ble_eq_true rfl⟩ ⟨rfl, rfl⟩ (Nat.le_of_ble_eq_true rfl) (fun v35 μ35 hp35 => ?_)
      obtain ⟨rfl, he35⟩ := hp35
      replace he35 := he35.symm
      subst he35
      refine y_rv ?_
      refine y_goto 46 dX1_readPerson_38 (by decide) ?_
      refine y_vret dX1_readPerson_46 ?_
      exact ⟨rfl, by simp_all [rpM]⟩
  · refine y_aload_n dX1_readPerson_7 rfl rfl ?_
    refine y_iload_n dX1_readPerson_8 rfl rfl ?_
    refine y_cV1 dX1_readPerson_9 meX1_sit clX1 kd_5 wm_ml_X1_95 (kX1_sit) ⟨Nat.le_of_ble_eq_true rfl, Nat.le_of_ble_eq_true rfl⟩ ⟨rfl, rfl⟩ (Nat.le_of_ble_eq_true rfl) (fun v9 μ9 hp9 => ?_)
    obtain ⟨rfl, he9⟩ := hp9
    replace he9 := he9.symm
    subst he9
    refine y_rv ?_
    refine y_goto 46 dX1_readPerson_12 (by decide) ?_
    refine y_vret dX1_readPerson_46 ?_
    exact ⟨rfl, by simp_all [rpM]⟩

set_option maxRecDepth 100000 in
set_option maxHeartbeats 4000000 in
theorem kX1_read {l : Launch} {G : GT} {μ : MemT} {x : Int32} : sw_Met l G yX1_read cX1_read 2 none (rmk 3 68) [.ref (G.2.1 5), .int x] μ (fun v μ2 => v = none ∧ μ2 = rdM x μ) := by
  refine sw_Met.ofY (by decide) (Nat.le_of_ble_eq_true rfl) rfl ?_
  refine y_iload_n dX1_read_0 rfl rfl ?_
  refine y_cS1 dX1_read_1 meX2_isLetter wm_ml_X1_76 (kX2_isLetter) ⟨Nat.le_of_ble_eq_true rfl, Nat.le_of_ble_eq_true rfl⟩ ⟨rfl, rfl⟩ (Nat.le_of_ble_eq_true rfl) (fun v1 μ1 hp1 => ?_)
  obtain ⟨rfl, he1⟩ := hp1
  replace he1 := he1.symm
  subst he1
  refine y_ri ?_
  refine y_ifb_eq 18 dX1_read_4 (by decide) (fun h4 => ?_) (fun h4 => ?_)
  · refine y_iload_n dX1_read_18 rfl rfl ?_
    refine y_bipush dX1_read_19 ib_124 ?_
    refine y_icmp_ne 32 dX1_read_21 (by decide) (fun h21 => ?_) (fun h21 => ?_)
    · refine y_iload_n dX1_read_32 rfl rfl ?_
      refine y_bipush dX1_read_33 ib_94 ?_
      refine y_icmp_ne 46 dX1_read_35 (by decide) (fun h35 => ?_) (fun h35 => ?_)
      · refine y_iload_n dX1_read_46 rfl rfl ?_
        refine y_bipush dX1_read_47 ib_46 ?_
        refine y_icmp_ne 66 dX1_read_49 (by decide) (fun h49 => ?_) (fun h49 => ?_)
        · refine y_iload_n dX1_read_66 rfl rfl ?_
          refine y_bipush dX1_read_67 ib_42 ?_
          refine y_icmp_ne 86 dX1_read_69 (by decide) (fun h69 => ?_) (fun h69 => ?_)
          · refine y_aload_n dX1_read_86 rfl rfl ?_
            refine y_cV0 dX1_read_87 meX1_sell clX1 kd_5 wm_ml_X1_92 (kX1_sell) ⟨Nat.le_of_ble_eq_true rfl, Nat.le_of_ble_eq_true rfl⟩ ⟨rfl, rfl⟩ (Nat.le_of_ble_eq_true rfl) (fun v87 μ87 hp87 => ?_)
            obtain ⟨rfl, he87⟩ := hp87
            replace he87 := he87.symm
            subst he87
            refine y_rv ?_
            refine y_vret dX1_read_90 ?_
            exact ⟨rfl, by simp_all [rdM]⟩
          · refine y_aload_n dX1_read_72 rfl rfl ?_
            refine y_getr dX1_read_73 0 clX1 kd_5 (by decide) wm_fl_X1_12 rfl rfl ?_
            refine y_cV0 dX1_read_76 meX4_feast clX4 kd_42 wm_ml_X1_89 (kX4_feast tw42) ⟨Nat.le_of_ble_eq_true rfl, Nat.le_of_ble_eq_true rfl⟩ ⟨rfl, rfl⟩ (Nat.le_of_ble_eq_true rfl) (fun v76 μ76 hp76 => ?_)
            obtain ⟨rfl, he76⟩ := hp76
            replace he76 := he76.symm
            subst he76
            refine y_rv ?_
            refine y_aload_n dX1_read_79 rfl rfl ?_
            refine y_cV0 dX1_read_80 meX1_endAct clX1 kd_5 wm_ml_X1_86 (kX1_endAct) ⟨Nat.le_of_ble_eq_true rfl, Nat.le_of_ble_eq_true rfl⟩ ⟨rfl, rfl⟩ (Nat.le_of_ble_eq_true rfl) (fun v80 μ80 hp80 => ?_)
            obtain ⟨rfl, he80⟩ := hp80
            replace he80 := he80.symm
            subst he80
            refine y_rv ?_
            refine y_goto 90 dX1_read_83 (by decide) ?_
            refine y_vret dX1_read_90 ?_
            exact ⟨rfl, by simp_all [rdM]⟩
        · refine y_aload_n dX1_read_52 rfl rfl ?_
          refine y_getr dX1_read_53 0 clX1 kd_5 (by decide) wm_fl_X1_12 rfl rfl ?_
          refine y_cV0 dX1_read_56 meX4_passDay clX4 kd_42 wm_ml_X1_83 (kX4_passDay tw42) ⟨Nat.le_of_ble_eq_true rfl, Nat.le_of_ble_eq_true rfl⟩ ⟨rfl, rfl⟩ (Nat.le_of_ble_eq_true rfl) (fun v56 μ56 hp56 => ?_)
          obtain ⟨rfl, he56⟩ := hp56
          replace he56 := he56.symm
          subst he56
          refine y_rv ?_
          refine y_aload_n dX1_read_59 rfl rfl ?_
          refine y_cV0 dX1_read_60 meX1_endAct clX1 kd_5 wm_ml_X1_86 (kX1_endAct) ⟨Nat.le_of_ble_eq_true rfl, Nat.le_of_ble_eq_true rfl⟩ ⟨rfl, rfl⟩ (Nat.le_of_ble_eq_true rfl) (fun v60 μ60 hp60 => ?_)
          obtain ⟨rfl, he60⟩ := hp60
          replace he60 := he60.symm
          subst he60
          refine y_rv ?_
          refine y_goto 90 dX1_read_63 (by decide) ?_
          refine y_vret dX1_read_90 ?_
          exact ⟨rfl, by simp_all [rdM]⟩
      · refine y_aload_n dX1_read_38 rfl rfl ?_
        refine y_iconst dX1_read_39 ic_1 ?_
        refine y_puti dX1_read_40 12 clX1 kd_5 (by decide) wm_fl_X1_73 rfl rfl rfl rfl (tyX1_ok 12 (by decide)) rfl rfl ?_
        refine y_goto 90 dX1_read_43 (by decide) ?_
        refine y_vret dX1_read_90 ?_
        exact ⟨rfl, by simp_all [rdM]⟩
    · refine y_aload_n dX1_read_24 rfl rfl ?_
      refine y_iconst dX1_read_25 ic_1 ?_
      refine y_puti dX1_read_26 11 clX1 kd_5 (by decide) wm_fl_X1_70 rfl rfl rfl rfl (tyX1_ok 11 (by decide)) rfl rfl ?_
      refine y_goto 90 dX1_read_29 (by decide) ?_
      refine y_vret dX1_read_90 ?_
      exact ⟨rfl, by simp_all [rdM]⟩
  · refine y_aload_n dX1_read_7 rfl rfl ?_
    refine y_iload_n dX1_read_8 rfl rfl ?_
    refine y_bipush dX1_read_9 ib_65 ?_
    refine y_isub dX1_read_11 ?_
    refine y_cV1 dX1_read_12 meX1_readPerson clX1 kd_5 wm_ml_X1_80 (kX1_readPerson) ⟨Nat.le_of_ble_eq_true rfl, Nat.le_of_ble_eq_true rfl⟩ ⟨rfl, rfl⟩ (Nat.le_of_ble_eq_true rfl) (fun v12 μ12 hp12 => ?_)
    obtain ⟨rfl, he12⟩ := hp12
    replace he12 := he12.symm
    subst he12
    refine y_rv ?_
    refine y_goto 90 dX1_read_15 (by decide) ?_
    refine y_vret dX1_read_90 ?_
    exact ⟨rfl, by simp_all [rdM]⟩
