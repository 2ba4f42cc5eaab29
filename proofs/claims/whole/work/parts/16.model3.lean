/-! the reference: markets' answers, pans -/
def mJudge (c : Nat) (w : Int32) (μ : MemT) : Int32 × MemT := if inR w 0 5 = false then (-2, μ) else if (mRef c μ).1 = -5 ∨ (¬ w ≤ 1 ∧ (mRef c μ).1 = -3) then mRef c μ else (if w = 0 then (mRef c μ).2 58 26 else if w = 1 then (mRef c μ).2 58 27 else if w = 2 then (mRef c μ).2 58 19 else if w = 3 then (mRef c μ).2 58 20 else if w = 4 then (mRef c μ).2 58 21 else (mRef c μ).2 58 22, (mRef c μ).2)
def mBehind (c : Nat) (p w : Int32) (μ : MemT) : Int32 × MemT := if isP (μ 58 0) p = false then (-1, μ) else if inR w 0 2 = false then (-2, μ) else if ¬ (mRef c μ).1 = -6 then mRef c μ else (if w = 0 then (mRef c μ).2 72 (cl p) else if w = 1 then (mRef c μ).2 73 (cl p) else (mRef c μ).2 58 30, (mRef c μ).2)
def mDoneM (a : Nat) (μ : MemT) : MemT := mset (gmM a μ) 58 (upd (gmM a μ 58) 13 0)
def mDone (c : Nat) (μ : MemT) : Int32 × MemT := if ¬ (mRef c μ).1 = -6 then mRef c μ else (nI (psAll c μ).2.1, mDoneM (psAll c μ).2.1 (mRef c μ).2)
def mWeighs (p : Int32) (μ : MemT) : Int32 := if isP (μ 58 0) p then wc (μ 58 1) p (μ 60 (cl p)) else -1
def mOff (p : Int32) (μ : MemT) : Int32 := if isP (μ 58 0) p then wc (μ 58 1) p (μ 60 (cl p)) - μ 59 (cl p) + 1000 else -1
def moR (p : Nat) : Nat → Nat → Int32 → MemT → Int32 × MemT
  | 0, _, f, m => (f, m)
  | n + 1, j, f, m => if 0 ≤ f then (f, m) else moR p n (j + 1) (if abI (wc (m 58 1) (nI p) (m 60 p) - m 59 p) ≤ m 58 2 then -6 else nI j) (mDay m)
def meR (p q : Nat) : Nat → Nat → Int32 → MemT → Int32 × MemT
  | 0, _, f, m => (f, m)
  | n + 1, j, f, m => if 0 ≤ f then (f, m) else meR p q n (j + 1) (if wc (m 58 1) (nI p) (m 60 p) = wc (m 58 1) (nI q) (m 60 q) then nI j else -6) (mDay m)
theorem moR_stop (p n j : Nat) {f : Int32} (m : MemT) (h : 0 ≤ f) : moR p n j f m = (f, m) := by
  cases n with
  | zero => rfl
  | succ n => rw [moR, if_pos h]
theorem meR_stop (p q n j : Nat) {f : Int32} (m : MemT) (h : 0 ≤ f) : meR p q n j f m = (f, m) := by
  cases n with
  | zero => rfl
  | succ n => rw [meR, if_pos h]
def mOut (p : Int32) (μ : MemT) : Int32 × MemT := if isP (μ 58 0) p = false then (-1, μ) else ((moR (cl p) 100 0 (-6) (mKeep μ)).1, mBack (moR (cl p) 100 0 (-6) (mKeep μ)).2)
def mEven (p q : Int32) (μ : MemT) : Int32 × MemT := if (isP (μ 58 0) p && isP (μ 58 0) q && !decide (p = q)) = false then (-1, μ) else ((meR (cl p) (cl q) 100 0 (-6) (mKeep μ)).1, mBack (meR (cl p) (cl q) 100 0 (-6) (mKeep μ)).2)
theorem rf_18 (c : Nat) (μ : MemT) : rfPs c μ 58 18 = nI (psAll c μ).2.1 := putPs_58 _ _
theorem gm_f (a : Nat) (μ : MemT) {i : Nat} (h : i = 18 ∨ i = 13 ∨ i = 0 ∨ i = 2 ∨ i = 11) : gmM a μ 58 i = μ 58 i := by
  have key : ∀ (n k : Nat) (m : MemT), gmR n k m 58 i = m 58 i := by
    intro n
    induction n with
    | zero => intro k m; rfl
    | succ n ih =>
      intro k m
      rw [gmR]
      split
      · rfl
      · rw [ih, gmStep_f k m h]
  rw [gmM, key]
  rcases h with h | h | h | h | h <;> subst h <;> simp [gm0, mset, upd]
theorem rfM_18 (c : Nat) (μ : MemT) : rfM c μ 58 18 = nI (psAll c μ).2.1 := by
  have h := gm_f (psAll c μ).2.1 (mKeep (rfPs c μ)) (i := 18) (Or.inl rfl)
  have h2 : rfGo c μ 58 18 = nI (psAll c μ).2.1 := by
    rw [rfGo, h]
    simp [mKeep, mset, upd]
    exact rf_18 c μ
  simp [rfM, mBack, lvM, mset, upd, h2]

set_option maxRecDepth 100000 in
set_option maxHeartbeats 4000000 in
theorem kX8_judge {l : Launch} {G : GT} {μ : MemT} {c : Nat} (hc60 : c ≤ 60) (hc : μ 58 13 = nI c) {w : Int32} : sw_Met l G yX8_judge cX8_judge 3 (some .int) (rmk 6 131) [.ref (G.2.1 58), .int w] μ (fun v μ2 => v = some (.int (mJudge c w μ).1) ∧ μ2 = (mJudge c w μ).2) := by
  refine sw_Met.ofY (by decide) (Nat.le_of_ble_eq_true rfl) rfl ?_
  refine y_iload_n dX8_judge_0 rfl rfl ?_
  refine y_i2l dX8_judge_1 ?_
  refine y_lconst dX8_judge_2 lc_0 ?_
  refine y_ldc2 dX8_judge_3 wm_cl_X8_225 ?_
  refine y_cS3 dX8_judge_6 meX8_in wm_ml_X8_77 (kX8_in (A := 0) (B := 5) rfl rfl) ⟨Nat.le_of_ble_eq_true rfl, Nat.le_of_ble_eq_true rfl⟩ ⟨rfl, rfl⟩ (Nat.le_of_ble_eq_true rfl) (fun v6 μ6 hp6 => ?_)
  obtain ⟨rfl, he6⟩ := hp6
  replace he6 := he6.symm
  subst he6
  refine y_ri ?_
  refine y_ifb_ne 15 dX8_judge_9 (by decide) (fun h9 => ?_) (fun h9 => ?_)
  · refine y_aload_n dX8_judge_15 rfl rfl ?_
    refine y_cV0 dX8_judge_16 meX8_refusal clX8 kd_58 wm_ml_X8_227 (kX8_refusal hc60 hc) ⟨Nat.le_of_ble_eq_true rfl, Nat.le_of_ble_eq_true rfl⟩ ⟨rfl, rfl⟩ (Nat.le_of_ble_eq_true rfl) (fun v16 μ16 hp16 => ?_)
    obtain ⟨rfl, he16⟩ := hp16
    replace he16 := he16.symm
    subst he16
    refine y_ri ?_
    refine y_istore_n dX8_judge_19 rfl rfl (by decide) ?_
    refine y_iload_n dX8_judge_20 rfl rfl ?_
    refine y_bipush dX8_judge_21 ib_m5 ?_
    refine y_icmp_eq 37 dX8_judge_23 (by decide) (fun h23 => ?_) (fun h23 => ?_)
    · refine y_iload_n dX8_judge_37 rfl rfl ?_
      refine y_iret dX8_judge_38 ?_
      constructor <;> simp_all [-Int32.not_le, mJudge]
    · refine y_iload_n dX8_judge_26 rfl rfl ?_
      refine y_iconst dX8_judge_27 ic_1 ?_
      refine y_icmp_le 39 dX8_judge_28 (by decide) (fun h28 => ?_) (fun h28 => ?_)
      · refine y_iload_n dX8_judge_39 rfl rfl ?_
        refine y_case 0 (fun hs40 => ?_) (fun hn40_0 => ?_)
        · refine y_tableIn 76 dX8_judge_40 (by decide) (by decide) rfl (by decide) ?_
          refine y_aload_n dX8_judge_76 rfl rfl ?_
          refine y_geti dX8_judge_77 26 clX8 kd_58 (by decide) wm_fl_X8_198 rfl rfl ?_
          refine y_iret dX8_judge_80 ?_
          constructor <;> simp_all [-Int32.not_le, mJudge]
        refine y_case 1 (fun hs40 => ?_) (fun hn40_1 => ?_)
        · refine y_tableIn 81 dX8_judge_40 (by decide) (by decide) rfl (by decide) ?_
          refine y_aload_n dX8_judge_81 rfl rfl ?_
          refine y_geti dX8_judge_82 27 clX8 kd_58 (by decide) wm_fl_X8_201 rfl rfl ?_
          refine y_iret dX8_judge_85 ?_
          constructor <;> simp_all [-Int32.not_le, mJudge]
        refine y_case 2 (fun hs40 => ?_) (fun hn40_2 => ?_)
        · refine y_tableIn 86 dX8_judge_40 (by decide) (by decide) rfl (by decide) ?_
          refine y_aload_n dX8_judge_86 rfl rfl ?_
          refine y_geti dX8_judge_87 19 clX8 kd_58 (by decide) wm_fl_X8_168 rfl rfl ?_
          refine y_iret dX8_judge_90 ?_
          constructor <;> simp_all [-Int32.not_le, mJudge]
        refine y_case 3 (fun hs40 => ?_) (fun hn40_3 => ?_)
        · refine y_tableIn 91 dX8_judge_40 (by decide) (by decide) rfl (by decide) ?_
          refine y_aload_n dX8_judge_91 rfl rfl ?_
          refine y_geti dX8_judge_92 20 clX8 kd_58 (by decide) wm_fl_X8_171 rfl rfl ?_
          refine y_iret dX8_judge_95 ?_
          constructor <;> simp_all [-Int32.not_le, mJudge]
        refine y_case 4 (fun hs40 => ?_) (fun hn40_4 => ?_)
        · refine y_tableIn 96 dX8_judge_40 (by decide) (by decide) rfl (by decide) ?_
          refine y_aload_n dX8_judge_96 rfl rfl ?_
          refine y_geti dX8_judge_97 21 clX8 kd_58 (by decide) wm_fl_X8_174 rfl rfl ?_
          refine y_iret dX8_judge_100 ?_
          constructor <;> simp_all [-Int32.not_le, mJudge]
        refine y_tableOut 101 dX8_judge_40 (sw_out5 hn40_0 hn40_1 hn40_2 hn40_3 hn40_4) (by decide) ?_
        refine y_aload_n dX8_judge_101 rfl rfl ?_
        refine y_geti dX8_judge_102 22 clX8 kd_58 (by decide) wm_fl_X8_177 rfl rfl ?_
        refine y_iret dX8_judge_105 ?_
        constructor <;> simp_all [-Int32.not_le, mJudge]
      · refine y_iload_n dX8_judge_31 rfl rfl ?_
        refine y_bipush dX8_judge_32 ib_m3 ?_
        refine y_icmp_ne 39 dX8_judge_34 (by decide) (fun h34 => ?_) (fun h34 => ?_)
        · refine y_iload_n dX8_judge_39 rfl rfl ?_
          refine y_case 0 (fun hs40 => ?_) (fun hn40_0 => ?_)
          · refine y_tableIn 76 dX8_judge_40 (by decide) (by decide) rfl (by decide) ?_
            refine y_aload_n dX8_judge_76 rfl rfl ?_
            refine y_geti dX8_judge_77 26 clX8 kd_58 (by decide) wm_fl_X8_198 rfl rfl ?_
            refine y_iret dX8_judge_80 ?_
            constructor <;> simp_all [-Int32.not_le, mJudge]
          refine y_case 1 (fun hs40 => ?_) (fun hn40_1 => ?_)
          · refine y_tableIn 81 dX8_judge_40 (by decide) (by decide) rfl (by decide) ?_
            refine y_aload_n dX8_judge_81 rfl rfl ?_
            refine y_geti dX8_judge_82 27 clX8 kd_58 (by decide) wm_fl_X8_201 rfl rfl ?_
            refine y_iret dX8_judge_85 ?_
            constructor <;> simp_all [-Int32.not_le, mJudge]
          refine y_case 2 (fun hs40 => ?_) (fun hn40_2 => ?_)
          · refine y_tableIn 86 dX8_judge_40 (by decide) (by decide) rfl (by decide) ?_
            refine y_aload_n dX8_judge_86 rfl rfl ?_
            refine y_geti dX8_judge_87 19 clX8 kd_58 (by decide) wm_fl_X8_168 rfl rfl ?_
            refine y_iret dX8_judge_90 ?_
            constructor <;> simp_all [-Int32.not_le, mJudge]
          refine y_case 3 (fun hs40 => ?_) (fun hn40_3 => ?_)
          · refine y_tableIn 91 dX8_judge_40 (by decide) (by decide) rfl (by decide) ?_
            refine y_aload_n dX8_judge_91 rfl rfl ?_
            refine y_geti dX8_judge_92 20 clX8 kd_58 (by decide) wm_fl_X8_171 rfl rfl ?_
            refine y_iret dX8_judge_95 ?_
            constructor <;> simp_all [-Int32.not_le, mJudge]
          refine y_case 4 (fun hs40 => ?_) (fun hn40_4 => ?_)
          · refine y_tableIn 96 dX8_judge_40 (by decide) (by decide) rfl (by decide) ?_
            refine y_aload_n dX8_judge_96 rfl rfl ?_
            refine y_geti dX8_judge_97 21 clX8 kd_58 (by decide) wm_fl_X8_174 rfl rfl ?_
            refine y_iret dX8_judge_100 ?_
            constructor <;> simp_all [-Int32.not_le, mJudge]
          refine y_tableOut 101 dX8_judge_40 (sw_out5 hn40_0 hn40_1 hn40_2 hn40_3 hn40_4) (by decide) ?_
          refine y_aload_n dX8_judge_101 rfl rfl ?_
          refine y_geti dX8_judge_102 22 clX8 kd_58 (by decide) wm_fl_X8_177 rfl rfl ?_
          refine y_iret dX8_judge_105 ?_
          constructor <;> simp_all [-Int32.not_le, mJudge]
        · refine y_iload_n dX8_judge_37 rfl rfl ?_
          refine y_iret dX8_judge_38 ?_
          constructor <;> simp_all [-Int32.not_le, mJudge]
  · refine y_bipush dX8_judge_12 ib_m2 ?_
    refine y_iret dX8_judge_14 ?_
    constructor <;> simp_all [-Int32.not_le, mJudge]

set_option maxRecDepth 100000 in
set_option maxHeartbeats 4000000 in
theorem kX8_behind {l : Launch} {G : GT} {μ : MemT} {c : Nat} (hc60 : c ≤ 60) (hc : μ 58 13 = nI c) {x w : Int32} : sw_Met l G yX8_behind cX8_behind 4 (some .int) (rmk 6 131) [.ref (G.2.1 58), .int x, .int w] μ (fun v μ2 => v = some (.int (mBehind c x w μ).1) ∧ μ2 = (mBehind c x w μ).2) := by
  refine sw_Met.ofY (by decide) (Nat.le_of_ble_eq_true rfl) rfl ?_
  refine y_aload_n dX8_behind_0 rfl rfl ?_
  refine y_iload_n dX8_behind_1 rfl rfl ?_
  refine y_cV1 dX8_behind_2 meX8_isPerson clX8 kd_58 wm_ml_X8_84 (kX8_isPerson) ⟨Nat.le_of_ble_eq_true rfl, Nat.le_of_ble_eq_true rfl⟩ ⟨rfl, rfl⟩ (Nat.le_of_ble_eq_true rfl) (fun v2 μ2 hp2 => ?_)
  obtain ⟨rfl, he2⟩ := hp2
  replace he2 := he2.symm
  subst he2
  refine y_ri ?_
  refine y_ifb_ne 10 dX8_behind_5 (by decide) (fun h5 => ?_) (fun h5 => ?_)
  · obtain ⟨p, hp8, rfl, hpb⟩ := isP_ex h5
    refine y_iload_n dX8_behind_10 rfl rfl ?_
    refine y_i2l dX8_behind_11 ?_
    refine y_lconst dX8_behind_12 lc_0 ?_
    refine y_ldc2 dX8_behind_13 wm_cl_X8_230 ?_
    refine y_cS3 dX8_behind_16 meX8_in wm_ml_X8_77 (kX8_in (A := 0) (B := 2) rfl rfl) ⟨Nat.le_of_ble_eq_true rfl, Nat.le_of_ble_eq_true rfl⟩ ⟨rfl, rfl⟩ (Nat.le_of_ble_eq_true rfl) (fun v16 μ16 hp16 => ?_)
    obtain ⟨rfl, he16⟩ := hp16
    replace he16 := he16.symm
    subst he16
    refine y_ri ?_
    refine y_ifb_ne 25 dX8_behind_19 (by decide) (fun h19 => ?_) (fun h19 => ?_)
    · refine y_aload_n dX8_behind_25 rfl rfl ?_
      refine y_cV0 dX8_behind_26 meX8_refusal clX8 kd_58 wm_ml_X8_227 (kX8_refusal hc60 hc) ⟨Nat.le_of_ble_eq_true rfl, Nat.le_of_ble_eq_true rfl⟩ ⟨rfl, rfl⟩ (Nat.le_of_ble_eq_true rfl) (fun v26 μ26 hp26 => ?_)
      obtain ⟨rfl, he26⟩ := hp26
      replace he26 := he26.symm
      subst he26
      refine y_ri ?_
      refine y_istore_n dX8_behind_29 rfl rfl (by decide) ?_
      refine y_iload_n dX8_behind_30 rfl rfl ?_
      refine y_bipush dX8_behind_31 ib_m6 ?_
      refine y_icmp_eq 38 dX8_behind_33 (by decide) (fun h33 => ?_) (fun h33 => ?_)
      · refine y_iload_n dX8_behind_38 rfl rfl ?_
        refine y_if_ne 51 dX8_behind_39 (by decide) (fun h39 => ?_) (fun h39 => ?_)
        · refine y_iload_n dX8_behind_51 rfl rfl ?_
          refine y_iconst dX8_behind_52 ic_1 ?_
          refine y_icmp_ne 65 dX8_behind_53 (by decide) (fun h53 => ?_) (fun h53 => ?_)
          · refine y_aload_n dX8_behind_65 rfl rfl ?_
            refine y_geti dX8_behind_66 30 clX8 kd_58 (by decide) wm_fl_X8_219 rfl rfl ?_
            refine y_iret dX8_behind_69 ?_
            constructor <;> simp_all [mBehind, cl_8, isP_n]
          · refine y_aload_n dX8_behind_56 rfl rfl ?_
            refine y_getr dX8_behind_57 29 clX8 kd_58 (by decide) wm_fl_X8_52 rfl rfl ?_
            refine y_iload_n dX8_behind_60 rfl rfl ?_
            refine y_iald dX8_behind_61 p kd_73 rfl (by first | assumption | decide | omega) (by decide) ?_
            refine y_goto 69 dX8_behind_62 (by decide) ?_
            refine y_iret dX8_behind_69 ?_
            constructor <;> simp_all [mBehind, cl_8, isP_n]
        · refine y_aload_n dX8_behind_42 rfl rfl ?_
          refine y_getr dX8_behind_43 28 clX8 kd_58 (by decide) wm_fl_X8_49 rfl rfl ?_
          refine y_iload_n dX8_behind_46 rfl rfl ?_
          refine y_iald dX8_behind_47 p kd_72 rfl (by first | assumption | decide | omega) (by decide) ?_
          refine y_goto 69 dX8_behind_48 (by decide) ?_
          refine y_iret dX8_behind_69 ?_
          constructor <;> simp_all [mBehind, cl_8, isP_n]
      · refine y_iload_n dX8_behind_36 rfl rfl ?_
        refine y_iret dX8_behind_37 ?_
        constructor <;> simp_all [mBehind, cl_8, isP_n]
    · refine y_bipush dX8_behind_22 ib_m2 ?_
      refine y_iret dX8_behind_24 ?_
      constructor <;> simp_all [mBehind, cl_8, isP_n]
  · refine y_iconst dX8_behind_8 ic_m1 ?_
    refine y_iret dX8_behind_9 ?_
    constructor <;> simp_all [mBehind, cl_8, isP_n]

theorem dn_18 (c : Nat) (μ : MemT) (h : (mRef c μ).1 = -6) : (mRef c μ).2 58 18 = nI (psAll c μ).2.1 := by
  unfold mRef at h ⊢
  split at h
  · rename_i h1
    rw [if_pos h1]
    exact rfM_18 c μ
  · exact absurd h (by show ¬ (-5 : Int32) = -6; decide)
theorem dn_g (c : Nat) (μ : MemT) (h : (mRef c μ).1 = -6) : gmM (psAll c μ).2.1 (mRef c μ).2 58 18 = nI (psAll c μ).2.1 := by
  rw [gm_f _ _ (Or.inl rfl), dn_18 c μ h]

set_option maxRecDepth 100000 in
set_option maxHeartbeats 4000000 in
theorem kX8_done {l : Launch} {G : GT} {μ : MemT} {c : Nat} (hc60 : c ≤ 60) (hc : μ 58 13 = nI c)  : sw_Met l G yX8_done cX8_done 2 (some .int) (rmk 6 131) [.ref (G.2.1 58)] μ (fun v μ2 => v = some (.int (mDone c μ).1) ∧ μ2 = (mDone c μ).2) := by
  refine sw_Met.ofY (by decide) (Nat.le_of_ble_eq_true rfl) rfl ?_
  refine y_aload_n dX8_done_0 rfl rfl ?_
  refine y_cV0 dX8_done_1 meX8_refusal clX8 kd_58 wm_ml_X8_227 (kX8_refusal hc60 hc) ⟨Nat.le_of_ble_eq_true rfl, Nat.le_of_ble_eq_true rfl⟩ ⟨rfl, rfl⟩ (Nat.le_of_ble_eq_true rfl) (fun v1 μ1 hp1 => ?_)
  obtain ⟨rfl, he1⟩ := hp1
  replace he1 := he1.symm
  subst he1
  refine y_ri ?_
  refine y_istore_n dX8_done_4 rfl rfl (by decide) ?_
  refine y_iload_n dX8_done_5 rfl rfl ?_
  refine y_bipush dX8_done_6 ib_m6 ?_
  refine y_icmp_eq 13 dX8_done_8 (by decide) (fun h8 => ?_) (fun h8 => ?_)
  · refine y_aload_n dX8_done_13 rfl rfl ?_
    refine y_cV0 dX8_done_14 meX8_goMarket clX8 kd_58 wm_ml_X8_216 (kX8_goMarket (a := (psAll c μ).2.1) (Nat.le_trans (psAll_le c μ) hc60) (dn_18 c μ h8)) ⟨Nat.le_of_ble_eq_true rfl, Nat.le_of_ble_eq_true rfl⟩ ⟨rfl, rfl⟩ (Nat.le_of_ble_eq_true rfl) (fun v14 μ14 hp14 => ?_)
    obtain ⟨rfl, he14⟩ := hp14
    replace he14 := he14.symm
    subst he14
    refine y_rv ?_
    refine y_aload_n dX8_done_17 rfl rfl ?_
    refine y_iconst dX8_done_18 ic_0 ?_
    refine y_puti dX8_done_19 13 clX8 kd_58 (by decide) wm_fl_X8_121 rfl rfl rfl rfl (tyX8_ok 13 (by decide)) rfl rfl ?_
    refine y_aload_n dX8_done_22 rfl rfl ?_
    refine y_geti dX8_done_23 18 clX8 kd_58 (by decide) wm_fl_X8_124 rfl rfl ?_
    refine y_iret dX8_done_26 ?_
    constructor <;> simp_all [mDone, mDoneM, mset, upd, dn_g]
  · refine y_iload_n dX8_done_11 rfl rfl ?_
    refine y_iret dX8_done_12 ?_
    constructor <;> simp_all [mDone, mDoneM, mset, upd, dn_g]

set_option maxRecDepth 100000 in
set_option maxHeartbeats 4000000 in
theorem kX8_weighs {l : Launch} {G : GT} {μ : MemT} {x : Int32} : sw_Met l G yX8_weighs cX8_weighs 2 (some .int) (rmk 2 46) [.ref (G.2.1 58), .int x] μ (fun v μ2 => v = some (.int (mWeighs x μ)) ∧ μ2 = μ) := by
  refine sw_Met.ofY (by decide) (Nat.le_of_ble_eq_true rfl) rfl ?_
  refine y_aload_n dX8_weighs_0 rfl rfl ?_
  refine y_iload_n dX8_weighs_1 rfl rfl ?_
  refine y_cV1 dX8_weighs_2 meX8_isPerson clX8 kd_58 wm_ml_X8_84 (kX8_isPerson) ⟨Nat.le_of_ble_eq_true rfl, Nat.le_of_ble_eq_true rfl⟩ ⟨rfl, rfl⟩ (Nat.le_of_ble_eq_true rfl) (fun v2 μ2 hp2 => ?_)
  obtain ⟨rfl, he2⟩ := hp2
  replace he2 := he2.symm
  subst he2
  refine y_ri ?_
  refine y_ifb_eq 16 dX8_weighs_5 (by decide) (fun h5 => ?_) (fun h5 => ?_)
  · refine y_iconst dX8_weighs_16 ic_m1 ?_
    refine y_iret dX8_weighs_17 ?_
    exact ⟨by simp_all [mWeighs, cl_8, isP_n], rfl⟩
  · obtain ⟨p, hp8, rfl, hpb⟩ := isP_ex h5
    refine y_aload_n dX8_weighs_8 rfl rfl ?_
    refine y_iload_n dX8_weighs_9 rfl rfl ?_
    refine y_cV1 dX8_weighs_10 meX8_pounds clX8 kd_58 wm_ml_X8_150 (kX8_pounds (by first | assumption | omega)) ⟨Nat.le_of_ble_eq_true rfl, Nat.le_of_ble_eq_true rfl⟩ ⟨rfl, rfl⟩ (Nat.le_of_ble_eq_true rfl) (fun v10 μ10 hp10 => ?_)
    obtain ⟨rfl, he10⟩ := hp10
    replace he10 := he10.symm
    subst he10
    refine y_ri ?_
    refine y_goto 17 dX8_weighs_13 (by decide) ?_
    refine y_iret dX8_weighs_17 ?_
    exact ⟨by simp_all [mWeighs, cl_8, isP_n], rfl⟩

set_option maxRecDepth 100000 in
set_option maxHeartbeats 4000000 in
theorem kX8_off {l : Launch} {G : GT} {μ : MemT} {x : Int32} : sw_Met l G yX8_off cX8_off 2 (some .int) (rmk 2 46) [.ref (G.2.1 58), .int x] μ (fun v μ2 => v = some (.int (mOff x μ)) ∧ μ2 = μ) := by
  refine sw_Met.ofY (by decide) (Nat.le_of_ble_eq_true rfl) rfl ?_
  refine y_aload_n dX8_off_0 rfl rfl ?_
  refine y_iload_n dX8_off_1 rfl rfl ?_
  refine y_cV1 dX8_off_2 meX8_isPerson clX8 kd_58 wm_ml_X8_84 (kX8_isPerson) ⟨Nat.le_of_ble_eq_true rfl, Nat.le_of_ble_eq_true rfl⟩ ⟨rfl, rfl⟩ (Nat.le_of_ble_eq_true rfl) (fun v2 μ2 hp2 => ?_)
  obtain ⟨rfl, he2⟩ := hp2
  replace he2 := he2.symm
  subst he2
  refine y_ri ?_
  refine y_ifb_eq 27 dX8_off_5 (by decide) (fun h5 => ?_) (fun h5 => ?_)
  · refine y_iconst dX8_off_27 ic_m1 ?_
    refine y_iret dX8_off_28 ?_
    exact ⟨by simp_all [mOff, cl_8, isP_n], rfl⟩
  · obtain ⟨p, hp8, rfl, hpb⟩ := isP_ex h5
    refine y_aload_n dX8_off_8 rfl rfl ?_
    refine y_iload_n dX8_off_9 rfl rfl ?_
    refine y_cV1 dX8_off_10 meX8_pounds clX8 kd_58 wm_ml_X8_150 (kX8_pounds (by first | assumption | omega)) ⟨Nat.le_of_ble_eq_true rfl, Nat.le_of_ble_eq_true rfl⟩ ⟨rfl, rfl⟩ (Nat.le_of_ble_eq_true rfl) (fun v10 μ10 hp10 => ?_)
    obtain ⟨rfl, he10⟩ := hp10
    replace he10 := he10.symm
    subst he10
    refine y_ri ?_
    refine y_aload_n dX8_off_13 rfl rfl ?_
    refine y_getr dX8_off_14 4 clX8 kd_58 (by decide) wm_fl_X8_7 rfl rfl ?_
    refine y_iload_n dX8_off_17 rfl rfl ?_
    refine y_iald dX8_off_18 p kd_59 rfl (by first | assumption | decide | omega) (by decide) ?_
    refine y_isub dX8_off_19 ?_
    refine y_sipush dX8_off_20 is_1000 ?_
    refine y_iadd dX8_off_23 ?_
    refine y_goto 28 dX8_off_24 (by decide) ?_
    refine y_iret dX8_off_28 ?_
    exact ⟨by simp_all [mOff, cl_8, isP_n], rfl⟩

set_option maxRecDepth 100000 in
set_option maxHeartbeats 4000000 in
theorem kX8_out {l : Launch} {G : GT} {μ : MemT} {x : Int32} : sw_Met l G yX8_out cX8_out 4 (some .int) (rmk 2 46) [.ref (G.2.1 58), .int x] μ (fun v μ2 => v = some (.int (mOut x μ).1) ∧ μ2 = (mOut x μ).2) := by
  refine sw_Met.ofY (by decide) (Nat.le_of_ble_eq_true rfl) rfl ?_
  refine y_aload_n dX8_out_0 rfl rfl ?_
  refine y_iload_n dX8_out_1 rfl rfl ?_
  refine y_cV1 dX8_out_2 meX8_isPerson clX8 kd_58 wm_ml_X8_84 (kX8_isPerson) ⟨Nat.le_of_ble_eq_true rfl, Nat.le_of_ble_eq_true rfl⟩ ⟨rfl, rfl⟩ (Nat.le_of_ble_eq_true rfl) (fun v2 μ2 hp2 => ?_)
  obtain ⟨rfl, he2⟩ := hp2
  replace he2 := he2.symm
  subst he2
  refine y_ri ?_
  refine y_ifb_ne 10 dX8_out_5 (by decide) (fun h5 => ?_) (fun h5 => ?_)
  · obtain ⟨p, hp8, rfl, hpb⟩ := isP_ex h5
    refine y_aload_n dX8_out_10 rfl rfl ?_
    refine y_cV0 dX8_out_11 meX8_keepNow clX8 kd_58 wm_ml_X8_213 (kX8_keepNow) ⟨Nat.le_of_ble_eq_true rfl, Nat.le_of_ble_eq_true rfl⟩ ⟨rfl, rfl⟩ (Nat.le_of_ble_eq_true rfl) (fun v11 μ11 hp11 => ?_)
    obtain ⟨rfl, he11⟩ := hp11
    replace he11 := he11.symm
    subst he11
    refine y_rv ?_
    refine y_bipush dX8_out_14 ib_m6 ?_
    refine y_istore_n dX8_out_16 rfl rfl (by decide) ?_
    refine y_iconst (v := nI 0) dX8_out_17 icn_0 ?_
    refine y_istore_n dX8_out_18 rfl rfl (by decide) ?_
    refine y_loop2 (fun (j : Nat) (f : Int32) (m : MemT) => [some (.ref (G.2.1 58)), some (.int (nI p)), some (.int f), some (.int (nI j))]) (fun (j : Nat) (f : Int32) (m : MemT) => m) (fun (j : Nat) (f : Int32) (m : MemT) => moR p (100 - j) j f m = moR p 100 0 (-6) (mKeep μ)) 100 (fun f m hv19 => ?_) (fun j f m hj hv19 ih19 => ?_) 0 (-6) (mKeep μ) (Nat.zero_le _) (rfl)
    · refine y_iload_n dX8_out_19 rfl rfl ?_
      refine y_bipush dX8_out_20 ib_99 ?_
      refine y_icmp_gt 68 dX8_out_22 (by decide) (fun _ => ?_) (fun hq => absurd (by decide) hq)
      refine y_aload_n dX8_out_68 rfl rfl ?_
      refine y_cV0 dX8_out_69 meX8_putBack clX8 kd_58 wm_ml_X8_222 (kX8_putBack) ⟨Nat.le_of_ble_eq_true rfl, Nat.le_of_ble_eq_true rfl⟩ ⟨rfl, rfl⟩ (Nat.le_of_ble_eq_true rfl) (fun v69 μ69 hp69 => ?_)
      obtain ⟨rfl, he69⟩ := hp69
      replace he69 := he69.symm
      subst he69
      refine y_rv ?_
      refine y_iload_n dX8_out_72 rfl rfl ?_
      refine y_iret dX8_out_73 ?_
      first
        | (have hv := hv19; rw [moR_stop _ _ _ _ h26] at hv; have e := hv.symm; clear hv hv19; constructor <;> simp_all [mOut, cl_8, isP_n]; done)
        | (have hv := hv19; rw [Nat.sub_self, moR] at hv; have e := hv.symm; clear hv hv19; constructor <;> simp_all [mOut, cl_8, isP_n]; done)
    · refine y_iload_n dX8_out_19 rfl rfl ?_
      refine y_bipush dX8_out_20 ib_99 ?_
      refine y_icmp_gt 68 dX8_out_22 (by decide) (fun hq => absurd hq (nI_nlt (a := 99) (b := j) (by omega) (by decide))) (fun _ => ?_)
      refine y_iload_n dX8_out_25 rfl rfl ?_
      refine y_if_ge 68 dX8_out_26 (by decide) (fun h26 => ?_) (fun h26 => ?_)
      · refine y_aload_n dX8_out_68 rfl rfl ?_
        refine y_cV0 dX8_out_69 meX8_putBack clX8 kd_58 wm_ml_X8_222 (kX8_putBack) ⟨Nat.le_of_ble_eq_true rfl, Nat.le_of_ble_eq_true rfl⟩ ⟨rfl, rfl⟩ (Nat.le_of_ble_eq_true rfl) (fun v69 μ69 hp69 => ?_)
        obtain ⟨rfl, he69⟩ := hp69
        replace he69 := he69.symm
        subst he69
        refine y_rv ?_
        refine y_iload_n dX8_out_72 rfl rfl ?_
        refine y_iret dX8_out_73 ?_
        first
          | (have hv := hv19; rw [moR_stop _ _ _ _ h26] at hv; have e := hv.symm; clear hv hv19; constructor <;> simp_all [mOut, cl_8, isP_n]; done)
          | (have hv := hv19; rw [Nat.sub_self, moR] at hv; have e := hv.symm; clear hv hv19; constructor <;> simp_all [mOut, cl_8, isP_n]; done)
      · refine y_aload_n dX8_out_29 rfl rfl ?_
        refine y_iload_n dX8_out_30 rfl rfl ?_
        refine y_cV1 dX8_out_31 meX8_pounds clX8 kd_58 wm_ml_X8_150 (kX8_pounds (by first | assumption | omega)) ⟨Nat.le_of_ble_eq_true rfl, Nat.le_of_ble_eq_true rfl⟩ ⟨rfl, rfl⟩ (Nat.le_of_ble_eq_true rfl) (fun v31 μ31 hp31 => ?_)
        obtain ⟨rfl, he31⟩ := hp31
        replace he31 := he31.symm
        subst he31
        refine y_ri ?_
        refine y_aload_n dX8_out_34 rfl rfl ?_
        refine y_getr dX8_out_35 4 clX8 kd_58 (by decide) wm_fl_X8_7 rfl rfl ?_
        refine y_iload_n dX8_out_38 rfl rfl ?_
        refine y_iald dX8_out_39 p kd_59 rfl (by first | assumption | decide | omega) (by decide) ?_
        refine y_isub dX8_out_40 ?_
        refine y_cS1 dX8_out_41 meX8_size wm_ml_X8_180 (kX8_size) ⟨Nat.le_of_ble_eq_true rfl, Nat.le_of_ble_eq_true rfl⟩ ⟨rfl, rfl⟩ (Nat.le_of_ble_eq_true rfl) (fun v41 μ41 hp41 => ?_)
        obtain ⟨rfl, he41⟩ := hp41
        replace he41 := he41.symm
        subst he41
        refine y_ri ?_
        refine y_aload_n dX8_out_44 rfl rfl ?_
        refine y_geti dX8_out_45 2 clX8 kd_58 (by decide) wm_fl_X8_71 rfl rfl ?_
        refine y_icmp_le 55 dX8_out_48 (by decide) (fun h48 => ?_) (fun h48 => ?_)
        · refine y_bipush dX8_out_55 ib_m6 ?_
          refine y_istore_n dX8_out_57 rfl rfl (by decide) ?_
          refine y_aload_n dX8_out_58 rfl rfl ?_
          refine y_cV0 dX8_out_59 meX8_passDay clX8 kd_58 wm_ml_X8_186 (kX8_passDay) ⟨Nat.le_of_ble_eq_true rfl, Nat.le_of_ble_eq_true rfl⟩ ⟨rfl, rfl⟩ (Nat.le_of_ble_eq_true rfl) (fun v59 μ59 hp59 => ?_)
          obtain ⟨rfl, he59⟩ := hp59
          replace he59 := he59.symm
          subst he59
          refine y_rv ?_
          refine y_iinc (v := nI (j + 1)) dX8_out_62 rfl (nI_i1 _) rfl (by decide) ?_
          refine y_goto 19 dX8_out_65 (by decide) ?_
          exact ih19 _ _ (by rw [← hv19, sub_s hj, moR, if_neg h26]; congr 1; clear ih19 hv19; simp_all [-Int32.not_lt, -Int32.not_le])
        · refine y_iload_n dX8_out_51 rfl rfl ?_
          refine y_goto 57 dX8_out_52 (by decide) ?_
          refine y_istore_n dX8_out_57 rfl rfl (by decide) ?_
          refine y_aload_n dX8_out_58 rfl rfl ?_
          refine y_cV0 dX8_out_59 meX8_passDay clX8 kd_58 wm_ml_X8_186 (kX8_passDay) ⟨Nat.le_of_ble_eq_true rfl, Nat.le_of_ble_eq_true rfl⟩ ⟨rfl, rfl⟩ (Nat.le_of_ble_eq_true rfl) (fun v59 μ59 hp59 => ?_)
          obtain ⟨rfl, he59⟩ := hp59
          replace he59 := he59.symm
          subst he59
          refine y_rv ?_
          refine y_iinc (v := nI (j + 1)) dX8_out_62 rfl (nI_i1 _) rfl (by decide) ?_
          refine y_goto 19 dX8_out_65 (by decide) ?_
          exact ih19 _ _ (by rw [← hv19, sub_s hj, moR, if_neg h26]; congr 1; clear ih19 hv19; simp_all [-Int32.not_lt, -Int32.not_le])
  · refine y_iconst dX8_out_8 ic_m1 ?_
    refine y_iret dX8_out_9 ?_
    constructor <;> simp_all [mOut]

set_option maxRecDepth 100000 in
set_option maxHeartbeats 4000000 in
theorem kX8_even {l : Launch} {G : GT} {μ : MemT} {x y : Int32} : sw_Met l G yX8_even cX8_even 5 (some .int) (rmk 3 68) [.ref (G.2.1 58), .int x, .int y] μ (fun v μ2 => v = some (.int (mEven x y μ).1) ∧ μ2 = (mEven x y μ).2) := by
  refine sw_Met.ofY (by decide) (Nat.le_of_ble_eq_true rfl) rfl ?_
  refine y_aload_n dX8_even_0 rfl rfl ?_
  refine y_iload_n dX8_even_1 rfl rfl ?_
  refine y_iload_n dX8_even_2 rfl rfl ?_
  refine y_cV2 dX8_even_3 meX8_areTwo clX8 kd_58 wm_ml_X8_107 (kX8_areTwo) ⟨Nat.le_of_ble_eq_true rfl, Nat.le_of_ble_eq_true rfl⟩ ⟨rfl, rfl⟩ (Nat.le_of_ble_eq_true rfl) (fun v3 μ3 hp3 => ?_)
  obtain ⟨rfl, he3⟩ := hp3
  replace he3 := he3.symm
  subst he3
  refine y_ri ?_
  refine y_ifb_ne 11 dX8_even_6 (by decide) (fun h6 => ?_) (fun h6 => ?_)
  · simp only [Bool.and_eq_true, Bool.not_eq_true', decide_eq_false_iff_not] at h6
    obtain ⟨⟨hx1, hx2⟩, hx3⟩ := h6
    obtain ⟨p, hp8, rfl, hpb⟩ := isP_ex hx1
    obtain ⟨q, hq8, rfl, hqb⟩ := isP_ex hx2
    refine y_aload_n dX8_even_11 rfl rfl ?_
    refine y_cV0 dX8_even_12 meX8_keepNow clX8 kd_58 wm_ml_X8_213 (kX8_keepNow) ⟨Nat.le_of_ble_eq_true rfl, Nat.le_of_ble_eq_true rfl⟩ ⟨rfl, rfl⟩ (Nat.le_of_ble_eq_true rfl) (fun v12 μ12 hp12 => ?_)
    obtain ⟨rfl, he12⟩ := hp12
    replace he12 := he12.symm
    subst he12
    refine y_rv ?_
    refine y_bipush dX8_even_15 ib_m6 ?_
    refine y_istore_n dX8_even_17 rfl rfl (by decide) ?_
    refine y_iconst (v := nI 0) dX8_even_18 icn_0 ?_
    refine y_istore dX8_even_19 rfl (by decide) ?_
    refine y_loop2 (fun (j : Nat) (f : Int32) (m : MemT) => [some (.ref (G.2.1 58)), some (.int (nI p)), some (.int (nI q)), some (.int f), some (.int (nI j))]) (fun (j : Nat) (f : Int32) (m : MemT) => m) (fun (j : Nat) (f : Int32) (m : MemT) => meR p q (100 - j) j f m = meR p q 100 0 (-6) (mKeep μ)) 100 (fun f m hv21 => ?_) (fun j f m hj hv21 ih21 => ?_) 0 (-6) (mKeep μ) (Nat.zero_le _) (rfl)
    · refine y_iload dX8_even_21 rfl ?_
      refine y_bipush dX8_even_23 ib_99 ?_
      refine y_icmp_gt 63 dX8_even_25 (by decide) (fun _ => ?_) (fun hq => absurd (by decide) hq)
      refine y_aload_n dX8_even_63 rfl rfl ?_
      refine y_cV0 dX8_even_64 meX8_putBack clX8 kd_58 wm_ml_X8_222 (kX8_putBack) ⟨Nat.le_of_ble_eq_true rfl, Nat.le_of_ble_eq_true rfl⟩ ⟨rfl, rfl⟩ (Nat.le_of_ble_eq_true rfl) (fun v64 μ64 hp64 => ?_)
      obtain ⟨rfl, he64⟩ := hp64
      replace he64 := he64.symm
      subst he64
      refine y_rv ?_
      refine y_iload_n dX8_even_67 rfl rfl ?_
      refine y_iret dX8_even_68 ?_
      first
        | (have hv := hv21; rw [meR_stop _ _ _ _ _ h29] at hv; have e := hv.symm; clear hv hv21; constructor <;> simp_all [mEven, cl_8, isP_n]; done)
        | (have hv := hv21; rw [Nat.sub_self, meR] at hv; have e := hv.symm; clear hv hv21; constructor <;> simp_all [mEven, cl_8, isP_n]; done)
    · refine y_iload dX8_even_21 rfl ?_
      refine y_bipush dX8_even_23 ib_99 ?_
      refine y_icmp_gt 63 dX8_even_25 (by decide) (fun hq => absurd hq (nI_nlt (a := 99) (b := j) (by omega) (by decide))) (fun _ => ?_)
      refine y_iload_n dX8_even_28 rfl rfl ?_
      refine y_if_ge 63 dX8_even_29 (by decide) (fun h29 => ?_) (fun h29 => ?_)
      · refine y_aload_n dX8_even_63 rfl rfl ?_
        refine y_cV0 dX8_even_64 meX8_putBack clX8 kd_58 wm_ml_X8_222 (kX8_putBack) ⟨Nat.le_of_ble_eq_true rfl, Nat.le_of_ble_eq_true rfl⟩ ⟨rfl, rfl⟩ (Nat.le_of_ble_eq_true rfl) (fun v64 μ64 hp64 => ?_)
        obtain ⟨rfl, he64⟩ := hp64
        replace he64 := he64.symm
        subst he64
        refine y_rv ?_
        refine y_iload_n dX8_even_67 rfl rfl ?_
        refine y_iret dX8_even_68 ?_
        first
          | (have hv := hv21; rw [meR_stop _ _ _ _ _ h29] at hv; have e := hv.symm; clear hv hv21; constructor <;> simp_all [mEven, cl_8, isP_n]; done)
          | (have hv := hv21; rw [Nat.sub_self, meR] at hv; have e := hv.symm; clear hv hv21; constructor <;> simp_all [mEven, cl_8, isP_n]; done)
      · refine y_aload_n dX8_even_32 rfl rfl ?_
        refine y_iload_n dX8_even_33 rfl rfl ?_
        refine y_cV1 dX8_even_34 meX8_pounds clX8 kd_58 wm_ml_X8_150 (kX8_pounds (by first | assumption | omega)) ⟨Nat.le_of_ble_eq_true rfl, Nat.le_of_ble_eq_true rfl⟩ ⟨rfl, rfl⟩ (Nat.le_of_ble_eq_true rfl) (fun v34 μ34 hp34 => ?_)
        obtain ⟨rfl, he34⟩ := hp34
        replace he34 := he34.symm
        subst he34
        refine y_ri ?_
        refine y_aload_n dX8_even_37 rfl rfl ?_
        refine y_iload_n dX8_even_38 rfl rfl ?_
        refine y_cV1 dX8_even_39 meX8_pounds clX8 kd_58 wm_ml_X8_150 (kX8_pounds (by first | assumption | omega)) ⟨Nat.le_of_ble_eq_true rfl, Nat.le_of_ble_eq_true rfl⟩ ⟨rfl, rfl⟩ (Nat.le_of_ble_eq_true rfl) (fun v39 μ39 hp39 => ?_)
        obtain ⟨rfl, he39⟩ := hp39
        replace he39 := he39.symm
        subst he39
        refine y_ri ?_
        refine y_icmp_ne 50 dX8_even_42 (by decide) (fun h42 => ?_) (fun h42 => ?_)
        · refine y_bipush dX8_even_50 ib_m6 ?_
          refine y_istore_n dX8_even_52 rfl rfl (by decide) ?_
          refine y_aload_n dX8_even_53 rfl rfl ?_
          refine y_cV0 dX8_even_54 meX8_passDay clX8 kd_58 wm_ml_X8_186 (kX8_passDay) ⟨Nat.le_of_ble_eq_true rfl, Nat.le_of_ble_eq_true rfl⟩ ⟨rfl, rfl⟩ (Nat.le_of_ble_eq_true rfl) (fun v54 μ54 hp54 => ?_)
          obtain ⟨rfl, he54⟩ := hp54
          replace he54 := he54.symm
          subst he54
          refine y_rv ?_
          refine y_iinc (v := nI (j + 1)) dX8_even_57 rfl (nI_i1 _) rfl (by decide) ?_
          refine y_goto 21 dX8_even_60 (by decide) ?_
          exact ih21 _ _ (by rw [← hv21, sub_s hj, meR, if_neg h29]; congr 1; clear ih21 hv21; simp_all [-Int32.not_lt, -Int32.not_le])
        · refine y_iload dX8_even_45 rfl ?_
          refine y_goto 52 dX8_even_47 (by decide) ?_
          refine y_istore_n dX8_even_52 rfl rfl (by decide) ?_
          refine y_aload_n dX8_even_53 rfl rfl ?_
          refine y_cV0 dX8_even_54 meX8_passDay clX8 kd_58 wm_ml_X8_186 (kX8_passDay) ⟨Nat.le_of_ble_eq_true rfl, Nat.le_of_ble_eq_true rfl⟩ ⟨rfl, rfl⟩ (Nat.le_of_ble_eq_true rfl) (fun v54 μ54 hp54 => ?_)
          obtain ⟨rfl, he54⟩ := hp54
          replace he54 := he54.symm
          subst he54
          refine y_rv ?_
          refine y_iinc (v := nI (j + 1)) dX8_even_57 rfl (nI_i1 _) rfl (by decide) ?_
          refine y_goto 21 dX8_even_60 (by decide) ?_
          exact ih21 _ _ (by rw [← hv21, sub_s hj, meR, if_neg h29]; congr 1; clear ih21 hv21; simp_all [-Int32.not_lt, -Int32.not_le])
  · refine y_iconst dX8_even_9 ic_m1 ?_
    refine y_iret dX8_even_10 ?_
    exact ⟨by rw [mEven, if_pos h6], by rw [mEven, if_pos h6]⟩
