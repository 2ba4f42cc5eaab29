def psRun (s : Nat → Int32) (cnt : Int32) : Nat → Nat → Int32 → PsT → Int32 × PsT
  | 0, _, d, w => (if d = 0 then -6 else cnt, w)
  | n + 1, j, d, w => if (psStep d (s j) w).1 < 0 then (nI j, (psStep d (s j) w).2) else psRun s cnt n (j + 1) (psStep d (s j) w).1 (psStep d (s j) w).2
theorem psNear_le (x : Int32) (w : PsT) : (psNear x w).2.1 = w.1 := by
  unfold psNear
  split
  · rfl
  · split <;> rfl
theorem psStep_le (d x : Int32) (w : PsT) : (psStep d x w).2.1 ≤ w.1 + 1 := by
  unfold psStep
  split
  · unfold psBegin
    split
    · rw [psNear_le]; exact Nat.le_succ _
    · split
      · exact Nat.le_succ _
      · exact Nat.le_refl _
  · split
    · rw [psNear_le]; exact Nat.le_succ _
    · split
      · unfold psCold
        split
        · exact Nat.le_refl _
        · exact Nat.le_succ _
      · unfold psAcross
        split
        · exact Nat.le_refl _
        · split <;> exact Nat.le_succ _
theorem psRun_le (s : Nat → Int32) (cnt : Int32) : ∀ (n j : Nat) (d : Int32) (w : PsT), (psRun s cnt n j d w).2.1 ≤ w.1 + n
  | 0, j, d, w => Nat.le_refl _
  | n + 1, j, d, w => by
    rw [psRun]
    have h := psStep_le d (s j) w
    split
    · exact Nat.le_trans h (by omega)
    · exact Nat.le_trans (psRun_le s cnt n (j + 1) _ _) (by omega)
def ps0 (μ : MemT) : PsT := (0, μ 67, μ 68, μ 69, μ 70)
def psAll (c : Nat) (μ : MemT) : Int32 × PsT := psRun (μ 66) (nI c) c 0 0 (ps0 μ)
theorem psAll_le (c : Nat) (μ : MemT) : (psAll c μ).2.1 ≤ c := by
  have := psRun_le (μ 66) (nI c) c 0 0 (ps0 μ)
  simpa [ps0, psAll] using this

theorem mset_id {μ : MemT} {k : Nat} {r : Nat → Int32} (h : r = μ k) : mset μ k r = μ := by rw [h, mset_same]
theorem ps0_put (μ : MemT) : putPs (ps0 μ) μ = mset μ 58 (upd (μ 58) 18 0) := by
  unfold putPs ps0
  rw [mset_id (μ := mset (mset (mset (mset μ 58 _) 67 _) 68 _) 69 _), mset_id (μ := mset (mset (mset μ 58 _) 67 _) 68 _), mset_id (μ := mset (mset μ 58 _) 67 _), mset_id (μ := mset μ 58 _)]
  all_goals simp [mset]
  all_goals rfl

set_option maxRecDepth 100000 in
set_option maxHeartbeats 4000000 in
theorem kX8_fault {l : Launch} {G : GT} {μ : MemT} {c : Nat} (hc60 : c ≤ 60) (hc : μ 58 13 = nI c)  : sw_Met l G yX8_fault cX8_fault 4 (some .int) (rmk 4 87) [.ref (G.2.1 58)] μ (fun v μ2 => v = some (.int (psAll c μ).1) ∧ μ2 = putPs (psAll c μ).2 μ) := by
  refine sw_Met.ofY (by decide) (Nat.le_of_ble_eq_true rfl) rfl ?_
  refine y_aload_n dX8_fault_0 rfl rfl ?_
  refine y_iconst dX8_fault_1 ic_0 ?_
  refine y_puti dX8_fault_2 18 clX8 kd_58 (by decide) wm_fl_X8_124 rfl rfl rfl rfl (tyX8_ok 18 (by decide)) rfl rfl ?_
  refine y_iconst dX8_fault_5 ic_0 ?_
  refine y_istore_n dX8_fault_6 rfl rfl (by decide) ?_
  refine y_iconst (v := nI 0) dX8_fault_7 icn_0 ?_
  refine y_istore_n dX8_fault_8 rfl rfl (by decide) ?_
  refine y_eq (show _ = putPs (ps0 μ) μ from (ps0_put μ).symm) rfl rfl ?_
  refine y_loop2 (fun (j : Nat) (d : Int32) (w : PsT) => [some (.ref (G.2.1 58)), some (.int d), some (.int (nI j)), none]) (fun (j : Nat) (d : Int32) (w : PsT) => putPs w μ) (fun (j : Nat) (d : Int32) (w : PsT) => psRun (μ 66) (nI c) (c - j) j d w = psAll c μ ∧ w.1 ≤ j) c (fun d w hv9 => ?_) (fun j d w hj hv9 ih9 => ?_) 0 (0) (ps0 μ) (Nat.zero_le _) (⟨rfl, Nat.le_refl _⟩)
  · obtain ⟨hv9, hw9⟩ := hv9
    rw [Nat.sub_self, psRun] at hv9
    refine y_iload_n dX8_fault_9 rfl rfl ?_
    refine y_aload_n dX8_fault_10 rfl rfl ?_
    refine y_geti dX8_fault_11 13 clX8 kd_58 (by decide) wm_fl_X8_121 rfl rfl ?_
    refine y_icmp_ge 81 dX8_fault_14 (by decide) (fun _ => ?_) (fun hq => absurd (by rw [show putPs w μ 58 13 = nI c from hc]; exact Int32.le_refl _) hq)
    refine y_iload_n dX8_fault_81 rfl rfl ?_
    refine y_if_ne 90 dX8_fault_82 (by decide) (fun h82 => ?_) (fun h82 => ?_)
    · refine y_aload_n dX8_fault_90 rfl rfl ?_
      refine y_geti dX8_fault_91 13 clX8 kd_58 (by decide) wm_fl_X8_121 rfl rfl ?_
      refine y_iret dX8_fault_94 ?_
      first
        | exact ⟨by rw [← hv9, if_neg h82]; exact congrArg (fun q => some (Value.int q)) hc, by rw [← hv9]⟩
        | exact ⟨by rw [← hv9, if_pos h82], by rw [← hv9]⟩
    · refine y_bipush dX8_fault_85 ib_m6 ?_
      refine y_goto 94 dX8_fault_87 (by decide) ?_
      refine y_iret dX8_fault_94 ?_
      first
        | exact ⟨by rw [← hv9, if_neg h82]; exact congrArg (fun q => some (Value.int q)) hc, by rw [← hv9]⟩
        | exact ⟨by rw [← hv9, if_pos h82], by rw [← hv9]⟩
  · obtain ⟨hv9, hw9⟩ := hv9
    rw [sub_s hj, psRun] at hv9
    refine y_iload_n dX8_fault_9 rfl rfl ?_
    refine y_aload_n dX8_fault_10 rfl rfl ?_
    refine y_geti dX8_fault_11 13 clX8 kd_58 (by decide) wm_fl_X8_121 rfl rfl ?_
    refine y_icmp_ge 81 dX8_fault_14 (by decide) (fun hq => absurd (by rw [show putPs w μ 58 13 = nI c from hc] at hq; exact hq) (nI_ge hj (by omega))) (fun _ => ?_)
    refine y_aload_n dX8_fault_17 rfl rfl ?_
    refine y_getr dX8_fault_18 12 clX8 kd_58 (by decide) wm_fl_X8_31 rfl rfl ?_
    refine y_iload_n dX8_fault_21 rfl rfl ?_
    refine y_iald dX8_fault_22 j kd_66 rfl (by omega) (by decide) ?_
    refine y_eq (st2 := [.int (μ 66 j)]) rfl rfl rfl ?_
    refine y_istore_n dX8_fault_23 rfl rfl (by decide) ?_
    refine y_iload_n dX8_fault_24 rfl rfl ?_
    refine y_if_ne 36 dX8_fault_25 (by decide) (fun h25 => ?_) (fun h25 => ?_)
    · refine y_iload_n dX8_fault_36 rfl rfl ?_
      refine y_iconst dX8_fault_37 ic_1 ?_
      refine y_icmp_ne 49 dX8_fault_38 (by decide) (fun h38 => ?_) (fun h38 => ?_)
      · refine y_iload_n dX8_fault_49 rfl rfl ?_
        refine y_iconst dX8_fault_50 ic_4 ?_
        refine y_icmp_ne 62 dX8_fault_51 (by decide) (fun h51 => ?_) (fun h51 => ?_)
        · refine y_aload_n dX8_fault_62 rfl rfl ?_
          refine y_iload_n dX8_fault_63 rfl rfl ?_
          refine y_iload_n dX8_fault_64 rfl rfl ?_
          refine y_cV2 dX8_fault_65 meX8_readAcross clX8 kd_58 wm_ml_X8_146 (kX8_readAcross (Nat.lt_of_le_of_lt hw9 (Nat.lt_of_lt_of_le hj hc60))) ⟨Nat.le_of_ble_eq_true rfl, Nat.le_of_ble_eq_true rfl⟩ ⟨rfl, rfl⟩ (Nat.le_of_ble_eq_true rfl) (fun v65 μ65 hp65 => ?_)
          obtain ⟨rfl, he65⟩ := hp65
          replace he65 := he65.symm
          subst he65
          refine y_ri ?_
          have hs : psStep d (μ 66 j) w = psAcross d (μ 66 j) w := by clear ih9 hv9; simp_all [psStep]
          have hle := psStep_le d (μ 66 j) w
          rw [hs] at hv9 hle
          refine y_istore_n dX8_fault_68 rfl rfl (by decide) ?_
          refine y_iload_n dX8_fault_69 rfl rfl ?_
          refine y_if_ge 75 dX8_fault_70 (by decide) (fun h70 => ?_) (fun h70 => ?_)
          · refine y_iinc (v := nI (j + 1)) dX8_fault_75 rfl (nI_i1 _) rfl (by decide) ?_
            refine y_goto 9 dX8_fault_78 (by decide) ?_
            exact y_drop 3 (ih9 _ _ ⟨by rw [← hv9, if_neg (fun q => absurd h70 (Int32.not_le.mpr q))], by omega⟩)
          · refine y_iload_n dX8_fault_73 rfl rfl ?_
            refine y_iret dX8_fault_74 ?_
            exact ⟨by rw [← hv9, if_pos (Int32.not_le.mp h70)], by rw [← hv9, if_pos (Int32.not_le.mp h70)]⟩
        · refine y_aload_n dX8_fault_54 rfl rfl ?_
          refine y_iload_n dX8_fault_55 rfl rfl ?_
          refine y_cV1 dX8_fault_56 meX8_readCold clX8 kd_58 wm_ml_X8_143 (kX8_readCold (Nat.lt_of_le_of_lt hw9 (Nat.lt_of_lt_of_le hj hc60))) ⟨Nat.le_of_ble_eq_true rfl, Nat.le_of_ble_eq_true rfl⟩ ⟨rfl, rfl⟩ (Nat.le_of_ble_eq_true rfl) (fun v56 μ56 hp56 => ?_)
          obtain ⟨rfl, he56⟩ := hp56
          replace he56 := he56.symm
          subst he56
          refine y_ri ?_
          refine y_goto 68 dX8_fault_59 (by decide) ?_
          have hs : psStep d (μ 66 j) w = psCold (μ 66 j) w := by clear ih9 hv9; simp_all [psStep]
          have hle := psStep_le d (μ 66 j) w
          rw [hs] at hv9 hle
          refine y_istore_n dX8_fault_68 rfl rfl (by decide) ?_
          refine y_iload_n dX8_fault_69 rfl rfl ?_
          refine y_if_ge 75 dX8_fault_70 (by decide) (fun h70 => ?_) (fun h70 => ?_)
          · refine y_iinc (v := nI (j + 1)) dX8_fault_75 rfl (nI_i1 _) rfl (by decide) ?_
            refine y_goto 9 dX8_fault_78 (by decide) ?_
            exact y_drop 3 (ih9 _ _ ⟨by rw [← hv9, if_neg (fun q => absurd h70 (Int32.not_le.mpr q))], by omega⟩)
          · refine y_iload_n dX8_fault_73 rfl rfl ?_
            refine y_iret dX8_fault_74 ?_
            exact ⟨by rw [← hv9, if_pos (Int32.not_le.mp h70)], by rw [← hv9, if_pos (Int32.not_le.mp h70)]⟩
      · refine y_aload_n dX8_fault_41 rfl rfl ?_
        refine y_iload_n dX8_fault_42 rfl rfl ?_
        refine y_cV1 dX8_fault_43 meX8_readNear clX8 kd_58 wm_ml_X8_127 (kX8_readNear (Nat.lt_of_le_of_lt hw9 (Nat.lt_of_lt_of_le hj hc60))) ⟨Nat.le_of_ble_eq_true rfl, Nat.le_of_ble_eq_true rfl⟩ ⟨rfl, rfl⟩ (Nat.le_of_ble_eq_true rfl) (fun v43 μ43 hp43 => ?_)
        obtain ⟨rfl, he43⟩ := hp43
        replace he43 := he43.symm
        subst he43
        refine y_ri ?_
        refine y_goto 68 dX8_fault_46 (by decide) ?_
        have hs : psStep d (μ 66 j) w = psNear (μ 66 j) w := by clear ih9 hv9; simp_all [psStep]
        have hle := psStep_le d (μ 66 j) w
        rw [hs] at hv9 hle
        refine y_istore_n dX8_fault_68 rfl rfl (by decide) ?_
        refine y_iload_n dX8_fault_69 rfl rfl ?_
        refine y_if_ge 75 dX8_fault_70 (by decide) (fun h70 => ?_) (fun h70 => ?_)
        · refine y_iinc (v := nI (j + 1)) dX8_fault_75 rfl (nI_i1 _) rfl (by decide) ?_
          refine y_goto 9 dX8_fault_78 (by decide) ?_
          exact y_drop 3 (ih9 _ _ ⟨by rw [← hv9, if_neg (fun q => absurd h70 (Int32.not_le.mpr q))], by omega⟩)
        · refine y_iload_n dX8_fault_73 rfl rfl ?_
          refine y_iret dX8_fault_74 ?_
          exact ⟨by rw [← hv9, if_pos (Int32.not_le.mp h70)], by rw [← hv9, if_pos (Int32.not_le.mp h70)]⟩
    · refine y_aload_n dX8_fault_28 rfl rfl ?_
      refine y_iload_n dX8_fault_29 rfl rfl ?_
      refine y_cV1 dX8_fault_30 meX8_beginAct clX8 kd_58 wm_ml_X8_140 (kX8_beginAct (Nat.lt_of_le_of_lt hw9 (Nat.lt_of_lt_of_le hj hc60))) ⟨Nat.le_of_ble_eq_true rfl, Nat.le_of_ble_eq_true rfl⟩ ⟨rfl, rfl⟩ (Nat.le_of_ble_eq_true rfl) (fun v30 μ30 hp30 => ?_)
      obtain ⟨rfl, he30⟩ := hp30
      replace he30 := he30.symm
      subst he30
      refine y_ri ?_
      refine y_goto 68 dX8_fault_33 (by decide) ?_
      have hs : psStep d (μ 66 j) w = psBegin (μ 66 j) w := by clear ih9 hv9; simp_all [psStep]
      have hle := psStep_le d (μ 66 j) w
      rw [hs] at hv9 hle
      refine y_istore_n dX8_fault_68 rfl rfl (by decide) ?_
      refine y_iload_n dX8_fault_69 rfl rfl ?_
      refine y_if_ge 75 dX8_fault_70 (by decide) (fun h70 => ?_) (fun h70 => ?_)
      · refine y_iinc (v := nI (j + 1)) dX8_fault_75 rfl (nI_i1 _) rfl (by decide) ?_
        refine y_goto 9 dX8_fault_78 (by decide) ?_
        exact y_drop 3 (ih9 _ _ ⟨by rw [← hv9, if_neg (fun q => absurd h70 (Int32.not_le.mpr q))], by omega⟩)
      · refine y_iload_n dX8_fault_73 rfl rfl ?_
        refine y_iret dX8_fault_74 ?_
        exact ⟨by rw [← hv9, if_pos (Int32.not_le.mp h70)], by rw [← hv9, if_pos (Int32.not_le.mp h70)]⟩

theorem and1 (y : Int32) : y &&& 1 = 0 ↔ ¬ y &&& 1 = 1 := by
  constructor
  · intro h q; rw [h] at q; exact absurd q (by decide)
  · intro h
    have h2 : (y &&& 1).toBitVec = 0#32 ∨ (y &&& 1).toBitVec = 1#32 := by
      rw [Int32.toBitVec_and]
      have : (1 : Int32).toBitVec = 1#32 := by decide
      rw [this]
      have h3 : (y.toBitVec &&& 1#32).toNat = y.toBitVec.toNat % 2 := by
        rw [BitVec.toNat_and]
        show y.toBitVec.toNat &&& 1 = _
        exact Nat.and_one_is_mod _
      rcases Nat.mod_two_eq_zero_or_one y.toBitVec.toNat with q | q
      · exact Or.inl (BitVec.eq_of_toNat_eq (by rw [h3, q]; rfl))
      · exact Or.inr (BitVec.eq_of_toNat_eq (by rw [h3, q]; rfl))
    rcases h2 with q | q
    · exact Int32.toBitVec_inj.mp (q.trans (by decide))
    · exact absurd (Int32.toBitVec_inj.mp (q.trans (by decide))) h
theorem bt0 (x : Int32) (p : Nat) : (x >>> (nI p &&& 31) &&& 1 = 0) ↔ bt x p = false := by
  rw [and1]
  unfold bt bitI
  exact decide_eq_false_iff_not.symm
theorem bt1 (x : Int32) (p : Nat) : (x >>> (nI p &&& 31) &&& 1 = 1) ↔ bt x p = true := by
  unfold bt bitI
  exact decide_eq_true_iff.symm
def tbm (x : Int32) (sp : Nat → Int32) (p : Nat) : Bool := !bt x p || (decide (sp p < 0) || bitI x (sp p))
def togM (x : Int32) (sp : Nat → Int32) : Bool := itr (fun p b => b && tbm x sp p) 8 0 true

set_option maxRecDepth 100000 in
set_option maxHeartbeats 4000000 in
theorem kX8_areTogether {l : Launch} {G : GT} {μ : MemT} {x : Int32} : sw_Met l G yX8_areTogether cX8_areTogether 4 (some .boolean) (rmk 0 0) [.ref (G.2.1 58), .int x] μ (fun v μ2 => v = some (.int (bI (togM x (μ 62)))) ∧ μ2 = μ) := by
  refine sw_Met.ofY (by decide) (Nat.le_of_ble_eq_true rfl) rfl ?_
  refine y_iconst dX8_areTogether_0 ic_1 ?_
  refine y_istore_n dX8_areTogether_1 rfl rfl (by decide) ?_
  refine y_iconst (v := nI 0) dX8_areTogether_2 icn_0 ?_
  refine y_istore_n dX8_areTogether_3 rfl rfl (by decide) ?_
  refine y_loop1 (fun (j : Nat) (B : Bool) => [some (.ref (G.2.1 58)), some (.int x), some (.int (bI B)), some (.int (nI j))]) (fun (j : Nat) (B : Bool) => μ) (fun (j : Nat) (B : Bool) => itr (fun p b => b && tbm x (μ 62) p) (8 - j) j B = togM x (μ 62)) 8 (fun B hv4 => ?_) (fun j B hj hv4 ih4 => ?_) 0 (true) (Nat.zero_le _) (rfl)
  · refine y_iload_n dX8_areTogether_4 rfl rfl ?_
    refine y_bipush dX8_areTogether_5 ib_8 ?_
    refine y_icmp_ge 57 dX8_areTogether_7 (by decide) (fun _ => ?_) (fun hq => absurd (by decide) hq)
    refine y_iload_n dX8_areTogether_57 rfl rfl ?_
    refine y_zret dX8_areTogether_58 (bI_nar _) ?_
    exact ⟨by rw [itr_ex hv4], rfl⟩
  · refine y_iload_n dX8_areTogether_4 rfl rfl ?_
    refine y_bipush dX8_areTogether_5 ib_8 ?_
    refine y_icmp_ge 57 dX8_areTogether_7 (by decide) (fun hq => absurd hq (nI_ge (b := 8) hj (by decide))) (fun _ => ?_)
    refine y_iload_n dX8_areTogether_10 rfl rfl ?_
    refine y_ifb_eq 49 dX8_areTogether_11 (by decide) (fun h11 => ?_) (fun h11 => ?_)
    · refine y_iconst dX8_areTogether_49 ic_0 ?_
      refine y_istore_n dX8_areTogether_50 rfl rfl (by decide) ?_
      refine y_iinc (v := nI (j + 1)) dX8_areTogether_51 rfl (nI_i1 _) rfl (by decide) ?_
      refine y_goto 4 dX8_areTogether_54 (by decide) ?_
      exact ih4 false (itr_nx hj hv4 (by clear ih4 hv4; (try simp only [bt0, bt1] at *); simp_all [-Int32.not_lt, tbm, bitI]))
    · refine y_iload_n dX8_areTogether_14 rfl rfl ?_
      refine y_iload_n dX8_areTogether_15 rfl rfl ?_
      refine y_ishr dX8_areTogether_16 ?_
      refine y_iconst dX8_areTogether_17 ic_1 ?_
      refine y_iand dX8_areTogether_18 ?_
      refine y_if_eq 45 dX8_areTogether_19 (by decide) (fun h19 => ?_) (fun h19 => ?_)
      · refine y_iconst dX8_areTogether_45 ic_1 ?_
        refine y_goto 50 dX8_areTogether_46 (by decide) ?_
        refine y_istore_n dX8_areTogether_50 rfl rfl (by decide) ?_
        refine y_iinc (v := nI (j + 1)) dX8_areTogether_51 rfl (nI_i1 _) rfl (by decide) ?_
        refine y_goto 4 dX8_areTogether_54 (by decide) ?_
        exact ih4 true (itr_nx hj hv4 (by clear ih4 hv4; (try simp only [bt0, bt1] at *); simp_all [-Int32.not_lt, tbm, bitI]))
      · refine y_aload_n dX8_areTogether_22 rfl rfl ?_
        refine y_getr dX8_areTogether_23 7 clX8 kd_58 (by decide) wm_fl_X8_19 rfl rfl ?_
        refine y_iload_n dX8_areTogether_26 rfl rfl ?_
        refine y_iald dX8_areTogether_27 j kd_62 rfl (by first | assumption | decide | omega) (by decide) ?_
        refine y_if_lt 45 dX8_areTogether_28 (by decide) (fun h28 => ?_) (fun h28 => ?_)
        · refine y_iconst dX8_areTogether_45 ic_1 ?_
          refine y_goto 50 dX8_areTogether_46 (by decide) ?_
          refine y_istore_n dX8_areTogether_50 rfl rfl (by decide) ?_
          refine y_iinc (v := nI (j + 1)) dX8_areTogether_51 rfl (nI_i1 _) rfl (by decide) ?_
          refine y_goto 4 dX8_areTogether_54 (by decide) ?_
          exact ih4 true (itr_nx hj hv4 (by clear ih4 hv4; (try simp only [bt0, bt1] at *); simp_all [-Int32.not_lt, tbm, bitI]))
        · refine y_iload_n dX8_areTogether_31 rfl rfl ?_
          refine y_aload_n dX8_areTogether_32 rfl rfl ?_
          refine y_getr dX8_areTogether_33 7 clX8 kd_58 (by decide) wm_fl_X8_19 rfl rfl ?_
          refine y_iload_n dX8_areTogether_36 rfl rfl ?_
          refine y_iald dX8_areTogether_37 j kd_62 rfl (by first | assumption | decide | omega) (by decide) ?_
          refine y_ishr dX8_areTogether_38 ?_
          refine y_iconst dX8_areTogether_39 ic_1 ?_
          refine y_iand dX8_areTogether_40 ?_
          refine y_iconst dX8_areTogether_41 ic_1 ?_
          refine y_icmp_ne 49 dX8_areTogether_42 (by decide) (fun h42 => ?_) (fun h42 => ?_)
          · refine y_iconst dX8_areTogether_49 ic_0 ?_
            refine y_istore_n dX8_areTogether_50 rfl rfl (by decide) ?_
            refine y_iinc (v := nI (j + 1)) dX8_areTogether_51 rfl (nI_i1 _) rfl (by decide) ?_
            refine y_goto 4 dX8_areTogether_54 (by decide) ?_
            exact ih4 false (itr_nx hj hv4 (by clear ih4 hv4; (try simp only [bt0, bt1] at *); simp_all [-Int32.not_lt, tbm, bitI]))
          · refine y_iconst dX8_areTogether_45 ic_1 ?_
            refine y_goto 50 dX8_areTogether_46 (by decide) ?_
            refine y_istore_n dX8_areTogether_50 rfl rfl (by decide) ?_
            refine y_iinc (v := nI (j + 1)) dX8_areTogether_51 rfl (nI_i1 _) rfl (by decide) ?_
            refine y_goto 4 dX8_areTogether_54 (by decide) ?_
            exact ih4 true (itr_nx hj hv4 (by clear ih4 hv4; (try simp only [bt0, bt1] at *); simp_all [-Int32.not_lt, tbm, bitI]))

set_option maxRecDepth 100000 in
set_option maxHeartbeats 4000000 in
theorem kX8_swornOf {l : Launch} {G : GT} {μ : MemT} {x : Int32} : sw_Met l G yX8_swornOf cX8_swornOf 4 (some .int) (rmk 0 0) [.ref (G.2.1 58), .int x] μ (fun v μ2 => v = some (.int (sumB x (μ 59))) ∧ μ2 = μ) := by
  refine sw_Met.ofY (by decide) (Nat.le_of_ble_eq_true rfl) rfl ?_
  refine y_iconst dX8_swornOf_0 ic_0 ?_
  refine y_istore_n dX8_swornOf_1 rfl rfl (by decide) ?_
  refine y_iconst (v := nI 0) dX8_swornOf_2 icn_0 ?_
  refine y_istore_n dX8_swornOf_3 rfl rfl (by decide) ?_
  refine y_loop1 (fun (j : Nat) (a : Int32) => [some (.ref (G.2.1 58)), some (.int x), some (.int a), some (.int (nI j))]) (fun (j : Nat) (a : Int32) => μ) (fun (j : Nat) (a : Int32) => itr (fun p s => if bt x p then s + μ 59 p else s) (8 - j) j a = itr (fun p s => if bt x p then s + μ 59 p else s) 8 0 (0)) 8 (fun a hv4 => ?_) (fun j a hj hv4 ih4 => ?_) 0 (0) (Nat.zero_le _) (rfl)
  · refine y_iload_n dX8_swornOf_4 rfl rfl ?_
    refine y_bipush dX8_swornOf_5 ib_8 ?_
    refine y_icmp_ge 38 dX8_swornOf_7 (by decide) (fun _ => ?_) (fun hq => absurd (by decide) hq)
    refine y_iload_n dX8_swornOf_38 rfl rfl ?_
    refine y_iret dX8_swornOf_39 ?_
    exact ⟨by rw [itr_ex hv4]; rfl, rfl⟩
  · refine y_iload_n dX8_swornOf_4 rfl rfl ?_
    refine y_bipush dX8_swornOf_5 ib_8 ?_
    refine y_icmp_ge 38 dX8_swornOf_7 (by decide) (fun hq => absurd hq (nI_ge (b := 8) hj (by decide))) (fun _ => ?_)
    refine y_iload_n dX8_swornOf_10 rfl rfl ?_
    refine y_iload_n dX8_swornOf_11 rfl rfl ?_
    refine y_iload_n dX8_swornOf_12 rfl rfl ?_
    refine y_ishr dX8_swornOf_13 ?_
    refine y_iconst dX8_swornOf_14 ic_1 ?_
    refine y_iand dX8_swornOf_15 ?_
    refine y_iconst dX8_swornOf_16 ic_1 ?_
    refine y_icmp_ne 29 dX8_swornOf_17 (by decide) (fun h17 => ?_) (fun h17 => ?_)
    · refine y_iconst dX8_swornOf_29 ic_0 ?_
      refine y_iadd dX8_swornOf_30 ?_
      refine y_istore_n dX8_swornOf_31 rfl rfl (by decide) ?_
      refine y_iinc (v := nI (j + 1)) dX8_swornOf_32 rfl (nI_i1 _) rfl (by decide) ?_
      refine y_goto 4 dX8_swornOf_35 (by decide) ?_
      exact ih4 _ (itr_nx hj hv4 (by clear ih4 hv4; (try simp only [bt0, bt1] at *); simp_all))
    · refine y_aload_n dX8_swornOf_20 rfl rfl ?_
      refine y_getr dX8_swornOf_21 4 clX8 kd_58 (by decide) wm_fl_X8_7 rfl rfl ?_
      refine y_iload_n dX8_swornOf_24 rfl rfl ?_
      refine y_iald dX8_swornOf_25 j kd_59 rfl (by first | assumption | decide | omega) (by decide) ?_
      refine y_goto 30 dX8_swornOf_26 (by decide) ?_
      refine y_iadd dX8_swornOf_30 ?_
      refine y_istore_n dX8_swornOf_31 rfl rfl (by decide) ?_
      refine y_iinc (v := nI (j + 1)) dX8_swornOf_32 rfl (nI_i1 _) rfl (by decide) ?_
      refine y_goto 4 dX8_swornOf_35 (by decide) ?_
      exact ih4 _ (itr_nx hj hv4 (by clear ih4 hv4; (try simp only [bt0, bt1] at *); simp_all))

set_option maxRecDepth 100000 in
set_option maxHeartbeats 4000000 in
theorem kX8_poundsOf {l : Launch} {G : GT} {μ : MemT} {x : Int32} : sw_Met l G yX8_poundsOf cX8_poundsOf 4 (some .int) (rmk 1 21) [.ref (G.2.1 58), .int x] μ (fun v μ2 => v = some (.int (wcB x (μ 58 1) (μ 60))) ∧ μ2 = μ) := by
  refine sw_Met.ofY (by decide) (Nat.le_of_ble_eq_true rfl) rfl ?_
  refine y_iconst dX8_poundsOf_0 ic_0 ?_
  refine y_istore_n dX8_poundsOf_1 rfl rfl (by decide) ?_
  refine y_iconst (v := nI 0) dX8_poundsOf_2 icn_0 ?_
  refine y_istore_n dX8_poundsOf_3 rfl rfl (by decide) ?_
  refine y_loop1 (fun (j : Nat) (a : Int32) => [some (.ref (G.2.1 58)), some (.int x), some (.int a), some (.int (nI j))]) (fun (j : Nat) (a : Int32) => μ) (fun (j : Nat) (a : Int32) => itr (fun p s => if bt x p then s + wc (μ 58 1) (nI p) (μ 60 p) else s) (8 - j) j a = itr (fun p s => if bt x p then s + wc (μ 58 1) (nI p) (μ 60 p) else s) 8 0 (0)) 8 (fun a hv4 => ?_) (fun j a hj hv4 ih4 => ?_) 0 (0) (Nat.zero_le _) (rfl)
  · refine y_iload_n dX8_poundsOf_4 rfl rfl ?_
    refine y_bipush dX8_poundsOf_5 ib_8 ?_
    refine y_icmp_ge 37 dX8_poundsOf_7 (by decide) (fun _ => ?_) (fun hq => absurd (by decide) hq)
    refine y_iload_n dX8_poundsOf_37 rfl rfl ?_
    refine y_iret dX8_poundsOf_38 ?_
    exact ⟨by rw [itr_ex hv4]; rfl, rfl⟩
  · refine y_iload_n dX8_poundsOf_4 rfl rfl ?_
    refine y_bipush dX8_poundsOf_5 ib_8 ?_
    refine y_icmp_ge 37 dX8_poundsOf_7 (by decide) (fun hq => absurd hq (nI_ge (b := 8) hj (by decide))) (fun _ => ?_)
    refine y_iload_n dX8_poundsOf_10 rfl rfl ?_
    refine y_iload_n dX8_poundsOf_11 rfl rfl ?_
    refine y_iload_n dX8_poundsOf_12 rfl rfl ?_
    refine y_ishr dX8_poundsOf_13 ?_
    refine y_iconst dX8_poundsOf_14 ic_1 ?_
    refine y_iand dX8_poundsOf_15 ?_
    refine y_iconst dX8_poundsOf_16 ic_1 ?_
    refine y_icmp_ne 28 dX8_poundsOf_17 (by decide) (fun h17 => ?_) (fun h17 => ?_)
    · refine y_iconst dX8_poundsOf_28 ic_0 ?_
      refine y_iadd dX8_poundsOf_29 ?_
      refine y_istore_n dX8_poundsOf_30 rfl rfl (by decide) ?_
      refine y_iinc (v := nI (j + 1)) dX8_poundsOf_31 rfl (nI_i1 _) rfl (by decide) ?_
      refine y_goto 4 dX8_poundsOf_34 (by decide) ?_
      exact ih4 _ (itr_nx hj hv4 (by clear ih4 hv4; (try simp only [bt0, bt1] at *); simp_all))
    · refine y_aload_n dX8_poundsOf_20 rfl rfl ?_
      refine y_iload_n dX8_poundsOf_21 rfl rfl ?_
      refine y_cV1 dX8_poundsOf_22 meX8_pounds clX8 kd_58 wm_ml_X8_150 (kX8_pounds (by first | assumption | omega)) ⟨Nat.le_of_ble_eq_true rfl, Nat.le_of_ble_eq_true rfl⟩ ⟨rfl, rfl⟩ (Nat.le_of_ble_eq_true rfl) (fun v22 μ22 hp22 => ?_)
      obtain ⟨rfl, he22⟩ := hp22
      replace he22 := he22.symm
      subst he22
      refine y_ri ?_
      refine y_goto 29 dX8_poundsOf_25 (by decide) ?_
      refine y_iadd dX8_poundsOf_29 ?_
      refine y_istore_n dX8_poundsOf_30 rfl rfl (by decide) ?_
      refine y_iinc (v := nI (j + 1)) dX8_poundsOf_31 rfl (nI_i1 _) rfl (by decide) ?_
      refine y_goto 4 dX8_poundsOf_34 (by decide) ?_
      exact ih4 _ (itr_nx hj hv4 (by clear ih4 hv4; (try simp only [bt0, bt1] at *); simp_all))

def bdI (x : Int32) : Int32 := if 1 ≤ x then (if x ≤ 400 then x else 400) else 1
def bdW (d w : Nat → Int32) : Nat → Int32 := itr (fun p w => upd w p (bdI (w p + d p))) 8 0 w
def bfW (w : Nat → Int32) : Nat → Int32 := itr (fun p w => upd w p (bdI (w p + 5))) 8 0 w
def cpW (w h : Nat → Int32) : Nat → Int32 := itr (fun p h => upd h p (w p)) 8 0 h
def mDay (μ : MemT) : MemT := mset (mset μ 60 (bdW (μ 61) (μ 60))) 58 (upd (μ 58) 3 (μ 58 3 + 1))
def mFeast (μ : MemT) : MemT := mset μ 60 (bfW (μ 60))
def mKeep (μ : MemT) : MemT := mset (mset μ 71 (cpW (μ 60) (μ 71))) 58 (upd (upd (μ 58) 24 (μ 58 1)) 25 (μ 58 3))
def mBack (μ : MemT) : MemT := mset (mset μ 60 (cpW (μ 71) (μ 60))) 58 (upd (upd (μ 58) 1 (μ 58 24)) 3 (μ 58 25))
def wnM (k : Nat) (μ : MemT) : Int32 := if μ 67 k = 1 ∨ μ 67 k = 2 then 0 else if subI (μ 68 k ||| μ 69 k) (μ 58 0) = false then 1 else if μ 67 k = 3 then 0 else if ¬ μ 70 k = 0 then 2 else if (togM (μ 68 k) (μ 62) && togM (μ 69 k) (μ 62)) = false then 3 else if sumB (μ 68 k) (μ 59) < sumB (μ 69 k) (μ 59) then 0 else 4
def asK (k : Nat) (μ : MemT) : Int32 := sumB (μ 69 k) (μ 59) - sumB (μ 68 k) (μ 59)
def isK (k : Nat) (μ : MemT) : Int32 := if 0 ≤ wcB (μ 69 k) (μ 58 1) (μ 60) - wcB (μ 68 k) (μ 58 1) (μ 60) then wcB (μ 69 k) (μ 58 1) (μ 60) - wcB (μ 68 k) (μ 58 1) (μ 60) else 0
def slM (k : Nat) (μ : MemT) : MemT := mset μ 58 (upd (upd (upd (upd (μ 58) 19 (μ 58 19 + 1)) 20 (μ 58 20 + asK k μ)) 21 (μ 58 21 + isK k μ)) 22 (if 0 ≤ μ 58 22 then μ 58 22 else if abI (asK k μ - isK k μ) ≤ μ 58 2 then μ 58 22 else nI k))
def hpM (k : Nat) (μ : MemT) : MemT := if μ 67 k = 0 then slM k μ else if μ 67 k = 1 then mDay μ else if μ 67 k = 2 then mFeast μ else mset μ 58 (upd (μ 58) 1 (μ 58 1 ^^^ μ 69 k))

set_option maxRecDepth 100000 in
set_option maxHeartbeats 4000000 in
theorem kX8_bounded {l : Launch} {G : GT} {μ : MemT} {x : Int32} : sw_Met l G yX8_bounded cX8_bounded 1 (some .int) (rmk 0 0) [.int x] μ (fun v μ2 => v = some (.int (bdI x)) ∧ μ2 = μ) := by
  refine sw_Met.ofY (by decide) (Nat.le_of_ble_eq_true rfl) rfl ?_
  refine y_iload_n dX8_bounded_0 rfl rfl ?_
  refine y_iconst dX8_bounded_1 ic_1 ?_
  refine y_icmp_ge 9 dX8_bounded_2 (by decide) (fun h2 => ?_) (fun h2 => ?_)
  · refine y_iload_n dX8_bounded_9 rfl rfl ?_
    refine y_sipush dX8_bounded_10 is_400 ?_
    refine y_icmp_le 22 dX8_bounded_13 (by decide) (fun h13 => ?_) (fun h13 => ?_)
    · refine y_iload_n dX8_bounded_22 rfl rfl ?_
      refine y_iret dX8_bounded_23 ?_
      exact ⟨by simp_all [-Int32.not_lt, -Int32.not_le, bdI], rfl⟩
    · refine y_sipush dX8_bounded_16 is_400 ?_
      refine y_goto 23 dX8_bounded_19 (by decide) ?_
      refine y_iret dX8_bounded_23 ?_
      exact ⟨by simp_all [-Int32.not_lt, -Int32.not_le, bdI], rfl⟩
  · refine y_iconst dX8_bounded_5 ic_1 ?_
    refine y_goto 23 dX8_bounded_6 (by decide) ?_
    refine y_iret dX8_bounded_23 ?_
    exact ⟨by simp_all [-Int32.not_lt, -Int32.not_le, bdI], rfl⟩

set_option maxRecDepth 100000 in
set_option maxHeartbeats 4000000 in
theorem kX8_passDay {l : Launch} {G : GT} {μ : MemT}  : sw_Met l G yX8_passDay cX8_passDay 2 none (rmk 1 20) [.ref (G.2.1 58)] μ (fun v μ2 => v = none ∧ μ2 = mDay μ) := by
  refine sw_Met.ofY (by decide) (Nat.le_of_ble_eq_true rfl) rfl ?_
  refine y_iconst (v := nI 0) dX8_passDay_0 icn_0 ?_
  refine y_istore_n dX8_passDay_1 rfl rfl (by decide) ?_
  refine y_eq (mset_eq (k := 60) (r := μ 60) rfl) rfl rfl ?_
  refine y_loop1 (fun (j : Nat) (a : Nat → Int32) => [some (.ref (G.2.1 58)), some (.int (nI j))]) (fun (j : Nat) (a : Nat → Int32) => mset μ 60 a) (fun (j : Nat) (a : Nat → Int32) => itr (fun p w => upd w p (bdI (w p + μ 61 p))) (8 - j) j a = itr (fun p w => upd w p (bdI (w p + μ 61 p))) 8 0 (μ 60)) 8 (fun a hv2 => ?_) (fun j a hj hv2 ih2 => ?_) 0 (μ 60) (Nat.zero_le _) (rfl)
  · refine y_iload_n dX8_passDay_2 rfl rfl ?_
    refine y_bipush dX8_passDay_3 ib_8 ?_
    refine y_icmp_ge 36 dX8_passDay_5 (by decide) (fun _ => ?_) (fun hq => absurd (by decide) hq)
    refine y_aload_n dX8_passDay_36 rfl rfl ?_
    refine y_dup dX8_passDay_37 rfl ?_
    refine y_geti dX8_passDay_38 3 clX8 kd_58 (by decide) wm_fl_X8_162 rfl rfl ?_
    refine y_iconst dX8_passDay_41 ic_1 ?_
    refine y_iadd dX8_passDay_42 ?_
    refine y_puti dX8_passDay_43 3 clX8 kd_58 (by decide) wm_fl_X8_162 rfl rfl rfl rfl (tyX8_ok 3 (by decide)) rfl rfl ?_
    refine y_vret dX8_passDay_46 ?_
    exact ⟨rfl, by rw [itr_ex hv2]; rfl⟩
  · refine y_iload_n dX8_passDay_2 rfl rfl ?_
    refine y_bipush dX8_passDay_3 ib_8 ?_
    refine y_icmp_ge 36 dX8_passDay_5 (by decide) (fun hq => absurd hq (nI_ge (b := 8) hj (by decide))) (fun _ => ?_)
    refine y_aload_n dX8_passDay_8 rfl rfl ?_
    refine y_getr dX8_passDay_9 5 clX8 kd_58 (by decide) wm_fl_X8_13 rfl rfl ?_
    refine y_iload_n dX8_passDay_12 rfl rfl ?_
    refine y_aload_n dX8_passDay_13 rfl rfl ?_
    refine y_getr dX8_passDay_14 5 clX8 kd_58 (by decide) wm_fl_X8_13 rfl rfl ?_
    refine y_iload_n dX8_passDay_17 rfl rfl ?_
    refine y_iald dX8_passDay_18 j kd_60 rfl (by first | assumption | decide | omega) (by decide) ?_
    refine y_aload_n dX8_passDay_19 rfl rfl ?_
    refine y_getr dX8_passDay_20 6 clX8 kd_58 (by decide) wm_fl_X8_16 rfl rfl ?_
    refine y_iload_n dX8_passDay_23 rfl rfl ?_
    refine y_iald dX8_passDay_24 j kd_61 rfl (by first | assumption | decide | omega) (by decide) ?_
    refine y_iadd dX8_passDay_25 ?_
    refine y_cS1 dX8_passDay_26 meX8_bounded wm_ml_X8_159 (kX8_bounded) ⟨Nat.le_of_ble_eq_true rfl, Nat.le_of_ble_eq_true rfl⟩ ⟨rfl, rfl⟩ (Nat.le_of_ble_eq_true rfl) (fun v26 μ26 hp26 => ?_)
    obtain ⟨rfl, he26⟩ := hp26
    replace he26 := he26.symm
    subst he26
    refine y_ri ?_
    refine y_iast dX8_passDay_29 j kd_60 rfl (by first | assumption | decide | omega) (by decide) ?_
    refine y_iinc (v := nI (j + 1)) dX8_passDay_30 rfl (nI_i1 _) rfl (by decide) ?_
    refine y_goto 2 dX8_passDay_33 (by decide) ?_
    exact y_eq (μ2 := mset μ 60 (upd a j (bdI (a j + μ 61 j)))) (by simp [mset_mset, mset]) rfl rfl (ih2 _ (itr_nx hj hv2 rfl))

set_option maxRecDepth 100000 in
set_option maxHeartbeats 4000000 in
theorem kX8_feast {l : Launch} {G : GT} {μ : MemT}  : sw_Met l G yX8_feast cX8_feast 2 none (rmk 1 20) [.ref (G.2.1 58)] μ (fun v μ2 => v = none ∧ μ2 = mFeast μ) := by
  refine sw_Met.ofY (by decide) (Nat.le_of_ble_eq_true rfl) rfl ?_
  refine y_iconst (v := nI 0) dX8_feast_0 icn_0 ?_
  refine y_istore_n dX8_feast_1 rfl rfl (by decide) ?_
  refine y_eq (mset_eq (k := 60) (r := μ 60) rfl) rfl rfl ?_
  refine y_loop1 (fun (j : Nat) (a : Nat → Int32) => [some (.ref (G.2.1 58)), some (.int (nI j))]) (fun (j : Nat) (a : Nat → Int32) => mset μ 60 a) (fun (j : Nat) (a : Nat → Int32) => itr (fun p w => upd w p (bdI (w p + 5))) (8 - j) j a = itr (fun p w => upd w p (bdI (w p + 5))) 8 0 (μ 60)) 8 (fun a hv2 => ?_) (fun j a hj hv2 ih2 => ?_) 0 (μ 60) (Nat.zero_le _) (rfl)
  · refine y_iload_n dX8_feast_2 rfl rfl ?_
    refine y_bipush dX8_feast_3 ib_8 ?_
    refine y_icmp_ge 31 dX8_feast_5 (by decide) (fun _ => ?_) (fun hq => absurd (by decide) hq)
    refine y_vret dX8_feast_31 ?_
    exact ⟨rfl, by rw [itr_ex hv2]; rfl⟩
  · refine y_iload_n dX8_feast_2 rfl rfl ?_
    refine y_bipush dX8_feast_3 ib_8 ?_
    refine y_icmp_ge 31 dX8_feast_5 (by decide) (fun hq => absurd hq (nI_ge (b := 8) hj (by decide))) (fun _ => ?_)
    refine y_aload_n dX8_feast_8 rfl rfl ?_
    refine y_getr dX8_feast_9 5 clX8 kd_58 (by decide) wm_fl_X8_13 rfl rfl ?_
    refine y_iload_n dX8_feast_12 rfl rfl ?_
    refine y_aload_n dX8_feast_13 rfl rfl ?_
    refine y_getr dX8_feast_14 5 clX8 kd_58 (by decide) wm_fl_X8_13 rfl rfl ?_
    refine y_iload_n dX8_feast_17 rfl rfl ?_
    refine y_iald dX8_feast_18 j kd_60 rfl (by first | assumption | decide | omega) (by decide) ?_
    refine y_iconst dX8_feast_19 ic_5 ?_
    refine y_iadd dX8_feast_20 ?_
    refine y_cS1 dX8_feast_21 meX8_bounded wm_ml_X8_159 (kX8_bounded) ⟨Nat.le_of_ble_eq_true rfl, Nat.le_of_ble_eq_true rfl⟩ ⟨rfl, rfl⟩ (Nat.le_of_ble_eq_true rfl) (fun v21 μ21 hp21 => ?_)
    obtain ⟨rfl, he21⟩ := hp21
    replace he21 := he21.symm
    subst he21
    refine y_ri ?_
    refine y_iast dX8_feast_24 j kd_60 rfl (by first | assumption | decide | omega) (by decide) ?_
    refine y_iinc (v := nI (j + 1)) dX8_feast_25 rfl (nI_i1 _) rfl (by decide) ?_
    refine y_goto 2 dX8_feast_28 (by decide) ?_
    exact y_eq (μ2 := mset μ 60 (upd a j (bdI (a j + 5)))) (by simp [mset_mset, mset]) rfl rfl (ih2 _ (itr_nx hj hv2 rfl))

set_option maxRecDepth 100000 in
set_option maxHeartbeats 4000000 in
theorem kX8_keepNow {l : Launch} {G : GT} {μ : MemT}  : sw_Met l G yX8_keepNow cX8_keepNow 2 none (rmk 0 0) [.ref (G.2.1 58)] μ (fun v μ2 => v = none ∧ μ2 = mKeep μ) := by
  refine sw_Met.ofY (by decide) (Nat.le_of_ble_eq_true rfl) rfl ?_
  refine y_iconst (v := nI 0) dX8_keepNow_0 icn_0 ?_
  refine y_istore_n dX8_keepNow_1 rfl rfl (by decide) ?_
  refine y_eq (mset_eq (k := 71) (r := μ 71) rfl) rfl rfl ?_
  refine y_loop1 (fun (j : Nat) (a : Nat → Int32) => [some (.ref (G.2.1 58)), some (.int (nI j))]) (fun (j : Nat) (a : Nat → Int32) => mset μ 71 a) (fun (j : Nat) (a : Nat → Int32) => itr (fun p h => upd h p (μ 60 p)) (8 - j) j a = itr (fun p h => upd h p (μ 60 p)) 8 0 (μ 71)) 8 (fun a hv2 => ?_) (fun j a hj hv2 ih2 => ?_) 0 (μ 71) (Nat.zero_le _) (rfl)
  · refine y_iload_n dX8_keepNow_2 rfl rfl ?_
    refine y_bipush dX8_keepNow_3 ib_8 ?_
    refine y_icmp_ge 26 dX8_keepNow_5 (by decide) (fun _ => ?_) (fun hq => absurd (by decide) hq)
    refine y_aload_n dX8_keepNow_26 rfl rfl ?_
    refine y_aload_n dX8_keepNow_27 rfl rfl ?_
    refine y_geti dX8_keepNow_28 1 clX8 kd_58 (by decide) wm_fl_X8_88 rfl rfl ?_
    refine y_puti dX8_keepNow_31 24 clX8 kd_58 (by decide) wm_fl_X8_192 rfl rfl rfl rfl (tyX8_ok 24 (by decide)) rfl rfl ?_
    refine y_aload_n dX8_keepNow_34 rfl rfl ?_
    refine y_aload_n dX8_keepNow_35 rfl rfl ?_
    refine y_geti dX8_keepNow_36 3 clX8 kd_58 (by decide) wm_fl_X8_162 rfl rfl ?_
    refine y_puti dX8_keepNow_39 25 clX8 kd_58 (by decide) wm_fl_X8_195 rfl rfl rfl rfl (tyX8_ok 25 (by decide)) rfl rfl ?_
    refine y_vret dX8_keepNow_42 ?_
    exact ⟨rfl, by rw [itr_ex hv2]; simp only [mKeep, mset_mset, mset_self]; rfl⟩
  · refine y_iload_n dX8_keepNow_2 rfl rfl ?_
    refine y_bipush dX8_keepNow_3 ib_8 ?_
    refine y_icmp_ge 26 dX8_keepNow_5 (by decide) (fun hq => absurd hq (nI_ge (b := 8) hj (by decide))) (fun _ => ?_)
    refine y_aload_n dX8_keepNow_8 rfl rfl ?_
    refine y_getr dX8_keepNow_9 23 clX8 kd_58 (by decide) wm_fl_X8_46 rfl rfl ?_
    refine y_iload_n dX8_keepNow_12 rfl rfl ?_
    refine y_aload_n dX8_keepNow_13 rfl rfl ?_
    refine y_getr dX8_keepNow_14 5 clX8 kd_58 (by decide) wm_fl_X8_13 rfl rfl ?_
    refine y_iload_n dX8_keepNow_17 rfl rfl ?_
    refine y_iald dX8_keepNow_18 j kd_60 rfl (by first | assumption | decide | omega) (by decide) ?_
    refine y_iast dX8_keepNow_19 j kd_71 rfl (by first | assumption | decide | omega) (by decide) ?_
    refine y_iinc (v := nI (j + 1)) dX8_keepNow_20 rfl (nI_i1 _) rfl (by decide) ?_
    refine y_goto 2 dX8_keepNow_23 (by decide) ?_
    exact y_eq (μ2 := mset μ 71 (upd a j (μ 60 j))) (by simp [mset_mset, mset]) rfl rfl (ih2 _ (itr_nx hj hv2 rfl))

set_option maxRecDepth 100000 in
set_option maxHeartbeats 4000000 in
theorem kX8_putBack {l : Launch} {G : GT} {μ : MemT}  : sw_Met l G yX8_putBack cX8_putBack 2 none (rmk 0 0) [.ref (G.2.1 58)] μ (fun v μ2 => v = none ∧ μ2 = mBack μ) := by
  refine sw_Met.ofY (by decide) (Nat.le_of_ble_eq_true rfl) rfl ?_
  refine y_iconst (v := nI 0) dX8_putBack_0 icn_0 ?_
  refine y_istore_n dX8_putBack_1 rfl rfl (by decide) ?_
  refine y_eq (mset_eq (k := 60) (r := μ 60) rfl) rfl rfl ?_
  refine y_loop1 (fun (j : Nat) (a : Nat → Int32) => [some (.ref (G.2.1 58)), some (.int (nI j))]) (fun (j : Nat) (a : Nat → Int32) => mset μ 60 a) (fun (j : Nat) (a : Nat → Int32) => itr (fun p h => upd h p (μ 71 p)) (8 - j) j a = itr (fun p h => upd h p (μ 71 p)) 8 0 (μ 60)) 8 (fun a hv2 => ?_) (fun j a hj hv2 ih2 => ?_) 0 (μ 60) (Nat.zero_le _) (rfl)
  · refine y_iload_n dX8_putBack_2 rfl rfl ?_
    refine y_bipush dX8_putBack_3 ib_8 ?_
    refine y_icmp_ge 26 dX8_putBack_5 (by decide) (fun _ => ?_) (fun hq => absurd (by decide) hq)
    refine y_aload_n dX8_putBack_26 rfl rfl ?_
    refine y_aload_n dX8_putBack_27 rfl rfl ?_
    refine y_geti dX8_putBack_28 24 clX8 kd_58 (by decide) wm_fl_X8_192 rfl rfl ?_
    refine y_puti dX8_putBack_31 1 clX8 kd_58 (by decide) wm_fl_X8_88 rfl rfl rfl rfl (tyX8_ok 1 (by decide)) rfl rfl ?_
    refine y_aload_n dX8_putBack_34 rfl rfl ?_
    refine y_aload_n dX8_putBack_35 rfl rfl ?_
    refine y_geti dX8_putBack_36 25 clX8 kd_58 (by decide) wm_fl_X8_195 rfl rfl ?_
    refine y_puti dX8_putBack_39 3 clX8 kd_58 (by decide) wm_fl_X8_162 rfl rfl rfl rfl (tyX8_ok 3 (by decide)) rfl rfl ?_
    refine y_vret dX8_putBack_42 ?_
    exact ⟨rfl, by rw [itr_ex hv2]; simp only [mBack, mset_mset, mset_self]; rfl⟩
  · refine y_iload_n dX8_putBack_2 rfl rfl ?_
    refine y_bipush dX8_putBack_3 ib_8 ?_
    refine y_icmp_ge 26 dX8_putBack_5 (by decide) (fun hq => absurd hq (nI_ge (b := 8) hj (by decide))) (fun _ => ?_)
    refine y_aload_n dX8_putBack_8 rfl rfl ?_
    refine y_getr dX8_putBack_9 5 clX8 kd_58 (by decide) wm_fl_X8_13 rfl rfl ?_
    refine y_iload_n dX8_putBack_12 rfl rfl ?_
    refine y_aload_n dX8_putBack_13 rfl rfl ?_
    refine y_getr dX8_putBack_14 23 clX8 kd_58 (by decide) wm_fl_X8_46 rfl rfl ?_
    refine y_iload_n dX8_putBack_17 rfl rfl ?_
    refine y_iald dX8_putBack_18 j kd_71 rfl (by first | assumption | decide | omega) (by decide) ?_
    refine y_iast dX8_putBack_19 j kd_60 rfl (by first | assumption | decide | omega) (by decide) ?_
    refine y_iinc (v := nI (j + 1)) dX8_putBack_20 rfl (nI_i1 _) rfl (by decide) ?_
    refine y_goto 2 dX8_putBack_23 (by decide) ?_
    exact y_eq (μ2 := mset μ 60 (upd a j (μ 71 j))) (by simp [mset_mset, mset]) rfl rfl (ih2 _ (itr_nx hj hv2 rfl))

set_option maxRecDepth 100000 in
set_option maxHeartbeats 4000000 in
theorem kX8_whyNot {l : Launch} {G : GT} {μ : MemT} {k : Nat} (hk : k < 60) : sw_Met l G yX8_whyNot cX8_whyNot 2 (some .int) (rmk 1 23) [.ref (G.2.1 58), .int (nI k)] μ (fun v μ2 => v = some (.int (wnM k μ)) ∧ μ2 = μ) := by
  refine sw_Met.ofY (by decide) (Nat.le_of_ble_eq_true rfl) rfl ?_
  refine y_aload_n dX8_whyNot_0 rfl rfl ?_
  refine y_getr dX8_whyNot_1 14 clX8 kd_58 (by decide) wm_fl_X8_34 rfl rfl ?_
  refine y_iload_n dX8_whyNot_4 rfl rfl ?_
  refine y_iald dX8_whyNot_5 k kd_67 rfl hk (by decide) ?_
  refine y_iconst dX8_whyNot_6 ic_1 ?_
  refine y_icmp_eq 20 dX8_whyNot_7 (by decide) (fun h7 => ?_) (fun h7 => ?_)
  · refine y_iconst dX8_whyNot_20 ic_0 ?_
    refine y_iret dX8_whyNot_21 ?_
    refine ⟨?_, rfl⟩
    simp_all [-Int32.not_lt, -Int32.not_le, wnM, subI]
  · refine y_aload_n dX8_whyNot_10 rfl rfl ?_
    refine y_getr dX8_whyNot_11 14 clX8 kd_58 (by decide) wm_fl_X8_34 rfl rfl ?_
    refine y_iload_n dX8_whyNot_14 rfl rfl ?_
    refine y_iald dX8_whyNot_15 k kd_67 rfl hk (by decide) ?_
    refine y_iconst dX8_whyNot_16 ic_2 ?_
    refine y_icmp_ne 22 dX8_whyNot_17 (by decide) (fun h17 => ?_) (fun h17 => ?_)
    · refine y_aload_n dX8_whyNot_22 rfl rfl ?_
      refine y_getr dX8_whyNot_23 15 clX8 kd_58 (by decide) wm_fl_X8_37 rfl rfl ?_
      refine y_iload_n dX8_whyNot_26 rfl rfl ?_
      refine y_iald dX8_whyNot_27 k kd_68 rfl hk (by decide) ?_
      refine y_aload_n dX8_whyNot_28 rfl rfl ?_
      refine y_getr dX8_whyNot_29 16 clX8 kd_58 (by decide) wm_fl_X8_40 rfl rfl ?_
      refine y_iload_n dX8_whyNot_32 rfl rfl ?_
      refine y_iald dX8_whyNot_33 k kd_69 rfl hk (by decide) ?_
      refine y_ior dX8_whyNot_34 ?_
      refine y_aload_n dX8_whyNot_35 rfl rfl ?_
      refine y_geti dX8_whyNot_36 0 clX8 kd_58 (by decide) wm_fl_X8_81 rfl rfl ?_
      refine y_iconst dX8_whyNot_39 ic_m1 ?_
      refine y_ixor dX8_whyNot_40 ?_
      refine y_iand dX8_whyNot_41 ?_
      refine y_if_eq 47 dX8_whyNot_42 (by decide) (fun h42 => ?_) (fun h42 => ?_)
      · refine y_aload_n dX8_whyNot_47 rfl rfl ?_
        refine y_getr dX8_whyNot_48 14 clX8 kd_58 (by decide) wm_fl_X8_34 rfl rfl ?_
        refine y_iload_n dX8_whyNot_51 rfl rfl ?_
        refine y_iald dX8_whyNot_52 k kd_67 rfl hk (by decide) ?_
        refine y_iconst dX8_whyNot_53 ic_3 ?_
        refine y_icmp_ne 59 dX8_whyNot_54 (by decide) (fun h54 => ?_) (fun h54 => ?_)
        · refine y_aload_n dX8_whyNot_59 rfl rfl ?_
          refine y_getr dX8_whyNot_60 17 clX8 kd_58 (by decide) wm_fl_X8_43 rfl rfl ?_
          refine y_iload_n dX8_whyNot_63 rfl rfl ?_
          refine y_iald dX8_whyNot_64 k kd_70 rfl hk (by decide) ?_
          refine y_if_eq 70 dX8_whyNot_65 (by decide) (fun h65 => ?_) (fun h65 => ?_)
          · refine y_aload_n dX8_whyNot_70 rfl rfl ?_
            refine y_aload_n dX8_whyNot_71 rfl rfl ?_
            refine y_getr dX8_whyNot_72 15 clX8 kd_58 (by decide) wm_fl_X8_37 rfl rfl ?_
            refine y_iload_n dX8_whyNot_75 rfl rfl ?_
            refine y_iald dX8_whyNot_76 k kd_68 rfl hk (by decide) ?_
            refine y_cV1 dX8_whyNot_77 meX8_areTogether clX8 kd_58 wm_ml_X8_153 (kX8_areTogether) ⟨Nat.le_of_ble_eq_true rfl, Nat.le_of_ble_eq_true rfl⟩ ⟨rfl, rfl⟩ (Nat.le_of_ble_eq_true rfl) (fun v77 μ77 hp77 => ?_)
            obtain ⟨rfl, he77⟩ := hp77
            replace he77 := he77.symm
            subst he77
            refine y_ri ?_
            refine y_ifb_eq 96 dX8_whyNot_80 (by decide) (fun h80 => ?_) (fun h80 => ?_)
            · refine y_iconst dX8_whyNot_96 ic_3 ?_
              refine y_iret dX8_whyNot_97 ?_
              refine ⟨?_, rfl⟩
              simp_all [-Int32.not_lt, -Int32.not_le, wnM, subI]
            · refine y_aload_n dX8_whyNot_83 rfl rfl ?_
              refine y_aload_n dX8_whyNot_84 rfl rfl ?_
              refine y_getr dX8_whyNot_85 16 clX8 kd_58 (by decide) wm_fl_X8_40 rfl rfl ?_
              refine y_iload_n dX8_whyNot_88 rfl rfl ?_
              refine y_iald dX8_whyNot_89 k kd_69 rfl hk (by decide) ?_
              refine y_cV1 dX8_whyNot_90 meX8_areTogether clX8 kd_58 wm_ml_X8_153 (kX8_areTogether) ⟨Nat.le_of_ble_eq_true rfl, Nat.le_of_ble_eq_true rfl⟩ ⟨rfl, rfl⟩ (Nat.le_of_ble_eq_true rfl) (fun v90 μ90 hp90 => ?_)
              obtain ⟨rfl, he90⟩ := hp90
              replace he90 := he90.symm
              subst he90
              refine y_ri ?_
              refine y_ifb_ne 98 dX8_whyNot_93 (by decide) (fun h93 => ?_) (fun h93 => ?_)
              · refine y_aload_n dX8_whyNot_98 rfl rfl ?_
                refine y_aload_n dX8_whyNot_99 rfl rfl ?_
                refine y_getr dX8_whyNot_100 16 clX8 kd_58 (by decide) wm_fl_X8_40 rfl rfl ?_
                refine y_iload_n dX8_whyNot_103 rfl rfl ?_
                refine y_iald dX8_whyNot_104 k kd_69 rfl hk (by decide) ?_
                refine y_cV1 dX8_whyNot_105 meX8_swornOf clX8 kd_58 wm_ml_X8_156 (kX8_swornOf) ⟨Nat.le_of_ble_eq_true rfl, Nat.le_of_ble_eq_true rfl⟩ ⟨rfl, rfl⟩ (Nat.le_of_ble_eq_true rfl) (fun v105 μ105 hp105 => ?_)
                obtain ⟨rfl, he105⟩ := hp105
                replace he105 := he105.symm
                subst he105
                refine y_ri ?_
                refine y_aload_n dX8_whyNot_108 rfl rfl ?_
                refine y_aload_n dX8_whyNot_109 rfl rfl ?_
                refine y_getr dX8_whyNot_110 15 clX8 kd_58 (by decide) wm_fl_X8_37 rfl rfl ?_
                refine y_iload_n dX8_whyNot_113 rfl rfl ?_
                refine y_iald dX8_whyNot_114 k kd_68 rfl hk (by decide) ?_
                refine y_cV1 dX8_whyNot_115 meX8_swornOf clX8 kd_58 wm_ml_X8_156 (kX8_swornOf) ⟨Nat.le_of_ble_eq_true rfl, Nat.le_of_ble_eq_true rfl⟩ ⟨rfl, rfl⟩ (Nat.le_of_ble_eq_true rfl) (fun v115 μ115 hp115 => ?_)
                obtain ⟨rfl, he115⟩ := hp115
                replace he115 := he115.symm
                subst he115
                refine y_ri ?_
                refine y_icmp_gt 125 dX8_whyNot_118 (by decide) (fun h118 => ?_) (fun h118 => ?_)
                · refine y_iconst dX8_whyNot_125 ic_0 ?_
                  refine y_iret dX8_whyNot_126 ?_
                  refine ⟨?_, rfl⟩
                  simp_all [-Int32.not_lt, -Int32.not_le, wnM, subI]
                · refine y_iconst dX8_whyNot_121 ic_4 ?_
                  refine y_goto 126 dX8_whyNot_122 (by decide) ?_
                  refine y_iret dX8_whyNot_126 ?_
                  refine ⟨?_, rfl⟩
                  simp_all [-Int32.not_lt, -Int32.not_le, wnM, subI]
              · refine y_iconst dX8_whyNot_96 ic_3 ?_
                refine y_iret dX8_whyNot_97 ?_
                refine ⟨?_, rfl⟩
                simp_all [-Int32.not_lt, -Int32.not_le, wnM, subI]
          · refine y_iconst dX8_whyNot_68 ic_2 ?_
            refine y_iret dX8_whyNot_69 ?_
            refine ⟨?_, rfl⟩
            simp_all [-Int32.not_lt, -Int32.not_le, wnM, subI]
        · refine y_iconst dX8_whyNot_57 ic_0 ?_
          refine y_iret dX8_whyNot_58 ?_
          refine ⟨?_, rfl⟩
          simp_all [-Int32.not_lt, -Int32.not_le, wnM, subI]
      · refine y_iconst dX8_whyNot_45 ic_1 ?_
        refine y_iret dX8_whyNot_46 ?_
        refine ⟨?_, rfl⟩
        simp_all [-Int32.not_lt, -Int32.not_le, wnM, subI]
    · refine y_iconst dX8_whyNot_20 ic_0 ?_
      refine y_iret dX8_whyNot_21 ?_
      refine ⟨?_, rfl⟩
      simp_all [-Int32.not_lt, -Int32.not_le, wnM, subI]

set_option maxRecDepth 100000 in
set_option maxHeartbeats 4000000 in
theorem kX8_sell {l : Launch} {G : GT} {μ : MemT} {k : Nat} (hk : k < 60) : sw_Met l G yX8_sell cX8_sell 4 none (rmk 2 44) [.ref (G.2.1 58), .int (nI k)] μ (fun v μ2 => v = none ∧ μ2 = slM k μ) := by
  refine sw_Met.ofY (by decide) (Nat.le_of_ble_eq_true rfl) rfl ?_
  refine y_aload_n dX8_sell_0 rfl rfl ?_
  refine y_aload_n dX8_sell_1 rfl rfl ?_
  refine y_getr dX8_sell_2 16 clX8 kd_58 (by decide) wm_fl_X8_40 rfl rfl ?_
  refine y_iload_n dX8_sell_5 rfl rfl ?_
  refine y_iald dX8_sell_6 k kd_69 rfl hk (by decide) ?_
  refine y_cV1 dX8_sell_7 meX8_swornOf clX8 kd_58 wm_ml_X8_156 (kX8_swornOf) ⟨Nat.le_of_ble_eq_true rfl, Nat.le_of_ble_eq_true rfl⟩ ⟨rfl, rfl⟩ (Nat.le_of_ble_eq_true rfl) (fun v7 μ7 hp7 => ?_)
  obtain ⟨rfl, he7⟩ := hp7
  replace he7 := he7.symm
  subst he7
  refine y_ri ?_
  refine y_aload_n dX8_sell_10 rfl rfl ?_
  refine y_aload_n dX8_sell_11 rfl rfl ?_
  refine y_getr dX8_sell_12 15 clX8 kd_58 (by decide) wm_fl_X8_37 rfl rfl ?_
  refine y_iload_n dX8_sell_15 rfl rfl ?_
  refine y_iald dX8_sell_16 k kd_68 rfl hk (by decide) ?_
  refine y_cV1 dX8_sell_17 meX8_swornOf clX8 kd_58 wm_ml_X8_156 (kX8_swornOf) ⟨Nat.le_of_ble_eq_true rfl, Nat.le_of_ble_eq_true rfl⟩ ⟨rfl, rfl⟩ (Nat.le_of_ble_eq_true rfl) (fun v17 μ17 hp17 => ?_)
  obtain ⟨rfl, he17⟩ := hp17
  replace he17 := he17.symm
  subst he17
  refine y_ri ?_
  refine y_isub dX8_sell_20 ?_
  refine y_istore_n dX8_sell_21 rfl rfl (by decide) ?_
  refine y_aload_n dX8_sell_22 rfl rfl ?_
  refine y_aload_n dX8_sell_23 rfl rfl ?_
  refine y_getr dX8_sell_24 16 clX8 kd_58 (by decide) wm_fl_X8_40 rfl rfl ?_
  refine y_iload_n dX8_sell_27 rfl rfl ?_
  refine y_iald dX8_sell_28 k kd_69 rfl hk (by decide) ?_
  refine y_cV1 dX8_sell_29 meX8_poundsOf clX8 kd_58 wm_ml_X8_165 (kX8_poundsOf) ⟨Nat.le_of_ble_eq_true rfl, Nat.le_of_ble_eq_true rfl⟩ ⟨rfl, rfl⟩ (Nat.le_of_ble_eq_true rfl) (fun v29 μ29 hp29 => ?_)
  obtain ⟨rfl, he29⟩ := hp29
  replace he29 := he29.symm
  subst he29
  refine y_ri ?_
  refine y_aload_n dX8_sell_32 rfl rfl ?_
  refine y_aload_n dX8_sell_33 rfl rfl ?_
  refine y_getr dX8_sell_34 15 clX8 kd_58 (by decide) wm_fl_X8_37 rfl rfl ?_
  refine y_iload_n dX8_sell_37 rfl rfl ?_
  refine y_iald dX8_sell_38 k kd_68 rfl hk (by decide) ?_
  refine y_cV1 dX8_sell_39 meX8_poundsOf clX8 kd_58 wm_ml_X8_165 (kX8_poundsOf) ⟨Nat.le_of_ble_eq_true rfl, Nat.le_of_ble_eq_true rfl⟩ ⟨rfl, rfl⟩ (Nat.le_of_ble_eq_true rfl) (fun v39 μ39 hp39 => ?_)
  obtain ⟨rfl, he39⟩ := hp39
  replace he39 := he39.symm
  subst he39
  refine y_ri ?_
  refine y_isub dX8_sell_42 ?_
  refine y_istore_n dX8_sell_43 rfl rfl (by decide) ?_
  refine y_iload_n dX8_sell_44 rfl rfl ?_
  refine y_if_ge 52 dX8_sell_45 (by decide) (fun h45 => ?_) (fun h45 => ?_)
  · refine y_iload_n dX8_sell_52 rfl rfl ?_
    refine y_istore_n dX8_sell_53 rfl rfl (by decide) ?_
    refine y_aload_n dX8_sell_54 rfl rfl ?_
    refine y_dup dX8_sell_55 rfl ?_
    refine y_geti dX8_sell_56 19 clX8 kd_58 (by decide) wm_fl_X8_168 rfl rfl ?_
    refine y_iconst dX8_sell_59 ic_1 ?_
    refine y_iadd dX8_sell_60 ?_
    refine y_puti dX8_sell_61 19 clX8 kd_58 (by decide) wm_fl_X8_168 rfl rfl rfl rfl (tyX8_ok 19 (by decide)) rfl rfl ?_
    refine y_aload_n dX8_sell_64 rfl rfl ?_
    refine y_dup dX8_sell_65 rfl ?_
    refine y_geti dX8_sell_66 20 clX8 kd_58 (by decide) wm_fl_X8_171 rfl rfl ?_
    refine y_iload_n dX8_sell_69 rfl rfl ?_
    refine y_iadd dX8_sell_70 ?_
    refine y_puti dX8_sell_71 20 clX8 kd_58 (by decide) wm_fl_X8_171 rfl rfl rfl rfl (tyX8_ok 20 (by decide)) rfl rfl ?_
    refine y_aload_n dX8_sell_74 rfl rfl ?_
    refine y_dup dX8_sell_75 rfl ?_
    refine y_geti dX8_sell_76 21 clX8 kd_58 (by decide) wm_fl_X8_174 rfl rfl ?_
    refine y_iload_n dX8_sell_79 rfl rfl ?_
    refine y_iadd dX8_sell_80 ?_
    refine y_puti dX8_sell_81 21 clX8 kd_58 (by decide) wm_fl_X8_174 rfl rfl rfl rfl (tyX8_ok 21 (by decide)) rfl rfl ?_
    refine y_aload_n dX8_sell_84 rfl rfl ?_
    refine y_aload_n dX8_sell_85 rfl rfl ?_
    refine y_geti dX8_sell_86 22 clX8 kd_58 (by decide) wm_fl_X8_177 rfl rfl ?_
    refine y_if_ge 109 dX8_sell_89 (by decide) (fun h89 => ?_) (fun h89 => ?_)
    · refine y_aload_n dX8_sell_109 rfl rfl ?_
      refine y_geti dX8_sell_110 22 clX8 kd_58 (by decide) wm_fl_X8_177 rfl rfl ?_
      refine y_puti dX8_sell_113 22 clX8 kd_58 (by decide) wm_fl_X8_177 rfl rfl rfl rfl (tyX8_ok 22 (by decide)) rfl rfl ?_
      refine y_vret dX8_sell_116 ?_
      refine ⟨rfl, ?_⟩
      simp_all [-Int32.not_lt, -Int32.not_le, slM, asK, isK, mset_mset, mset, upd]
    · refine y_iload_n dX8_sell_92 rfl rfl ?_
      refine y_iload_n dX8_sell_93 rfl rfl ?_
      refine y_isub dX8_sell_94 ?_
      refine y_cS1 dX8_sell_95 meX8_size wm_ml_X8_180 (kX8_size) ⟨Nat.le_of_ble_eq_true rfl, Nat.le_of_ble_eq_true rfl⟩ ⟨rfl, rfl⟩ (Nat.le_of_ble_eq_true rfl) (fun v95 μ95 hp95 => ?_)
      obtain ⟨rfl, he95⟩ := hp95
      replace he95 := he95.symm
      subst he95
      refine y_ri ?_
      refine y_aload_n dX8_sell_98 rfl rfl ?_
      refine y_geti dX8_sell_99 2 clX8 kd_58 (by decide) wm_fl_X8_71 rfl rfl ?_
      refine y_icmp_le 109 dX8_sell_102 (by decide) (fun h102 => ?_) (fun h102 => ?_)
      · refine y_aload_n dX8_sell_109 rfl rfl ?_
        refine y_geti dX8_sell_110 22 clX8 kd_58 (by decide) wm_fl_X8_177 rfl rfl ?_
        refine y_puti dX8_sell_113 22 clX8 kd_58 (by decide) wm_fl_X8_177 rfl rfl rfl rfl (tyX8_ok 22 (by decide)) rfl rfl ?_
        refine y_vret dX8_sell_116 ?_
        refine ⟨rfl, ?_⟩
        simp_all [-Int32.not_lt, -Int32.not_le, slM, asK, isK, mset_mset, mset, upd]
      · refine y_iload_n dX8_sell_105 rfl rfl ?_
        refine y_goto 113 dX8_sell_106 (by decide) ?_
        refine y_puti dX8_sell_113 22 clX8 kd_58 (by decide) wm_fl_X8_177 rfl rfl rfl rfl (tyX8_ok 22 (by decide)) rfl rfl ?_
        refine y_vret dX8_sell_116 ?_
        refine ⟨rfl, ?_⟩
        simp_all [-Int32.not_lt, -Int32.not_le, slM, asK, isK, mset_mset, mset, upd]
  · refine y_iconst dX8_sell_48 ic_0 ?_
    refine y_goto 53 dX8_sell_49 (by decide) ?_
    refine y_istore_n dX8_sell_53 rfl rfl (by decide) ?_
    refine y_aload_n dX8_sell_54 rfl rfl ?_
    refine y_dup dX8_sell_55 rfl ?_
    refine y_geti dX8_sell_56 19 clX8 kd_58 (by decide) wm_fl_X8_168 rfl rfl ?_
    refine y_iconst dX8_sell_59 ic_1 ?_
    refine y_iadd dX8_sell_60 ?_
    refine y_puti dX8_sell_61 19 clX8 kd_58 (by decide) wm_fl_X8_168 rfl rfl rfl rfl (tyX8_ok 19 (by decide)) rfl rfl ?_
    refine y_aload_n dX8_sell_64 rfl rfl ?_
    refine y_dup dX8_sell_65 rfl ?_
    refine y_geti dX8_sell_66 20 clX8 kd_58 (by decide) wm_fl_X8_171 rfl rfl ?_
    refine y_iload_n dX8_sell_69 rfl rfl ?_
    refine y_iadd dX8_sell_70 ?_
    refine y_puti dX8_sell_71 20 clX8 kd_58 (by decide) wm_fl_X8_171 rfl rfl rfl rfl (tyX8_ok 20 (by decide)) rfl rfl ?_
    refine y_aload_n dX8_sell_74 rfl rfl ?_
    refine y_dup dX8_sell_75 rfl ?_
    refine y_geti dX8_sell_76 21 clX8 kd_58 (by decide) wm_fl_X8_174 rfl rfl ?_
    refine y_iload_n dX8_sell_79 rfl rfl ?_
    refine y_iadd dX8_sell_80 ?_
    refine y_puti dX8_sell_81 21 clX8 kd_58 (by decide) wm_fl_X8_174 rfl rfl rfl rfl (tyX8_ok 21 (by decide)) rfl rfl ?_
    refine y_aload_n dX8_sell_84 rfl rfl ?_
    refine y_aload_n dX8_sell_85 rfl rfl ?_
    refine y_geti dX8_sell_86 22 clX8 kd_58 (by decide) wm_fl_X8_177 rfl rfl ?_
    refine y_if_ge 109 dX8_sell_89 (by decide) (fun h89 => ?_) (fun h89 => ?_)
    · refine y_aload_n dX8_sell_109 rfl rfl ?_
      refine y_geti dX8_sell_110 22 clX8 kd_58 (by decide) wm_fl_X8_177 rfl rfl ?_
      refine y_puti dX8_sell_113 22 clX8 kd_58 (by decide) wm_fl_X8_177 rfl rfl rfl rfl (tyX8_ok 22 (by decide)) rfl rfl ?_
      refine y_vret dX8_sell_116 ?_
      refine ⟨rfl, ?_⟩
      simp_all [-Int32.not_lt, -Int32.not_le, slM, asK, isK, mset_mset, mset, upd]
    · refine y_iload_n dX8_sell_92 rfl rfl ?_
      refine y_iload_n dX8_sell_93 rfl rfl ?_
      refine y_isub dX8_sell_94 ?_
      refine y_cS1 dX8_sell_95 meX8_size wm_ml_X8_180 (kX8_size) ⟨Nat.le_of_ble_eq_true rfl, Nat.le_of_ble_eq_true rfl⟩ ⟨rfl, rfl⟩ (Nat.le_of_ble_eq_true rfl) (fun v95 μ95 hp95 => ?_)
      obtain ⟨rfl, he95⟩ := hp95
      replace he95 := he95.symm
      subst he95
      refine y_ri ?_
      refine y_aload_n dX8_sell_98 rfl rfl ?_
      refine y_geti dX8_sell_99 2 clX8 kd_58 (by decide) wm_fl_X8_71 rfl rfl ?_
      refine y_icmp_le 109 dX8_sell_102 (by decide) (fun h102 => ?_) (fun h102 => ?_)
      · refine y_aload_n dX8_sell_109 rfl rfl ?_
        refine y_geti dX8_sell_110 22 clX8 kd_58 (by decide) wm_fl_X8_177 rfl rfl ?_
        refine y_puti dX8_sell_113 22 clX8 kd_58 (by decide) wm_fl_X8_177 rfl rfl rfl rfl (tyX8_ok 22 (by decide)) rfl rfl ?_
        refine y_vret dX8_sell_116 ?_
        refine ⟨rfl, ?_⟩
        simp_all [-Int32.not_lt, -Int32.not_le, slM, asK, isK, mset_mset, mset, upd]
      · refine y_iload_n dX8_sell_105 rfl rfl ?_
        refine y_goto 113 dX8_sell_106 (by decide) ?_
        refine y_puti dX8_sell_113 22 clX8 kd_58 (by decide) wm_fl_X8_177 rfl rfl rfl rfl (tyX8_ok 22 (by decide)) rfl rfl ?_
        refine y_vret dX8_sell_116 ?_
        refine ⟨rfl, ?_⟩
        simp_all [-Int32.not_lt, -Int32.not_le, slM, asK, isK, mset_mset, mset, upd]

set_option maxRecDepth 100000 in
set_option maxHeartbeats 4000000 in
theorem kX8_happen {l : Launch} {G : GT} {μ : MemT} {k : Nat} (hk : k < 60) : sw_Met l G yX8_happen cX8_happen 2 none (rmk 3 67) [.ref (G.2.1 58), .int (nI k)] μ (fun v μ2 => v = none ∧ μ2 = hpM k μ) := by
  refine sw_Met.ofY (by decide) (Nat.le_of_ble_eq_true rfl) rfl ?_
  refine y_aload_n dX8_happen_0 rfl rfl ?_
  refine y_getr dX8_happen_1 14 clX8 kd_58 (by decide) wm_fl_X8_34 rfl rfl ?_
  refine y_iload_n dX8_happen_4 rfl rfl ?_
  refine y_iald dX8_happen_5 k kd_67 rfl hk (by decide) ?_
  refine y_case 0 (fun hs6 => ?_) (fun hn6_0 => ?_)
  · refine y_tableIn 32 dX8_happen_6 (by decide) (by decide) rfl (by decide) ?_
    refine y_aload_n dX8_happen_32 rfl rfl ?_
    refine y_iload_n dX8_happen_33 rfl rfl ?_
    refine y_cV1 dX8_happen_34 meX8_sell clX8 kd_58 wm_ml_X8_183 (kX8_sell (by first | assumption | omega)) ⟨Nat.le_of_ble_eq_true rfl, Nat.le_of_ble_eq_true rfl⟩ ⟨rfl, rfl⟩ (Nat.le_of_ble_eq_true rfl) (fun v34 μ34 hp34 => ?_)
    obtain ⟨rfl, he34⟩ := hp34
    replace he34 := he34.symm
    subst he34
    refine y_rv ?_
    refine y_goto 69 dX8_happen_37 (by decide) ?_
    refine y_vret dX8_happen_69 ?_
    exact ⟨rfl, by simp_all [hpM]⟩
  refine y_case 1 (fun hs6 => ?_) (fun hn6_1 => ?_)
  · refine y_tableIn 40 dX8_happen_6 (by decide) (by decide) rfl (by decide) ?_
    refine y_aload_n dX8_happen_40 rfl rfl ?_
    refine y_cV0 dX8_happen_41 meX8_passDay clX8 kd_58 wm_ml_X8_186 (kX8_passDay) ⟨Nat.le_of_ble_eq_true rfl, Nat.le_of_ble_eq_true rfl⟩ ⟨rfl, rfl⟩ (Nat.le_of_ble_eq_true rfl) (fun v41 μ41 hp41 => ?_)
    obtain ⟨rfl, he41⟩ := hp41
    replace he41 := he41.symm
    subst he41
    refine y_rv ?_
    refine y_goto 69 dX8_happen_44 (by decide) ?_
    refine y_vret dX8_happen_69 ?_
    exact ⟨rfl, by simp_all [hpM]⟩
  refine y_case 2 (fun hs6 => ?_) (fun hn6_2 => ?_)
  · refine y_tableIn 47 dX8_happen_6 (by decide) (by decide) rfl (by decide) ?_
    refine y_aload_n dX8_happen_47 rfl rfl ?_
    refine y_cV0 dX8_happen_48 meX8_feast clX8 kd_58 wm_ml_X8_189 (kX8_feast) ⟨Nat.le_of_ble_eq_true rfl, Nat.le_of_ble_eq_true rfl⟩ ⟨rfl, rfl⟩ (Nat.le_of_ble_eq_true rfl) (fun v48 μ48 hp48 => ?_)
    obtain ⟨rfl, he48⟩ := hp48
    replace he48 := he48.symm
    subst he48
    refine y_rv ?_
    refine y_goto 69 dX8_happen_51 (by decide) ?_
    refine y_vret dX8_happen_69 ?_
    exact ⟨rfl, by simp_all [hpM]⟩
  refine y_tableOut 54 dX8_happen_6 (sw_out3 hn6_0 hn6_1 hn6_2) (by decide) ?_
  refine y_aload_n dX8_happen_54 rfl rfl ?_
  refine y_dup dX8_happen_55 rfl ?_
  refine y_geti dX8_happen_56 1 clX8 kd_58 (by decide) wm_fl_X8_88 rfl rfl ?_
  refine y_aload_n dX8_happen_59 rfl rfl ?_
  refine y_getr dX8_happen_60 16 clX8 kd_58 (by decide) wm_fl_X8_40 rfl rfl ?_
  refine y_iload_n dX8_happen_63 rfl rfl ?_
  refine y_iald dX8_happen_64 k kd_69 rfl hk (by decide) ?_
  refine y_ixor dX8_happen_65 ?_
  refine y_puti dX8_happen_66 1 clX8 kd_58 (by decide) wm_fl_X8_88 rfl rfl rfl rfl (tyX8_ok 1 (by decide)) rfl rfl ?_
  refine y_vret dX8_happen_69 ?_
  exact ⟨rfl, by simp_all [hpM]⟩

def gm0 (μ : MemT) : MemT := mset μ 58 (upd (upd (upd (upd (upd (upd (μ 58) 26 (-6)) 27 (-6)) 19 0) 20 0) 21 0) 22 (-6))
def gmW (k : Nat) (μ : MemT) : MemT := mset μ 58 (upd (upd (μ 58) 26 (if wnM k μ ≤ 0 then -6 else nI k)) 27 (if wnM k μ ≤ 0 then -6 else wnM k μ))
def gmStep (k : Nat) (μ : MemT) : MemT := if wnM k μ = 0 then hpM k (gmW k μ) else gmW k μ
def gmR : Nat → Nat → MemT → MemT
  | 0, _, μ => μ
  | n + 1, k, μ => if 0 ≤ μ 58 26 then μ else gmR n (k + 1) (gmStep k μ)
def gmM (a : Nat) (μ : MemT) : MemT := gmR a 0 (gm0 μ)
theorem hpM_f (k : Nat) (μ : MemT) {i : Nat} (h : i = 18 ∨ i = 13 ∨ i = 0 ∨ i = 2 ∨ i = 11) : hpM k μ 58 i = μ 58 i := by
  unfold hpM
  split
  · rcases h with h | h | h | h | h <;> subst h <;> simp [slM, mset, upd]
  · split
    · rcases h with h | h | h | h | h <;> subst h <;> simp [mDay, mset, upd]
    · split
      · rfl
      · rcases h with h | h | h | h | h <;> subst h <;> simp [mset, upd]
theorem gmStep_f (k : Nat) (μ : MemT) {i : Nat} (h : i = 18 ∨ i = 13 ∨ i = 0 ∨ i = 2 ∨ i = 11) : gmStep k μ 58 i = μ 58 i := by
  unfold gmStep
  have e : gmW k μ 58 i = μ 58 i := by rcases h with h | h | h | h | h <;> subst h <;> simp [gmW, mset, upd]
  split
  · rw [hpM_f k _ h, e]
  · exact e
theorem gmR_stop (n k : Nat) {μ : MemT} (h : 0 ≤ μ 58 26) : gmR n k μ = μ := by
  cases n with
  | zero => rfl
  | succ n => rw [gmR, if_pos h]

set_option maxRecDepth 100000 in
set_option maxHeartbeats 4000000 in
theorem kX8_goMarket {l : Launch} {G : GT} {μ : MemT} {a : Nat} (ha : a ≤ 60) (hat : μ 58 18 = nI a) : sw_Met l G yX8_goMarket cX8_goMarket 3 none (rmk 4 88) [.ref (G.2.1 58)] μ (fun v μ2 => v = none ∧ μ2 = gmM a μ) := by
  refine sw_Met.ofY (by decide) (Nat.le_of_ble_eq_true rfl) rfl ?_
  refine y_aload_n dX8_goMarket_0 rfl rfl ?_
  refine y_bipush dX8_goMarket_1 ib_m6 ?_
  refine y_puti dX8_goMarket_3 26 clX8 kd_58 (by decide) wm_fl_X8_198 rfl rfl rfl rfl (tyX8_ok 26 (by decide)) rfl rfl ?_
  refine y_aload_n dX8_goMarket_6 rfl rfl ?_
  refine y_bipush dX8_goMarket_7 ib_m6 ?_
  refine y_puti dX8_goMarket_9 27 clX8 kd_58 (by decide) wm_fl_X8_201 rfl rfl rfl rfl (tyX8_ok 27 (by decide)) rfl rfl ?_
  refine y_aload_n dX8_goMarket_12 rfl rfl ?_
  refine y_iconst dX8_goMarket_13 ic_0 ?_
  refine y_puti dX8_goMarket_14 19 clX8 kd_58 (by decide) wm_fl_X8_168 rfl rfl rfl rfl (tyX8_ok 19 (by decide)) rfl rfl ?_
  refine y_aload_n dX8_goMarket_17 rfl rfl ?_
  refine y_iconst dX8_goMarket_18 ic_0 ?_
  refine y_puti dX8_goMarket_19 20 clX8 kd_58 (by decide) wm_fl_X8_171 rfl rfl rfl rfl (tyX8_ok 20 (by decide)) rfl rfl ?_
  refine y_aload_n dX8_goMarket_22 rfl rfl ?_
  refine y_iconst dX8_goMarket_23 ic_0 ?_
  refine y_puti dX8_goMarket_24 21 clX8 kd_58 (by decide) wm_fl_X8_174 rfl rfl rfl rfl (tyX8_ok 21 (by decide)) rfl rfl ?_
  refine y_aload_n dX8_goMarket_27 rfl rfl ?_
  refine y_bipush dX8_goMarket_28 ib_m6 ?_
  refine y_puti dX8_goMarket_30 22 clX8 kd_58 (by decide) wm_fl_X8_177 rfl rfl rfl rfl (tyX8_ok 22 (by decide)) rfl rfl ?_
  refine y_iconst (v := nI 0) dX8_goMarket_33 icn_0 ?_
  refine y_istore_n dX8_goMarket_34 rfl rfl (by decide) ?_
  refine y_eq (show _ = gm0 μ by simp only [gm0, mset_mset, mset_self]) rfl rfl ?_
  refine y_loop1 (fun (j : Nat) (m : MemT) => [some (.ref (G.2.1 58)), some (.int (nI j)), none]) (fun (j : Nat) (m : MemT) => m) (fun (j : Nat) (m : MemT) => m 58 18 = nI a ∧ gmR (a - j) j m = gmM a μ) a (fun m hv35 => ?_) (fun j m hj hv35 ih35 => ?_) 0 (gm0 μ) (Nat.zero_le _) (⟨by simp [gm0, mset, upd, hat], rfl⟩)
  · refine y_iload_n dX8_goMarket_35 rfl rfl ?_
    refine y_aload_n dX8_goMarket_36 rfl rfl ?_
    refine y_geti dX8_goMarket_37 18 clX8 kd_58 (by decide) wm_fl_X8_124 rfl rfl ?_
    refine y_icmp_ge 99 dX8_goMarket_40 (by decide) (fun _ => ?_) (fun hq => absurd (by rw [hv35.1]; exact Int32.le_refl _) hq)
    refine y_vret dX8_goMarket_99 ?_
    first
      | exact ⟨rfl, by rw [← hv35.2, Nat.sub_self, gmR]⟩
      | exact ⟨rfl, by rw [← hv35.2, gmR_stop _ _ h47]⟩
  · refine y_iload_n dX8_goMarket_35 rfl rfl ?_
    refine y_aload_n dX8_goMarket_36 rfl rfl ?_
    refine y_geti dX8_goMarket_37 18 clX8 kd_58 (by decide) wm_fl_X8_124 rfl rfl ?_
    refine y_icmp_ge 99 dX8_goMarket_40 (by decide) (fun hq => absurd (by rw [hv35.1] at hq; exact hq) (nI_ge hj (by omega))) (fun _ => ?_)
    refine y_aload_n dX8_goMarket_43 rfl rfl ?_
    refine y_geti dX8_goMarket_44 26 clX8 kd_58 (by decide) wm_fl_X8_198 rfl rfl ?_
    refine y_if_ge 99 dX8_goMarket_47 (by decide) (fun h47 => ?_) (fun h47 => ?_)
    · refine y_vret dX8_goMarket_99 ?_
      first
        | exact ⟨rfl, by rw [← hv35.2, Nat.sub_self, gmR]⟩
        | exact ⟨rfl, by rw [← hv35.2, gmR_stop _ _ h47]⟩
    · refine y_aload_n dX8_goMarket_50 rfl rfl ?_
      refine y_iload_n dX8_goMarket_51 rfl rfl ?_
      refine y_cV1 dX8_goMarket_52 meX8_whyNot clX8 kd_58 wm_ml_X8_204 (kX8_whyNot (k := j) (by omega)) ⟨Nat.le_of_ble_eq_true rfl, Nat.le_of_ble_eq_true rfl⟩ ⟨rfl, rfl⟩ (Nat.le_of_ble_eq_true rfl) (fun v52 μ52 hp52 => ?_)
      obtain ⟨rfl, he52⟩ := hp52
      replace he52 := he52.symm
      subst he52
      refine y_ri ?_
      refine y_istore_n dX8_goMarket_55 rfl rfl (by decide) ?_
      refine y_aload_n dX8_goMarket_56 rfl rfl ?_
      refine y_iload_n dX8_goMarket_57 rfl rfl ?_
      refine y_if_le 65 dX8_goMarket_58 (by decide) (fun h58 => ?_) (fun h58 => ?_)
      · refine y_bipush dX8_goMarket_65 ib_m6 ?_
        refine y_puti dX8_goMarket_67 26 clX8 kd_58 (by decide) wm_fl_X8_198 rfl rfl rfl rfl (tyX8_ok 26 (by decide)) rfl rfl ?_
        refine y_aload_n dX8_goMarket_70 rfl rfl ?_
        refine y_iload_n dX8_goMarket_71 rfl rfl ?_
        refine y_if_le 79 dX8_goMarket_72 (by decide) (fun _ => ?_) (fun hq => absurd h58 hq)
        refine y_bipush dX8_goMarket_79 ib_m6 ?_
        refine y_puti dX8_goMarket_81 27 clX8 kd_58 (by decide) wm_fl_X8_201 rfl rfl rfl rfl (tyX8_ok 27 (by decide)) rfl rfl ?_
        refine y_iload_n dX8_goMarket_84 rfl rfl ?_
        refine y_if_ne 93 dX8_goMarket_85 (by decide) (fun h85 => ?_) (fun h85 => ?_)
        · refine y_iinc (v := nI (j + 1)) dX8_goMarket_93 rfl (nI_i1 _) rfl (by decide) ?_
          refine y_goto 35 dX8_goMarket_96 (by decide) ?_
          exact y_drop 2 (y_eq (μ2 := gmStep j m) (by clear ih35 hv35; simp_all [-Int32.not_lt, -Int32.not_le, gmStep, gmW, mset_mset, mset]) rfl rfl (ih35 _ ⟨by rw [gmStep_f j m (Or.inl rfl)]; exact hv35.1, by rw [← hv35.2, sub_s hj, gmR, if_neg h47]⟩))
        · refine y_aload_n dX8_goMarket_88 rfl rfl ?_
          refine y_iload_n dX8_goMarket_89 rfl rfl ?_
          refine y_cV1 dX8_goMarket_90 meX8_happen clX8 kd_58 wm_ml_X8_207 (kX8_happen (k := j) (by omega)) ⟨Nat.le_of_ble_eq_true rfl, Nat.le_of_ble_eq_true rfl⟩ ⟨rfl, rfl⟩ (Nat.le_of_ble_eq_true rfl) (fun v90 μ90 hp90 => ?_)
          obtain ⟨rfl, he90⟩ := hp90
          replace he90 := he90.symm
          subst he90
          refine y_rv ?_
          refine y_iinc (v := nI (j + 1)) dX8_goMarket_93 rfl (nI_i1 _) rfl (by decide) ?_
          refine y_goto 35 dX8_goMarket_96 (by decide) ?_
          exact y_drop 2 (y_eq (μ2 := gmStep j m) (by clear ih35 hv35; simp_all [-Int32.not_lt, -Int32.not_le, gmStep, gmW, mset_mset, mset]) rfl rfl (ih35 _ ⟨by rw [gmStep_f j m (Or.inl rfl)]; exact hv35.1, by rw [← hv35.2, sub_s hj, gmR, if_neg h47]⟩))
      · refine y_iload_n dX8_goMarket_61 rfl rfl ?_
        refine y_goto 67 dX8_goMarket_62 (by decide) ?_
        refine y_puti dX8_goMarket_67 26 clX8 kd_58 (by decide) wm_fl_X8_198 rfl rfl rfl rfl (tyX8_ok 26 (by decide)) rfl rfl ?_
        refine y_aload_n dX8_goMarket_70 rfl rfl ?_
        refine y_iload_n dX8_goMarket_71 rfl rfl ?_
        refine y_if_le 79 dX8_goMarket_72 (by decide) (fun hq => absurd hq h58) (fun _ => ?_)
        refine y_iload_n dX8_goMarket_75 rfl rfl ?_
        refine y_goto 81 dX8_goMarket_76 (by decide) ?_
        refine y_puti dX8_goMarket_81 27 clX8 kd_58 (by decide) wm_fl_X8_201 rfl rfl rfl rfl (tyX8_ok 27 (by decide)) rfl rfl ?_
        refine y_iload_n dX8_goMarket_84 rfl rfl ?_
        refine y_if_ne 93 dX8_goMarket_85 (by decide) (fun h85 => ?_) (fun h85 => ?_)
        · refine y_iinc (v := nI (j + 1)) dX8_goMarket_93 rfl (nI_i1 _) rfl (by decide) ?_
          refine y_goto 35 dX8_goMarket_96 (by decide) ?_
          exact y_drop 2 (y_eq (μ2 := gmStep j m) (by clear ih35 hv35; simp_all [-Int32.not_lt, -Int32.not_le, gmStep, gmW, mset_mset, mset]) rfl rfl (ih35 _ ⟨by rw [gmStep_f j m (Or.inl rfl)]; exact hv35.1, by rw [← hv35.2, sub_s hj, gmR, if_neg h47]⟩))
        · refine y_aload_n dX8_goMarket_88 rfl rfl ?_
          refine y_iload_n dX8_goMarket_89 rfl rfl ?_
          refine y_cV1 dX8_goMarket_90 meX8_happen clX8 kd_58 wm_ml_X8_207 (kX8_happen (k := j) (by omega)) ⟨Nat.le_of_ble_eq_true rfl, Nat.le_of_ble_eq_true rfl⟩ ⟨rfl, rfl⟩ (Nat.le_of_ble_eq_true rfl) (fun v90 μ90 hp90 => ?_)
          obtain ⟨rfl, he90⟩ := hp90
          replace he90 := he90.symm
          subst he90
          refine y_rv ?_
          refine y_iinc (v := nI (j + 1)) dX8_goMarket_93 rfl (nI_i1 _) rfl (by decide) ?_
          refine y_goto 35 dX8_goMarket_96 (by decide) ?_
          exact y_drop 2 (y_eq (μ2 := gmStep j m) (by clear ih35 hv35; simp_all [-Int32.not_lt, -Int32.not_le, gmStep, gmW, mset_mset, mset]) rfl rfl (ih35 _ ⟨by rw [gmStep_f j m (Or.inl rfl)]; exact hv35.1, by rw [← hv35.2, sub_s hj, gmR, if_neg h47]⟩))

def lpW (c : Int32) (w h : Nat → Int32) : Nat → Int32 := itr (fun p h => upd h p (wc c (nI p) (w p))) 8 0 h
def lvM (μ : MemT) : MemT := mset (mset (mset μ 72 (lpW (μ 58 1) (μ 60) (μ 72))) 73 (cpW (μ 60) (μ 73))) 58 (upd (μ 58) 30 (μ 58 3))
def rfPs (c : Nat) (μ : MemT) : MemT := putPs (psAll c μ).2 μ
def rfGo (c : Nat) (μ : MemT) : MemT := gmM (psAll c μ).2.1 (mKeep (rfPs c μ))
def rfM (c : Nat) (μ : MemT) : MemT := mBack (lvM (rfGo c μ))
def mRef (c : Nat) (μ : MemT) : Int32 × MemT := if (psAll c μ).1 < 0 then (if rfM c μ 58 26 < 0 then -6 else -3, rfM c μ) else (-5, rfPs c μ)

set_option maxRecDepth 100000 in
set_option maxHeartbeats 4000000 in
theorem kX8_refusal {l : Launch} {G : GT} {μ : MemT} {c : Nat} (hc60 : c ≤ 60) (hc : μ 58 13 = nI c)  : sw_Met l G yX8_refusal cX8_refusal 2 (some .int) (rmk 5 110) [.ref (G.2.1 58)] μ (fun v μ2 => v = some (.int (mRef c μ).1) ∧ μ2 = (mRef c μ).2) := by
  refine sw_Met.ofY (by decide) (Nat.le_of_ble_eq_true rfl) rfl ?_
  refine y_aload_n dX8_refusal_0 rfl rfl ?_
  refine y_cV0 dX8_refusal_1 meX8_fault clX8 kd_58 wm_ml_X8_210 (kX8_fault hc60 hc) ⟨Nat.le_of_ble_eq_true rfl, Nat.le_of_ble_eq_true rfl⟩ ⟨rfl, rfl⟩ (Nat.le_of_ble_eq_true rfl) (fun v1 μ1 hp1 => ?_)
  obtain ⟨rfl, he1⟩ := hp1
  replace he1 := he1.symm
  subst he1
  refine y_ri ?_
  refine y_if_lt 10 dX8_refusal_4 (by decide) (fun h4 => ?_) (fun h4 => ?_)
  · refine y_aload_n dX8_refusal_10 rfl rfl ?_
    refine y_cV0 dX8_refusal_11 meX8_keepNow clX8 kd_58 wm_ml_X8_213 (kX8_keepNow) ⟨Nat.le_of_ble_eq_true rfl, Nat.le_of_ble_eq_true rfl⟩ ⟨rfl, rfl⟩ (Nat.le_of_ble_eq_true rfl) (fun v11 μ11 hp11 => ?_)
    obtain ⟨rfl, he11⟩ := hp11
    replace he11 := he11.symm
    subst he11
    refine y_rv ?_
    refine y_aload_n dX8_refusal_14 rfl rfl ?_
    refine y_cV0 dX8_refusal_15 meX8_goMarket clX8 kd_58 wm_ml_X8_216 (kX8_goMarket (a := (psAll c μ).2.1) (Nat.le_trans (psAll_le c μ) hc60) (by simp [mKeep, mset, upd]; exact putPs_58 _ _)) ⟨Nat.le_of_ble_eq_true rfl, Nat.le_of_ble_eq_true rfl⟩ ⟨rfl, rfl⟩ (Nat.le_of_ble_eq_true rfl) (fun v15 μ15 hp15 => ?_)
    obtain ⟨rfl, he15⟩ := hp15
    replace he15 := he15.symm
    subst he15
    refine y_rv ?_
    refine y_iconst (v := nI 0) dX8_refusal_18 icn_0 ?_
    refine y_istore_n dX8_refusal_19 rfl rfl (by decide) ?_
    refine y_eq (show _ = mset (mset (rfGo c μ) 72 (rfGo c μ 72)) 73 (rfGo c μ 73) by rw [mset_same, mset_same]; rfl) rfl rfl ?_
    refine y_loop2 (fun (j : Nat) (r1 : Nat → Int32) (r2 : Nat → Int32) => [some (.ref (G.2.1 58)), some (.int (nI j))]) (fun (j : Nat) (r1 : Nat → Int32) (r2 : Nat → Int32) => mset (mset (rfGo c μ) 72 r1) 73 r2) (fun (j : Nat) (r1 : Nat → Int32) (r2 : Nat → Int32) => (itr (fun p h => upd h p (wc (rfGo c μ 58 1) (nI p) (rfGo c μ 60 p))) (8 - j) j r1 = lpW (rfGo c μ 58 1) (rfGo c μ 60) (rfGo c μ 72)) ∧ itr (fun p h => upd h p (rfGo c μ 60 p)) (8 - j) j r2 = cpW (rfGo c μ 60) (rfGo c μ 73)) 8 (fun r1 r2 hv20 => ?_) (fun j r1 r2 hj hv20 ih20 => ?_) 0 (rfGo c μ 72) (rfGo c μ 73) (Nat.zero_le _) (⟨rfl, rfl⟩)
    · refine y_iload_n dX8_refusal_20 rfl rfl ?_
      refine y_bipush dX8_refusal_21 ib_8 ?_
      refine y_icmp_ge 55 dX8_refusal_23 (by decide) (fun _ => ?_) (fun hq => absurd (by decide) hq)
      refine y_aload_n dX8_refusal_55 rfl rfl ?_
      refine y_aload_n dX8_refusal_56 rfl rfl ?_
      refine y_geti dX8_refusal_57 3 clX8 kd_58 (by decide) wm_fl_X8_162 rfl rfl ?_
      refine y_puti dX8_refusal_60 30 clX8 kd_58 (by decide) wm_fl_X8_219 rfl rfl rfl rfl (tyX8_ok 30 (by decide)) rfl rfl ?_
      refine y_aload_n dX8_refusal_63 rfl rfl ?_
      refine y_cV0 dX8_refusal_64 meX8_putBack clX8 kd_58 wm_ml_X8_222 (kX8_putBack) ⟨Nat.le_of_ble_eq_true rfl, Nat.le_of_ble_eq_true rfl⟩ ⟨rfl, rfl⟩ (Nat.le_of_ble_eq_true rfl) (fun v64 μ64 hp64 => ?_)
      obtain ⟨rfl, he64⟩ := hp64
      replace he64 := he64.symm
      subst he64
      refine y_rv ?_
      refine y_aload_n dX8_refusal_67 rfl rfl ?_
      refine y_geti dX8_refusal_68 26 clX8 kd_58 (by decide) wm_fl_X8_198 rfl rfl ?_
      refine y_if_lt 79 dX8_refusal_71 (by decide) (fun h71 => ?_) (fun h71 => ?_)
      · refine y_bipush dX8_refusal_79 ib_m6 ?_
        refine y_iret dX8_refusal_81 ?_
        have e : ∀ r1 r2, r1 = lpW (rfGo c μ 58 1) (rfGo c μ 60) (rfGo c μ 72) → r2 = cpW (rfGo c μ 60) (rfGo c μ 73) → mset (mset (mset (rfGo c μ) 72 r1) 73 r2) 58 (upd (mset (mset (rfGo c μ) 72 r1) 73 r2 58) 30 (mset (mset (rfGo c μ) 72 r1) 73 r2 58 3)) = lvM (rfGo c μ) := by
          intro r1 r2 h1 h2
          subst h1; subst h2
          simp [lvM, mset]
        rw [e _ _ (itr_ex hv20.1) (itr_ex hv20.2)] at *
        constructor <;> simp_all [-Int32.not_lt, mRef, rfM]
      · refine y_bipush dX8_refusal_74 ib_m3 ?_
        refine y_goto 81 dX8_refusal_76 (by decide) ?_
        refine y_iret dX8_refusal_81 ?_
        have e : ∀ r1 r2, r1 = lpW (rfGo c μ 58 1) (rfGo c μ 60) (rfGo c μ 72) → r2 = cpW (rfGo c μ 60) (rfGo c μ 73) → mset (mset (mset (rfGo c μ) 72 r1) 73 r2) 58 (upd (mset (mset (rfGo c μ) 72 r1) 73 r2 58) 30 (mset (mset (rfGo c μ) 72 r1) 73 r2 58 3)) = lvM (rfGo c μ) := by
          intro r1 r2 h1 h2
          subst h1; subst h2
          simp [lvM, mset]
        rw [e _ _ (itr_ex hv20.1) (itr_ex hv20.2)] at *
        constructor <;> simp_all [-Int32.not_lt, mRef, rfM]
    · refine y_iload_n dX8_refusal_20 rfl rfl ?_
      refine y_bipush dX8_refusal_21 ib_8 ?_
      refine y_icmp_ge 55 dX8_refusal_23 (by decide) (fun hq => absurd hq (nI_ge (b := 8) hj (by decide))) (fun _ => ?_)
      refine y_aload_n dX8_refusal_26 rfl rfl ?_
      refine y_getr dX8_refusal_27 28 clX8 kd_58 (by decide) wm_fl_X8_49 rfl rfl ?_
      refine y_iload_n dX8_refusal_30 rfl rfl ?_
      refine y_aload_n dX8_refusal_31 rfl rfl ?_
      refine y_iload_n dX8_refusal_32 rfl rfl ?_
      refine y_cV1 dX8_refusal_33 meX8_pounds clX8 kd_58 wm_ml_X8_150 (kX8_pounds (by first | assumption | omega)) ⟨Nat.le_of_ble_eq_true rfl, Nat.le_of_ble_eq_true rfl⟩ ⟨rfl, rfl⟩ (Nat.le_of_ble_eq_true rfl) (fun v33 μ33 hp33 => ?_)
      obtain ⟨rfl, he33⟩ := hp33
      replace he33 := he33.symm
      subst he33
      refine y_ri ?_
      refine y_iast dX8_refusal_36 j kd_72 rfl (by first | assumption | decide | omega) (by decide) ?_
      refine y_aload_n dX8_refusal_37 rfl rfl ?_
      refine y_getr dX8_refusal_38 29 clX8 kd_58 (by decide) wm_fl_X8_52 rfl rfl ?_
      refine y_iload_n dX8_refusal_41 rfl rfl ?_
      refine y_aload_n dX8_refusal_42 rfl rfl ?_
      refine y_getr dX8_refusal_43 5 clX8 kd_58 (by decide) wm_fl_X8_13 rfl rfl ?_
      refine y_iload_n dX8_refusal_46 rfl rfl ?_
      refine y_iald dX8_refusal_47 j kd_60 rfl (by first | assumption | decide | omega) (by decide) ?_
      refine y_iast dX8_refusal_48 j kd_73 rfl (by first | assumption | decide | omega) (by decide) ?_
      refine y_iinc (v := nI (j + 1)) dX8_refusal_49 rfl (nI_i1 _) rfl (by decide) ?_
      refine y_goto 20 dX8_refusal_52 (by decide) ?_
      exact y_eq (μ2 := mset (mset (rfGo c μ) 72 (upd r1 j (wc (rfGo c μ 58 1) (nI j) (rfGo c μ 60 j)))) 73 (upd r2 j (rfGo c μ 60 j))) (by clear ih20; funext q; by_cases k1 : q = 73 <;> by_cases k2 : q = 72 <;> simp_all [mset]) rfl rfl (ih20 _ _ ⟨itr_nx hj hv20.1 rfl, itr_nx hj hv20.2 rfl⟩)
  · refine y_bipush dX8_refusal_7 ib_m5 ?_
    refine y_iret dX8_refusal_9 ?_
    constructor <;> simp_all [-Int32.not_lt, mRef, rfPs]
