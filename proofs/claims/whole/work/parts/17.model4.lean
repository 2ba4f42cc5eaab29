/-! the reference: seats -/
abbrev S3T : Type := Int32 × Int32 × Int32
def stS (p : Nat) (w : S3T) : S3T := (w.1 / 3, w.2.1 ||| (if w.1 - w.1 / 3 * 3 = 1 then 1 <<< (nI p &&& 31) else 0), w.2.2 ||| (if w.1 - w.1 / 3 * 3 = 2 then 1 <<< (nI p &&& 31) else 0))
def seR (x : Int32) : S3T := itr stS 8 0 (x, 0, 0)
def seF (f g : Int32) (μ : MemT) : MemT := mset μ 58 (upd (upd (μ 58) 31 f) 32 g)
theorem seF_seF (f g f2 g2 : Int32) (μ : MemT) : seF f g (seF f2 g2 μ) = seF f g μ := by
  unfold seF
  rw [mset_self, mset_mset]
  congr 1
  funext i
  unfold upd
  split
  · rfl
  · split
    · rfl
    · simp_all
theorem seF_31 (f g : Int32) (μ : MemT) : seF f g μ 58 31 = f := rfl
theorem seF_32 (f g : Int32) (μ : MemT) : seF f g μ 58 32 = g := rfl
theorem seF_f (f g : Int32) (μ : MemT) {i : Nat} (h1 : i ≠ 31) (h2 : i ≠ 32) : seF f g μ 58 i = μ 58 i := by simp [seF, mset, upd, h1, h2]
theorem seF_ne (f g : Int32) (μ : MemT) {k : Nat} (h : k ≠ 58) : seF f g μ k = μ k := by simp [seF, mset, h]
theorem seF_id (μ : MemT) : seF (μ 58 31) (μ 58 32) μ = μ := by
  unfold seF
  rw [upd_id, upd_id, mset_same]
theorem seF_31u (f g f2 : Int32) (μ : MemT) : mset (seF f g μ) 58 (upd (seF f g μ 58) 31 f2) = seF f2 g μ := by
  simp only [seF, mset_mset, mset_self]
  congr 1
  funext i
  by_cases h1 : i = 31 <;> by_cases h2 : i = 32 <;> simp_all [upd]
theorem seF_32u (f g g2 : Int32) (μ : MemT) : mset (seF f g μ) 58 (upd (seF f g μ 58) 32 g2) = seF f g2 μ := by
  simp only [seF, mset_mset, mset_self]
  congr 1
  funext i
  by_cases h1 : i = 31 <;> by_cases h2 : i = 32 <;> simp_all [upd]
def seaB (x t : Int32) (sp : Nat → Int32) : Bool := subI ((seR x).2.1 ||| (seR x).2.2) t && (togM (seR x).2.1 sp && togM (seR x).2.2 sp)
def dfB (B : Bool) (f g : Int32) (sw : Nat → Int32) (c : Int32) (w : Nat → Int32) : Int32 := if B then sumB f sw - sumB g sw else wcB f c w - wcB g c w
theorem or_0 (x : Int32) : x ||| 0 = x := by
  apply Int32.toBitVec_inj.mp
  rw [Int32.toBitVec_or]
  show x.toBitVec ||| 0#32 = _
  simp

set_option maxRecDepth 100000 in
set_option maxHeartbeats 4000000 in
theorem kX8_seat {l : Launch} {G : GT} {μ : MemT} {x : Int32} : sw_Met l G yX8_seat cX8_seat 4 (some .boolean) (rmk 1 23) [.ref (G.2.1 58), .int x] μ (fun v μ2 => v = some (.int (bI (seaB x (μ 58 0) (μ 62)))) ∧ μ2 = seF (seR x).2.1 (seR x).2.2 μ) := by
  refine sw_Met.ofY (by decide) (Nat.le_of_ble_eq_true rfl) rfl ?_
  refine y_aload_n dX8_seat_0 rfl rfl ?_
  refine y_iconst dX8_seat_1 ic_0 ?_
  refine y_puti dX8_seat_2 31 clX8 kd_58 (by decide) wm_fl_X8_232 rfl rfl rfl rfl (tyX8_ok 31 (by decide)) rfl rfl ?_
  refine y_aload_n dX8_seat_5 rfl rfl ?_
  refine y_iconst dX8_seat_6 ic_0 ?_
  refine y_puti dX8_seat_7 32 clX8 kd_58 (by decide) wm_fl_X8_235 rfl rfl rfl rfl (tyX8_ok 32 (by decide)) rfl rfl ?_
  refine y_iload_n dX8_seat_10 rfl rfl ?_
  refine y_istore_n dX8_seat_11 rfl rfl (by decide) ?_
  refine y_iconst (v := nI 0) dX8_seat_12 icn_0 ?_
  refine y_istore_n dX8_seat_13 rfl rfl (by decide) ?_
  refine y_eq (show _ = seF 0 0 μ by simp [seF, mset_mset, mset]) rfl rfl ?_
  refine y_loop3 (fun (j : Nat) (e : Int32) (f : Int32) (g : Int32) => [some (.ref (G.2.1 58)), some (.int x), some (.int e), some (.int (nI j))]) (fun (j : Nat) (e : Int32) (f : Int32) (g : Int32) => seF f g μ) (fun (j : Nat) (e : Int32) (f : Int32) (g : Int32) => itr stS (8 - j) j (e, f, g) = seR x) 8 (fun e f g hv14 => ?_) (fun j e f g hj hv14 ih14 => ?_) 0 (x) (0) (0) (Nat.zero_le _) (rfl)
  · refine y_iload_n dX8_seat_14 rfl rfl ?_
    refine y_bipush dX8_seat_15 ib_8 ?_
    refine y_icmp_ge 76 dX8_seat_17 (by decide) (fun _ => ?_) (fun hq => absurd (by decide) hq)
    refine y_aload_n dX8_seat_76 rfl rfl ?_
    refine y_geti dX8_seat_77 31 clX8 kd_58 (by decide) wm_fl_X8_232 rfl rfl ?_
    refine y_aload_n dX8_seat_80 rfl rfl ?_
    refine y_geti dX8_seat_81 32 clX8 kd_58 (by decide) wm_fl_X8_235 rfl rfl ?_
    refine y_ior dX8_seat_84 ?_
    refine y_aload_n dX8_seat_85 rfl rfl ?_
    refine y_geti dX8_seat_86 0 clX8 kd_58 (by decide) wm_fl_X8_81 rfl rfl ?_
    refine y_iconst dX8_seat_89 ic_m1 ?_
    refine y_ixor dX8_seat_90 ?_
    refine y_iand dX8_seat_91 ?_
    refine y_if_ne 121 dX8_seat_92 (by decide) (fun h92 => ?_) (fun h92 => ?_)
    · refine y_iconst dX8_seat_121 ic_0 ?_
      refine y_zret dX8_seat_122 rfl ?_
      have hv := itr_ex hv14
      have h1 : f = (seR x).2.1 := by rw [← hv]
      have h2 : g = (seR x).2.2 := by rw [← hv]
      subst h1; subst h2
      refine ⟨?_, rfl⟩
      clear hv14 hv
      simp_all [bI, seaB, subI, seF_31, seF_32, seF_f, seF_ne]
    · refine y_aload_n dX8_seat_95 rfl rfl ?_
      refine y_aload_n dX8_seat_96 rfl rfl ?_
      refine y_geti dX8_seat_97 31 clX8 kd_58 (by decide) wm_fl_X8_232 rfl rfl ?_
      refine y_cV1 dX8_seat_100 meX8_areTogether clX8 kd_58 wm_ml_X8_153 (kX8_areTogether) ⟨Nat.le_of_ble_eq_true rfl, Nat.le_of_ble_eq_true rfl⟩ ⟨rfl, rfl⟩ (Nat.le_of_ble_eq_true rfl) (fun v100 μ100 hp100 => ?_)
      obtain ⟨rfl, he100⟩ := hp100
      replace he100 := he100.symm
      subst he100
      refine y_ri ?_
      refine y_ifb_eq 121 dX8_seat_103 (by decide) (fun h103 => ?_) (fun h103 => ?_)
      · refine y_iconst dX8_seat_121 ic_0 ?_
        refine y_zret dX8_seat_122 rfl ?_
        have hv := itr_ex hv14
        have h1 : f = (seR x).2.1 := by rw [← hv]
        have h2 : g = (seR x).2.2 := by rw [← hv]
        subst h1; subst h2
        refine ⟨?_, rfl⟩
        clear hv14 hv
        simp_all [bI, seaB, subI, seF_31, seF_32, seF_f, seF_ne]
      · refine y_aload_n dX8_seat_106 rfl rfl ?_
        refine y_aload_n dX8_seat_107 rfl rfl ?_
        refine y_geti dX8_seat_108 32 clX8 kd_58 (by decide) wm_fl_X8_235 rfl rfl ?_
        refine y_cV1 dX8_seat_111 meX8_areTogether clX8 kd_58 wm_ml_X8_153 (kX8_areTogether) ⟨Nat.le_of_ble_eq_true rfl, Nat.le_of_ble_eq_true rfl⟩ ⟨rfl, rfl⟩ (Nat.le_of_ble_eq_true rfl) (fun v111 μ111 hp111 => ?_)
        obtain ⟨rfl, he111⟩ := hp111
        replace he111 := he111.symm
        subst he111
        refine y_ri ?_
        refine y_ifb_eq 121 dX8_seat_114 (by decide) (fun h114 => ?_) (fun h114 => ?_)
        · refine y_iconst dX8_seat_121 ic_0 ?_
          refine y_zret dX8_seat_122 rfl ?_
          have hv := itr_ex hv14
          have h1 : f = (seR x).2.1 := by rw [← hv]
          have h2 : g = (seR x).2.2 := by rw [← hv]
          subst h1; subst h2
          refine ⟨?_, rfl⟩
          clear hv14 hv
          simp_all [bI, seaB, subI, seF_31, seF_32, seF_f, seF_ne]
        · refine y_iconst dX8_seat_117 ic_1 ?_
          refine y_goto 122 dX8_seat_118 (by decide) ?_
          refine y_zret dX8_seat_122 rfl ?_
          have hv := itr_ex hv14
          have h1 : f = (seR x).2.1 := by rw [← hv]
          have h2 : g = (seR x).2.2 := by rw [← hv]
          subst h1; subst h2
          refine ⟨?_, rfl⟩
          clear hv14 hv
          simp_all [bI, seaB, subI, seF_31, seF_32, seF_f, seF_ne]
  · refine y_iload_n dX8_seat_14 rfl rfl ?_
    refine y_bipush dX8_seat_15 ib_8 ?_
    refine y_icmp_ge 76 dX8_seat_17 (by decide) (fun hq => absurd hq (nI_ge (b := 8) hj (by decide))) (fun _ => ?_)
    refine y_aload_n dX8_seat_20 rfl rfl ?_
    refine y_dup dX8_seat_21 rfl ?_
    refine y_geti dX8_seat_22 31 clX8 kd_58 (by decide) wm_fl_X8_232 rfl rfl ?_
    refine y_iload_n dX8_seat_25 rfl rfl ?_
    refine y_iconst dX8_seat_26 ic_3 ?_
    refine y_irem dX8_seat_27 (by decide) ?_
    refine y_iconst dX8_seat_28 ic_1 ?_
    refine y_icmp_ne 38 dX8_seat_29 (by decide) (fun h29 => ?_) (fun h29 => ?_)
    · refine y_iconst dX8_seat_38 ic_0 ?_
      refine y_ior dX8_seat_39 ?_
      refine y_puti dX8_seat_40 31 clX8 kd_58 (by decide) wm_fl_X8_232 rfl rfl rfl rfl (tyX8_ok 31 (by decide)) rfl rfl ?_
      refine y_aload_n dX8_seat_43 rfl rfl ?_
      refine y_dup dX8_seat_44 rfl ?_
      refine y_geti dX8_seat_45 32 clX8 kd_58 (by decide) wm_fl_X8_235 rfl rfl ?_
      refine y_iload_n dX8_seat_48 rfl rfl ?_
      refine y_iconst dX8_seat_49 ic_3 ?_
      refine y_irem dX8_seat_50 (by decide) ?_
      refine y_iconst dX8_seat_51 ic_2 ?_
      refine y_icmp_ne 61 dX8_seat_52 (by decide) (fun h52 => ?_) (fun h52 => ?_)
      · refine y_iconst dX8_seat_61 ic_0 ?_
        refine y_ior dX8_seat_62 ?_
        refine y_puti dX8_seat_63 32 clX8 kd_58 (by decide) wm_fl_X8_235 rfl rfl rfl rfl (tyX8_ok 32 (by decide)) rfl rfl ?_
        refine y_iload_n dX8_seat_66 rfl rfl ?_
        refine y_iconst dX8_seat_67 ic_3 ?_
        refine y_idiv dX8_seat_68 (by decide) ?_
        refine y_istore_n dX8_seat_69 rfl rfl (by decide) ?_
        refine y_iinc (v := nI (j + 1)) dX8_seat_70 rfl (nI_i1 _) rfl (by decide) ?_
        refine y_goto 14 dX8_seat_73 (by decide) ?_
        exact y_eq (μ2 := seF (stS j (e, f, g)).2.1 (stS j (e, f, g)).2.2 μ) (by clear ih14 hv14; simp only [seF_31u, seF_32u, seF_31, seF_32, or_0]; simp_all [stS, or_0]) rfl rfl (ih14 (stS j (e, f, g)).1 _ _ (itr_nx hj hv14 rfl))
      · refine y_iconst dX8_seat_55 ic_1 ?_
        refine y_iload_n dX8_seat_56 rfl rfl ?_
        refine y_ishl dX8_seat_57 ?_
        refine y_goto 62 dX8_seat_58 (by decide) ?_
        refine y_ior dX8_seat_62 ?_
        refine y_puti dX8_seat_63 32 clX8 kd_58 (by decide) wm_fl_X8_235 rfl rfl rfl rfl (tyX8_ok 32 (by decide)) rfl rfl ?_
        refine y_iload_n dX8_seat_66 rfl rfl ?_
        refine y_iconst dX8_seat_67 ic_3 ?_
        refine y_idiv dX8_seat_68 (by decide) ?_
        refine y_istore_n dX8_seat_69 rfl rfl (by decide) ?_
        refine y_iinc (v := nI (j + 1)) dX8_seat_70 rfl (nI_i1 _) rfl (by decide) ?_
        refine y_goto 14 dX8_seat_73 (by decide) ?_
        exact y_eq (μ2 := seF (stS j (e, f, g)).2.1 (stS j (e, f, g)).2.2 μ) (by clear ih14 hv14; simp only [seF_31u, seF_32u, seF_31, seF_32, or_0]; simp_all [stS, or_0]) rfl rfl (ih14 (stS j (e, f, g)).1 _ _ (itr_nx hj hv14 rfl))
    · refine y_iconst dX8_seat_32 ic_1 ?_
      refine y_iload_n dX8_seat_33 rfl rfl ?_
      refine y_ishl dX8_seat_34 ?_
      refine y_goto 39 dX8_seat_35 (by decide) ?_
      refine y_ior dX8_seat_39 ?_
      refine y_puti dX8_seat_40 31 clX8 kd_58 (by decide) wm_fl_X8_232 rfl rfl rfl rfl (tyX8_ok 31 (by decide)) rfl rfl ?_
      refine y_aload_n dX8_seat_43 rfl rfl ?_
      refine y_dup dX8_seat_44 rfl ?_
      refine y_geti dX8_seat_45 32 clX8 kd_58 (by decide) wm_fl_X8_235 rfl rfl ?_
      refine y_iload_n dX8_seat_48 rfl rfl ?_
      refine y_iconst dX8_seat_49 ic_3 ?_
      refine y_irem dX8_seat_50 (by decide) ?_
      refine y_iconst dX8_seat_51 ic_2 ?_
      refine y_icmp_ne 61 dX8_seat_52 (by decide) (fun h52 => ?_) (fun h52 => ?_)
      · refine y_iconst dX8_seat_61 ic_0 ?_
        refine y_ior dX8_seat_62 ?_
        refine y_puti dX8_seat_63 32 clX8 kd_58 (by decide) wm_fl_X8_235 rfl rfl rfl rfl (tyX8_ok 32 (by decide)) rfl rfl ?_
        refine y_iload_n dX8_seat_66 rfl rfl ?_
        refine y_iconst dX8_seat_67 ic_3 ?_
        refine y_idiv dX8_seat_68 (by decide) ?_
        refine y_istore_n dX8_seat_69 rfl rfl (by decide) ?_
        refine y_iinc (v := nI (j + 1)) dX8_seat_70 rfl (nI_i1 _) rfl (by decide) ?_
        refine y_goto 14 dX8_seat_73 (by decide) ?_
        exact y_eq (μ2 := seF (stS j (e, f, g)).2.1 (stS j (e, f, g)).2.2 μ) (by clear ih14 hv14; simp only [seF_31u, seF_32u, seF_31, seF_32, or_0]; simp_all [stS, or_0]) rfl rfl (ih14 (stS j (e, f, g)).1 _ _ (itr_nx hj hv14 rfl))
      · refine y_iconst dX8_seat_55 ic_1 ?_
        refine y_iload_n dX8_seat_56 rfl rfl ?_
        refine y_ishl dX8_seat_57 ?_
        refine y_goto 62 dX8_seat_58 (by decide) ?_
        refine y_ior dX8_seat_62 ?_
        refine y_puti dX8_seat_63 32 clX8 kd_58 (by decide) wm_fl_X8_235 rfl rfl rfl rfl (tyX8_ok 32 (by decide)) rfl rfl ?_
        refine y_iload_n dX8_seat_66 rfl rfl ?_
        refine y_iconst dX8_seat_67 ic_3 ?_
        refine y_idiv dX8_seat_68 (by decide) ?_
        refine y_istore_n dX8_seat_69 rfl rfl (by decide) ?_
        refine y_iinc (v := nI (j + 1)) dX8_seat_70 rfl (nI_i1 _) rfl (by decide) ?_
        refine y_goto 14 dX8_seat_73 (by decide) ?_
        exact y_eq (μ2 := seF (stS j (e, f, g)).2.1 (stS j (e, f, g)).2.2 μ) (by clear ih14 hv14; simp only [seF_31u, seF_32u, seF_31, seF_32, or_0]; simp_all [stS, or_0]) rfl rfl (ih14 (stS j (e, f, g)).1 _ _ (itr_nx hj hv14 rfl))

set_option maxRecDepth 100000 in
set_option maxHeartbeats 4000000 in
theorem kX8_difference {l : Launch} {G : GT} {μ : MemT} {B : Bool} : sw_Met l G yX8_difference cX8_difference 2 (some .int) (rmk 2 44) [.ref (G.2.1 58), .int (bI B)] μ (fun v μ2 => v = some (.int (dfB B (μ 58 31) (μ 58 32) (μ 59) (μ 58 1) (μ 60))) ∧ μ2 = μ) := by
  refine sw_Met.ofY (by decide) (Nat.le_of_ble_eq_true rfl) rfl ?_
  refine y_iload_n dX8_difference_0 rfl rfl ?_
  refine y_ifb_eq 24 dX8_difference_1 (by decide) (fun h1 => ?_) (fun h1 => ?_)
  · refine y_aload_n dX8_difference_24 rfl rfl ?_
    refine y_aload_n dX8_difference_25 rfl rfl ?_
    refine y_geti dX8_difference_26 31 clX8 kd_58 (by decide) wm_fl_X8_232 rfl rfl ?_
    refine y_cV1 dX8_difference_29 meX8_poundsOf clX8 kd_58 wm_ml_X8_165 (kX8_poundsOf) ⟨Nat.le_of_ble_eq_true rfl, Nat.le_of_ble_eq_true rfl⟩ ⟨rfl, rfl⟩ (Nat.le_of_ble_eq_true rfl) (fun v29 μ29 hp29 => ?_)
    obtain ⟨rfl, he29⟩ := hp29
    replace he29 := he29.symm
    subst he29
    refine y_ri ?_
    refine y_aload_n dX8_difference_32 rfl rfl ?_
    refine y_aload_n dX8_difference_33 rfl rfl ?_
    refine y_geti dX8_difference_34 32 clX8 kd_58 (by decide) wm_fl_X8_235 rfl rfl ?_
    refine y_cV1 dX8_difference_37 meX8_poundsOf clX8 kd_58 wm_ml_X8_165 (kX8_poundsOf) ⟨Nat.le_of_ble_eq_true rfl, Nat.le_of_ble_eq_true rfl⟩ ⟨rfl, rfl⟩ (Nat.le_of_ble_eq_true rfl) (fun v37 μ37 hp37 => ?_)
    obtain ⟨rfl, he37⟩ := hp37
    replace he37 := he37.symm
    subst he37
    refine y_ri ?_
    refine y_isub dX8_difference_40 ?_
    refine y_iret dX8_difference_41 ?_
    exact ⟨by simp_all [dfB], rfl⟩
  · refine y_aload_n dX8_difference_4 rfl rfl ?_
    refine y_aload_n dX8_difference_5 rfl rfl ?_
    refine y_geti dX8_difference_6 31 clX8 kd_58 (by decide) wm_fl_X8_232 rfl rfl ?_
    refine y_cV1 dX8_difference_9 meX8_swornOf clX8 kd_58 wm_ml_X8_156 (kX8_swornOf) ⟨Nat.le_of_ble_eq_true rfl, Nat.le_of_ble_eq_true rfl⟩ ⟨rfl, rfl⟩ (Nat.le_of_ble_eq_true rfl) (fun v9 μ9 hp9 => ?_)
    obtain ⟨rfl, he9⟩ := hp9
    replace he9 := he9.symm
    subst he9
    refine y_ri ?_
    refine y_aload_n dX8_difference_12 rfl rfl ?_
    refine y_aload_n dX8_difference_13 rfl rfl ?_
    refine y_geti dX8_difference_14 32 clX8 kd_58 (by decide) wm_fl_X8_235 rfl rfl ?_
    refine y_cV1 dX8_difference_17 meX8_swornOf clX8 kd_58 wm_ml_X8_156 (kX8_swornOf) ⟨Nat.le_of_ble_eq_true rfl, Nat.le_of_ble_eq_true rfl⟩ ⟨rfl, rfl⟩ (Nat.le_of_ble_eq_true rfl) (fun v17 μ17 hp17 => ?_)
    obtain ⟨rfl, he17⟩ := hp17
    replace he17 := he17.symm
    subst he17
    refine y_ri ?_
    refine y_isub dX8_difference_20 ?_
    refine y_goto 41 dX8_difference_21 (by decide) ?_
    refine y_iret dX8_difference_41 ?_
    exact ⟨by simp_all [dfB], rfl⟩

def seD (B : Bool) (x : Int32) (μ : MemT) : Int32 := dfB B (seR x).2.1 (seR x).2.2 (μ 59) (μ 58 1) (μ 60)
def mkS (B : Bool) (z : Int32) (μ : MemT) (j : Nat) (w : S3T) : S3T := if seaB (nI j) (μ 58 0) (μ 62) && decide (seD B (nI j) μ = z) then (if w.1 < 0 ∨ onI ((seR (nI j)).2.1 ||| (seR (nI j)).2.2) < w.1 ∨ (onI ((seR (nI j)).2.1 ||| (seR (nI j)).2.2) = w.1 ∧ ((seR (nI j)).2.1 < w.2.1 ∨ ((seR (nI j)).2.1 = w.2.1 ∧ (seR (nI j)).2.2 < w.2.2))) then (onI ((seR (nI j)).2.1 ||| (seR (nI j)).2.2), (seR (nI j)).2.1, (seR (nI j)).2.2) else w) else w
def mkR (B : Bool) (z : Int32) (μ : MemT) : S3T := itr (mkS B z μ) 6561 0 (-6, 0, 0)
def mMake (z : Int32) (B : Bool) (w : Int32) (μ : MemT) : Int32 := if inR z 1 999 && inR w 0 2 then (if (mkR B z μ).1 < 0 ∨ w = 0 then (mkR B z μ).1 else if w = 1 then (mkR B z μ).2.1 else (mkR B z μ).2.2) else -2
def nrS (B : Bool) (z : Int32) (μ : MemT) (j : Nat) (a : Int32) : Int32 := if seaB (nI j) (μ 58 0) (μ 62) then (if abI (seD B (nI j) μ - z) < a then abI (seD B (nI j) μ - z) else a) else a
def mNear (z : Int32) (B : Bool) (μ : MemT) : Int32 := if inR z 1 999 then itr (nrS B z μ) 6561 0 z else -2
def gpS (B : Bool) (μ : MemT) (j : Nat) (d : Nat → Int32) : Nat → Int32 := if seaB (nI j) (μ 58 0) (μ 62) then (if seD B (nI j) μ ≤ 0 then d else upd d (cl (seD B (nI j) μ)) 1) else d
def gpR (B : Bool) (μ : MemT) : Nat → Int32 := itr (gpS B μ) 6561 0 (filF 3201 0 (μ 74))
def mGap (B : Bool) (μ : MemT) : Int32 := luB (gpR B μ)
theorem sea_lt {x : Int32} {t : Nat} {sp : Nat → Int32} (ht : t < 256) (h : seaB x (nI t) sp = true) : ∃ s : Nat, s < 256 ∧ (seR x).2.1 ||| (seR x).2.2 = nI s ∧ s &&& t = s := by
  rw [seaB, Bool.and_eq_true] at h
  exact subI_ex ht h.1

set_option maxRecDepth 100000 in
set_option maxHeartbeats 4000000 in
theorem kX8_make {l : Launch} {G : GT} {μ : MemT} {t : Nat} (ht : t < 256) (hth : μ 58 0 = nI t) {z w : Int32} {B : Bool} : sw_Met l G yX8_make cX8_make 10 (some .int) (rmk 3 65) [.ref (G.2.1 58), .int z, .int (bI B), .int w] μ (fun v μ2 => v = some (.int (mMake z B w μ)) ∧ ∃ f g : Int32, μ2 = seF f g μ) := by
  refine sw_Met.ofY (by decide) (Nat.le_of_ble_eq_true rfl) rfl ?_
  refine y_iload_n dX8_make_0 rfl rfl ?_
  refine y_i2l dX8_make_1 ?_
  refine y_lconst dX8_make_2 lc_1 ?_
  refine y_ldc2 dX8_make_3 wm_cl_X8_238 ?_
  refine y_cS3 dX8_make_6 meX8_in wm_ml_X8_77 (kX8_in (A := 1) (B := 999) rfl rfl) ⟨Nat.le_of_ble_eq_true rfl, Nat.le_of_ble_eq_true rfl⟩ ⟨rfl, rfl⟩ (Nat.le_of_ble_eq_true rfl) (fun v6 μ6 hp6 => ?_)
  obtain ⟨rfl, he6⟩ := hp6
  replace he6 := he6.symm
  subst he6
  refine y_ri ?_
  refine y_ifb_eq 24 dX8_make_9 (by decide) (fun h9 => ?_) (fun h9 => ?_)
  · refine y_bipush dX8_make_24 ib_m2 ?_
    refine y_iret dX8_make_26 ?_
    exact ⟨by simp_all [mMake], _, _, (seF_id μ).symm⟩
  · refine y_iload_n dX8_make_12 rfl rfl ?_
    refine y_i2l dX8_make_13 ?_
    refine y_lconst dX8_make_14 lc_0 ?_
    refine y_ldc2 dX8_make_15 wm_cl_X8_230 ?_
    refine y_cS3 dX8_make_18 meX8_in wm_ml_X8_77 (kX8_in (A := 0) (B := 2) rfl rfl) ⟨Nat.le_of_ble_eq_true rfl, Nat.le_of_ble_eq_true rfl⟩ ⟨rfl, rfl⟩ (Nat.le_of_ble_eq_true rfl) (fun v18 μ18 hp18 => ?_)
    obtain ⟨rfl, he18⟩ := hp18
    replace he18 := he18.symm
    subst he18
    refine y_ri ?_
    refine y_ifb_ne 27 dX8_make_21 (by decide) (fun h21 => ?_) (fun h21 => ?_)
    · refine y_bipush dX8_make_27 ib_m6 ?_
      refine y_istore dX8_make_29 rfl (by decide) ?_
      refine y_iconst dX8_make_31 ic_0 ?_
      refine y_istore dX8_make_32 rfl (by decide) ?_
      refine y_iconst dX8_make_34 ic_0 ?_
      refine y_istore dX8_make_35 rfl (by decide) ?_
      refine y_iconst (v := nI 0) dX8_make_37 icn_0 ?_
      refine y_istore dX8_make_38 rfl (by decide) ?_
      refine y_eq (show _ = seF (μ 58 31) (μ 58 32) μ from (seF_id μ).symm) rfl rfl ?_
      refine y_loop5 (fun (j : Nat) (x : Int32) (y : Int32) (u : Int32) (f : Int32) (g : Int32) => [some (.ref (G.2.1 58)), some (.int z), some (.int (bI B)), some (.int w), some (.int x), some (.int y), some (.int u), some (.int (nI j)), none, none]) (fun (j : Nat) (x : Int32) (y : Int32) (u : Int32) (f : Int32) (g : Int32) => seF f g μ) (fun (j : Nat) (x : Int32) (y : Int32) (u : Int32) (f : Int32) (g : Int32) => itr (mkS B z μ) (6561 - j) j (x, y, u) = mkR B z μ) 6561 (fun x y u f g hv40 => ?_) (fun j x y u f g hj hv40 ih40 => ?_) 0 (-6) (0) (0) (μ 58 31) (μ 58 32) (Nat.zero_le _) (rfl)
      · refine y_iload dX8_make_40 rfl ?_
        refine y_sipush dX8_make_42 is_6561 ?_
        refine y_icmp_ge 160 dX8_make_45 (by decide) (fun _ => ?_) (fun hq => absurd (by decide) hq)
        refine y_iload dX8_make_160 rfl ?_
        refine y_if_lt 169 dX8_make_162 (by decide) (fun h162 => ?_) (fun h162 => ?_)
        · refine y_iload dX8_make_169 rfl ?_
          refine y_goto 186 dX8_make_171 (by decide) ?_
          refine y_iret dX8_make_186 ?_
          have hv := itr_ex hv40
          refine ⟨?_, f, g, rfl⟩
          clear hv40
          have hv := hv.symm
          simp_all [-Int32.not_le, -Int32.not_lt, mMake]
        · refine y_iload_n dX8_make_165 rfl rfl ?_
          refine y_if_ne 174 dX8_make_166 (by decide) (fun h166 => ?_) (fun h166 => ?_)
          · refine y_iload_n dX8_make_174 rfl rfl ?_
            refine y_iconst dX8_make_175 ic_1 ?_
            refine y_icmp_ne 184 dX8_make_176 (by decide) (fun h176 => ?_) (fun h176 => ?_)
            · refine y_iload dX8_make_184 rfl ?_
              refine y_iret dX8_make_186 ?_
              have hv := itr_ex hv40
              refine ⟨?_, f, g, rfl⟩
              clear hv40
              have hv := hv.symm
              simp_all [-Int32.not_le, -Int32.not_lt, mMake]
            · refine y_iload dX8_make_179 rfl ?_
              refine y_goto 186 dX8_make_181 (by decide) ?_
              refine y_iret dX8_make_186 ?_
              have hv := itr_ex hv40
              refine ⟨?_, f, g, rfl⟩
              clear hv40
              have hv := hv.symm
              simp_all [-Int32.not_le, -Int32.not_lt, mMake]
          · refine y_iload dX8_make_169 rfl ?_
            refine y_goto 186 dX8_make_171 (by decide) ?_
            refine y_iret dX8_make_186 ?_
            have hv := itr_ex hv40
            refine ⟨?_, f, g, rfl⟩
            clear hv40
            have hv := hv.symm
            simp_all [-Int32.not_le, -Int32.not_lt, mMake]
      · refine y_iload dX8_make_40 rfl ?_
        refine y_sipush dX8_make_42 is_6561 ?_
        refine y_icmp_ge 160 dX8_make_45 (by decide) (fun hq => absurd hq (nI_ge (b := 6561) hj (by decide))) (fun _ => ?_)
        refine y_aload_n dX8_make_48 rfl rfl ?_
        refine y_iload dX8_make_49 rfl ?_
        refine y_cV1 dX8_make_51 meX8_seat clX8 kd_58 wm_ml_X8_240 (kX8_seat) ⟨Nat.le_of_ble_eq_true rfl, Nat.le_of_ble_eq_true rfl⟩ ⟨rfl, rfl⟩ (Nat.le_of_ble_eq_true rfl) (fun v51 μ51 hp51 => ?_)
        obtain ⟨rfl, he51⟩ := hp51
        replace he51 := he51.symm
        subst he51
        refine y_ri ?_
        refine y_ifb_eq 154 dX8_make_54 (by decide) (fun h54 => ?_) (fun h54 => ?_)
        · refine y_iinc (v := nI (j + 1)) dX8_make_154 rfl (nI_i1 _) rfl (by decide) ?_
          refine y_goto 40 dX8_make_157 (by decide) ?_
          refine y_drop 9 (y_drop 8 (y_eq (μ2 := seF (seR (nI j)).2.1 (seR (nI j)).2.2 μ) (seF_seF _ _ _ _ _) rfl rfl (ih40 _ _ _ _ _ (itr_nx hj hv40 ?_))))
          clear ih40 hv40
          have e1 : seF f g μ 58 0 = μ 58 0 := rfl
          have e2 : seF f g μ 62 = μ 62 := rfl
          simp only [e1, e2, seF_seF, seF_31, seF_32] at *
          have e3 : ∀ a b, dfB B a b (seF a b μ 59) (seF a b μ 58 1) (seF a b μ 60) = dfB B a b (μ 59) (μ 58 1) (μ 60) := fun a b => rfl
          simp only [e3] at *
          simp_all [mkS, seD] <;> grind
        · have h54b := h54
          rw [show seaB (nI j) (seF f g μ 58 0) (seF f g μ 62) = seaB (nI j) (nI t) (μ 62) from congrArg (fun q => seaB (nI j) q (μ 62)) hth] at h54b
          obtain ⟨s, hs256, hsI, -⟩ := sea_lt ht h54b
          refine y_aload_n dX8_make_57 rfl rfl ?_
          refine y_iload_n dX8_make_58 rfl rfl ?_
          refine y_cV1 dX8_make_59 meX8_difference clX8 kd_58 wm_ml_X8_243 (kX8_difference) ⟨Nat.le_of_ble_eq_true rfl, Nat.le_of_ble_eq_true rfl⟩ ⟨rfl, rfl⟩ (Nat.le_of_ble_eq_true rfl) (fun v59 μ59 hp59 => ?_)
          obtain ⟨rfl, he59⟩ := hp59
          replace he59 := he59.symm
          subst he59
          refine y_ri ?_
          refine y_iload_n dX8_make_62 rfl rfl ?_
          refine y_icmp_ne 154 dX8_make_63 (by decide) (fun h63 => ?_) (fun h63 => ?_)
          · refine y_iinc (v := nI (j + 1)) dX8_make_154 rfl (nI_i1 _) rfl (by decide) ?_
            refine y_goto 40 dX8_make_157 (by decide) ?_
            refine y_drop 9 (y_drop 8 (y_eq (μ2 := seF (seR (nI j)).2.1 (seR (nI j)).2.2 μ) (seF_seF _ _ _ _ _) rfl rfl (ih40 _ _ _ _ _ (itr_nx hj hv40 ?_))))
            clear ih40 hv40
            have e1 : seF f g μ 58 0 = μ 58 0 := rfl
            have e2 : seF f g μ 62 = μ 62 := rfl
            simp only [e1, e2, seF_seF, seF_31, seF_32] at *
            have e3 : ∀ a b, dfB B a b (seF a b μ 59) (seF a b μ 58 1) (seF a b μ 60) = dfB B a b (μ 59) (μ 58 1) (μ 60) := fun a b => rfl
            simp only [e3] at *
            simp_all [mkS, seD] <;> grind
          · refine y_aload_n dX8_make_66 rfl rfl ?_
            refine y_geti dX8_make_67 31 clX8 kd_58 (by decide) wm_fl_X8_232 rfl rfl ?_
            refine y_aload_n dX8_make_70 rfl rfl ?_
            refine y_geti dX8_make_71 32 clX8 kd_58 (by decide) wm_fl_X8_235 rfl rfl ?_
            refine y_ior dX8_make_74 ?_
            refine y_cS1 dX8_make_75 meX8_ones wm_ml_X8_99 (kX8_ones hs256 hsI) ⟨Nat.le_of_ble_eq_true rfl, Nat.le_of_ble_eq_true rfl⟩ ⟨rfl, rfl⟩ (Nat.le_of_ble_eq_true rfl) (fun v75 μ75 hp75 => ?_)
            obtain ⟨rfl, he75⟩ := hp75
            replace he75 := he75.symm
            subst he75
            refine y_ri ?_
            refine y_istore dX8_make_78 rfl (by decide) ?_
            refine y_aload_n dX8_make_80 rfl rfl ?_
            refine y_geti dX8_make_81 31 clX8 kd_58 (by decide) wm_fl_X8_232 rfl rfl ?_
            refine y_iload dX8_make_84 rfl ?_
            refine y_icmp_lt 107 dX8_make_86 (by decide) (fun h86 => ?_) (fun h86 => ?_)
            · refine y_iconst dX8_make_107 ic_1 ?_
              refine y_goto 112 dX8_make_108 (by decide) ?_
              refine y_istore dX8_make_112 rfl (by decide) ?_
              refine y_iload dX8_make_114 rfl ?_
              refine y_if_lt 138 dX8_make_116 (by decide) (fun h116 => ?_) (fun h116 => ?_)
              · refine y_iload dX8_make_138 rfl ?_
                refine y_istore dX8_make_140 rfl (by decide) ?_
                refine y_aload_n dX8_make_142 rfl rfl ?_
                refine y_geti dX8_make_143 31 clX8 kd_58 (by decide) wm_fl_X8_232 rfl rfl ?_
                refine y_istore dX8_make_146 rfl (by decide) ?_
                refine y_aload_n dX8_make_148 rfl rfl ?_
                refine y_geti dX8_make_149 32 clX8 kd_58 (by decide) wm_fl_X8_235 rfl rfl ?_
                refine y_istore dX8_make_152 rfl (by decide) ?_
                refine y_iinc (v := nI (j + 1)) dX8_make_154 rfl (nI_i1 _) rfl (by decide) ?_
                refine y_goto 40 dX8_make_157 (by decide) ?_
                refine y_drop 9 (y_drop 8 (y_eq (μ2 := seF (seR (nI j)).2.1 (seR (nI j)).2.2 μ) (seF_seF _ _ _ _ _) rfl rfl (ih40 _ _ _ _ _ (itr_nx hj hv40 ?_))))
                clear ih40 hv40
                have e1 : seF f g μ 58 0 = μ 58 0 := rfl
                have e2 : seF f g μ 62 = μ 62 := rfl
                simp only [e1, e2, seF_seF, seF_31, seF_32] at *
                have e3 : ∀ a b, dfB B a b (seF a b μ 59) (seF a b μ 58 1) (seF a b μ 60) = dfB B a b (μ 59) (μ 58 1) (μ 60) := fun a b => rfl
                simp only [e3] at *
                simp_all [mkS, seD] <;> grind
              · refine y_iload dX8_make_119 rfl ?_
                refine y_iload dX8_make_121 rfl ?_
                refine y_icmp_lt 138 dX8_make_123 (by decide) (fun h123 => ?_) (fun h123 => ?_)
                · refine y_iload dX8_make_138 rfl ?_
                  refine y_istore dX8_make_140 rfl (by decide) ?_
                  refine y_aload_n dX8_make_142 rfl rfl ?_
                  refine y_geti dX8_make_143 31 clX8 kd_58 (by decide) wm_fl_X8_232 rfl rfl ?_
                  refine y_istore dX8_make_146 rfl (by decide) ?_
                  refine y_aload_n dX8_make_148 rfl rfl ?_
                  refine y_geti dX8_make_149 32 clX8 kd_58 (by decide) wm_fl_X8_235 rfl rfl ?_
                  refine y_istore dX8_make_152 rfl (by decide) ?_
                  refine y_iinc (v := nI (j + 1)) dX8_make_154 rfl (nI_i1 _) rfl (by decide) ?_
                  refine y_goto 40 dX8_make_157 (by decide) ?_
                  refine y_drop 9 (y_drop 8 (y_eq (μ2 := seF (seR (nI j)).2.1 (seR (nI j)).2.2 μ) (seF_seF _ _ _ _ _) rfl rfl (ih40 _ _ _ _ _ (itr_nx hj hv40 ?_))))
                  clear ih40 hv40
                  have e1 : seF f g μ 58 0 = μ 58 0 := rfl
                  have e2 : seF f g μ 62 = μ 62 := rfl
                  simp only [e1, e2, seF_seF, seF_31, seF_32] at *
                  have e3 : ∀ a b, dfB B a b (seF a b μ 59) (seF a b μ 58 1) (seF a b μ 60) = dfB B a b (μ 59) (μ 58 1) (μ 60) := fun a b => rfl
                  simp only [e3] at *
                  simp_all [mkS, seD] <;> grind
                · refine y_iload dX8_make_126 rfl ?_
                  refine y_iload dX8_make_128 rfl ?_
                  refine y_icmp_ne 154 dX8_make_130 (by decide) (fun h130 => ?_) (fun h130 => ?_)
                  · refine y_iinc (v := nI (j + 1)) dX8_make_154 rfl (nI_i1 _) rfl (by decide) ?_
                    refine y_goto 40 dX8_make_157 (by decide) ?_
                    refine y_drop 9 (y_drop 8 (y_eq (μ2 := seF (seR (nI j)).2.1 (seR (nI j)).2.2 μ) (seF_seF _ _ _ _ _) rfl rfl (ih40 _ _ _ _ _ (itr_nx hj hv40 ?_))))
                    clear ih40 hv40
                    have e1 : seF f g μ 58 0 = μ 58 0 := rfl
                    have e2 : seF f g μ 62 = μ 62 := rfl
                    simp only [e1, e2, seF_seF, seF_31, seF_32] at *
                    have e3 : ∀ a b, dfB B a b (seF a b μ 59) (seF a b μ 58 1) (seF a b μ 60) = dfB B a b (μ 59) (μ 58 1) (μ 60) := fun a b => rfl
                    simp only [e3] at *
                    simp_all [mkS, seD] <;> grind
                  · refine y_iload dX8_make_133 rfl ?_
                    refine y_if_eq 154 dX8_make_135 (by decide) (fun hq => absurd hq (by decide)) (fun _ => ?_)
                    refine y_iload dX8_make_138 rfl ?_
                    refine y_istore dX8_make_140 rfl (by decide) ?_
                    refine y_aload_n dX8_make_142 rfl rfl ?_
                    refine y_geti dX8_make_143 31 clX8 kd_58 (by decide) wm_fl_X8_232 rfl rfl ?_
                    refine y_istore dX8_make_146 rfl (by decide) ?_
                    refine y_aload_n dX8_make_148 rfl rfl ?_
                    refine y_geti dX8_make_149 32 clX8 kd_58 (by decide) wm_fl_X8_235 rfl rfl ?_
                    refine y_istore dX8_make_152 rfl (by decide) ?_
                    refine y_iinc (v := nI (j + 1)) dX8_make_154 rfl (nI_i1 _) rfl (by decide) ?_
                    refine y_goto 40 dX8_make_157 (by decide) ?_
                    refine y_drop 9 (y_drop 8 (y_eq (μ2 := seF (seR (nI j)).2.1 (seR (nI j)).2.2 μ) (seF_seF _ _ _ _ _) rfl rfl (ih40 _ _ _ _ _ (itr_nx hj hv40 ?_))))
                    clear ih40 hv40
                    have e1 : seF f g μ 58 0 = μ 58 0 := rfl
                    have e2 : seF f g μ 62 = μ 62 := rfl
                    simp only [e1, e2, seF_seF, seF_31, seF_32] at *
                    have e3 : ∀ a b, dfB B a b (seF a b μ 59) (seF a b μ 58 1) (seF a b μ 60) = dfB B a b (μ 59) (μ 58 1) (μ 60) := fun a b => rfl
                    simp only [e3] at *
                    simp_all [mkS, seD] <;> grind
            · refine y_aload_n dX8_make_89 rfl rfl ?_
              refine y_geti dX8_make_90 31 clX8 kd_58 (by decide) wm_fl_X8_232 rfl rfl ?_
              refine y_iload dX8_make_93 rfl ?_
              refine y_icmp_ne 111 dX8_make_95 (by decide) (fun h95 => ?_) (fun h95 => ?_)
              · refine y_iconst dX8_make_111 ic_0 ?_
                refine y_istore dX8_make_112 rfl (by decide) ?_
                refine y_iload dX8_make_114 rfl ?_
                refine y_if_lt 138 dX8_make_116 (by decide) (fun h116 => ?_) (fun h116 => ?_)
                · refine y_iload dX8_make_138 rfl ?_
                  refine y_istore dX8_make_140 rfl (by decide) ?_
                  refine y_aload_n dX8_make_142 rfl rfl ?_
                  refine y_geti dX8_make_143 31 clX8 kd_58 (by decide) wm_fl_X8_232 rfl rfl ?_
                  refine y_istore dX8_make_146 rfl (by decide) ?_
                  refine y_aload_n dX8_make_148 rfl rfl ?_
                  refine y_geti dX8_make_149 32 clX8 kd_58 (by decide) wm_fl_X8_235 rfl rfl ?_
                  refine y_istore dX8_make_152 rfl (by decide) ?_
                  refine y_iinc (v := nI (j + 1)) dX8_make_154 rfl (nI_i1 _) rfl (by decide) ?_
                  refine y_goto 40 dX8_make_157 (by decide) ?_
                  refine y_drop 9 (y_drop 8 (y_eq (μ2 := seF (seR (nI j)).2.1 (seR (nI j)).2.2 μ) (seF_seF _ _ _ _ _) rfl rfl (ih40 _ _ _ _ _ (itr_nx hj hv40 ?_))))
                  clear ih40 hv40
                  have e1 : seF f g μ 58 0 = μ 58 0 := rfl
                  have e2 : seF f g μ 62 = μ 62 := rfl
                  simp only [e1, e2, seF_seF, seF_31, seF_32] at *
                  have e3 : ∀ a b, dfB B a b (seF a b μ 59) (seF a b μ 58 1) (seF a b μ 60) = dfB B a b (μ 59) (μ 58 1) (μ 60) := fun a b => rfl
                  simp only [e3] at *
                  simp_all [mkS, seD] <;> grind
                · refine y_iload dX8_make_119 rfl ?_
                  refine y_iload dX8_make_121 rfl ?_
                  refine y_icmp_lt 138 dX8_make_123 (by decide) (fun h123 => ?_) (fun h123 => ?_)
                  · refine y_iload dX8_make_138 rfl ?_
                    refine y_istore dX8_make_140 rfl (by decide) ?_
                    refine y_aload_n dX8_make_142 rfl rfl ?_
                    refine y_geti dX8_make_143 31 clX8 kd_58 (by decide) wm_fl_X8_232 rfl rfl ?_
                    refine y_istore dX8_make_146 rfl (by decide) ?_
                    refine y_aload_n dX8_make_148 rfl rfl ?_
                    refine y_geti dX8_make_149 32 clX8 kd_58 (by decide) wm_fl_X8_235 rfl rfl ?_
                    refine y_istore dX8_make_152 rfl (by decide) ?_
                    refine y_iinc (v := nI (j + 1)) dX8_make_154 rfl (nI_i1 _) rfl (by decide) ?_
                    refine y_goto 40 dX8_make_157 (by decide) ?_
                    refine y_drop 9 (y_drop 8 (y_eq (μ2 := seF (seR (nI j)).2.1 (seR (nI j)).2.2 μ) (seF_seF _ _ _ _ _) rfl rfl (ih40 _ _ _ _ _ (itr_nx hj hv40 ?_))))
                    clear ih40 hv40
                    have e1 : seF f g μ 58 0 = μ 58 0 := rfl
                    have e2 : seF f g μ 62 = μ 62 := rfl
                    simp only [e1, e2, seF_seF, seF_31, seF_32] at *
                    have e3 : ∀ a b, dfB B a b (seF a b μ 59) (seF a b μ 58 1) (seF a b μ 60) = dfB B a b (μ 59) (μ 58 1) (μ 60) := fun a b => rfl
                    simp only [e3] at *
                    simp_all [mkS, seD] <;> grind
                  · refine y_iload dX8_make_126 rfl ?_
                    refine y_iload dX8_make_128 rfl ?_
                    refine y_icmp_ne 154 dX8_make_130 (by decide) (fun h130 => ?_) (fun h130 => ?_)
                    · refine y_iinc (v := nI (j + 1)) dX8_make_154 rfl (nI_i1 _) rfl (by decide) ?_
                      refine y_goto 40 dX8_make_157 (by decide) ?_
                      refine y_drop 9 (y_drop 8 (y_eq (μ2 := seF (seR (nI j)).2.1 (seR (nI j)).2.2 μ) (seF_seF _ _ _ _ _) rfl rfl (ih40 _ _ _ _ _ (itr_nx hj hv40 ?_))))
                      clear ih40 hv40
                      have e1 : seF f g μ 58 0 = μ 58 0 := rfl
                      have e2 : seF f g μ 62 = μ 62 := rfl
                      simp only [e1, e2, seF_seF, seF_31, seF_32] at *
                      have e3 : ∀ a b, dfB B a b (seF a b μ 59) (seF a b μ 58 1) (seF a b μ 60) = dfB B a b (μ 59) (μ 58 1) (μ 60) := fun a b => rfl
                      simp only [e3] at *
                      simp_all [mkS, seD] <;> grind
                    · refine y_iload dX8_make_133 rfl ?_
                      refine y_if_eq 154 dX8_make_135 (by decide) (fun _ => ?_) (fun hq => absurd hq (by decide))
                      refine y_iinc (v := nI (j + 1)) dX8_make_154 rfl (nI_i1 _) rfl (by decide) ?_
                      refine y_goto 40 dX8_make_157 (by decide) ?_
                      refine y_drop 9 (y_drop 8 (y_eq (μ2 := seF (seR (nI j)).2.1 (seR (nI j)).2.2 μ) (seF_seF _ _ _ _ _) rfl rfl (ih40 _ _ _ _ _ (itr_nx hj hv40 ?_))))
                      clear ih40 hv40
                      have e1 : seF f g μ 58 0 = μ 58 0 := rfl
                      have e2 : seF f g μ 62 = μ 62 := rfl
                      simp only [e1, e2, seF_seF, seF_31, seF_32] at *
                      have e3 : ∀ a b, dfB B a b (seF a b μ 59) (seF a b μ 58 1) (seF a b μ 60) = dfB B a b (μ 59) (μ 58 1) (μ 60) := fun a b => rfl
                      simp only [e3] at *
                      simp_all [mkS, seD] <;> grind
              · refine y_aload_n dX8_make_98 rfl rfl ?_
                refine y_geti dX8_make_99 32 clX8 kd_58 (by decide) wm_fl_X8_235 rfl rfl ?_
                refine y_iload dX8_make_102 rfl ?_
                refine y_icmp_ge 111 dX8_make_104 (by decide) (fun h104 => ?_) (fun h104 => ?_)
                · refine y_iconst dX8_make_111 ic_0 ?_
                  refine y_istore dX8_make_112 rfl (by decide) ?_
                  refine y_iload dX8_make_114 rfl ?_
                  refine y_if_lt 138 dX8_make_116 (by decide) (fun h116 => ?_) (fun h116 => ?_)
                  · refine y_iload dX8_make_138 rfl ?_
                    refine y_istore dX8_make_140 rfl (by decide) ?_
                    refine y_aload_n dX8_make_142 rfl rfl ?_
                    refine y_geti dX8_make_143 31 clX8 kd_58 (by decide) wm_fl_X8_232 rfl rfl ?_
                    refine y_istore dX8_make_146 rfl (by decide) ?_
                    refine y_aload_n dX8_make_148 rfl rfl ?_
                    refine y_geti dX8_make_149 32 clX8 kd_58 (by decide) wm_fl_X8_235 rfl rfl ?_
                    refine y_istore dX8_make_152 rfl (by decide) ?_
                    refine y_iinc (v := nI (j + 1)) dX8_make_154 rfl (nI_i1 _) rfl (by decide) ?_
                    refine y_goto 40 dX8_make_157 (by decide) ?_
                    refine y_drop 9 (y_drop 8 (y_eq (μ2 := seF (seR (nI j)).2.1 (seR (nI j)).2.2 μ) (seF_seF _ _ _ _ _) rfl rfl (ih40 _ _ _ _ _ (itr_nx hj hv40 ?_))))
                    clear ih40 hv40
                    have e1 : seF f g μ 58 0 = μ 58 0 := rfl
                    have e2 : seF f g μ 62 = μ 62 := rfl
                    simp only [e1, e2, seF_seF, seF_31, seF_32] at *
                    have e3 : ∀ a b, dfB B a b (seF a b μ 59) (seF a b μ 58 1) (seF a b μ 60) = dfB B a b (μ 59) (μ 58 1) (μ 60) := fun a b => rfl
                    simp only [e3] at *
                    simp_all [mkS, seD] <;> grind
                  · refine y_iload dX8_make_119 rfl ?_
                    refine y_iload dX8_make_121 rfl ?_
                    refine y_icmp_lt 138 dX8_make_123 (by decide) (fun h123 => ?_) (fun h123 => ?_)
                    · refine y_iload dX8_make_138 rfl ?_
                      refine y_istore dX8_make_140 rfl (by decide) ?_
                      refine y_aload_n dX8_make_142 rfl rfl ?_
                      refine y_geti dX8_make_143 31 clX8 kd_58 (by decide) wm_fl_X8_232 rfl rfl ?_
                      refine y_istore dX8_make_146 rfl (by decide) ?_
                      refine y_aload_n dX8_make_148 rfl rfl ?_
                      refine y_geti dX8_make_149 32 clX8 kd_58 (by decide) wm_fl_X8_235 rfl rfl ?_
                      refine y_istore dX8_make_152 rfl (by decide) ?_
                      refine y_iinc (v := nI (j + 1)) dX8_make_154 rfl (nI_i1 _) rfl (by decide) ?_
                      refine y_goto 40 dX8_make_157 (by decide) ?_
                      refine y_drop 9 (y_drop 8 (y_eq (μ2 := seF (seR (nI j)).2.1 (seR (nI j)).2.2 μ) (seF_seF _ _ _ _ _) rfl rfl (ih40 _ _ _ _ _ (itr_nx hj hv40 ?_))))
                      clear ih40 hv40
                      have e1 : seF f g μ 58 0 = μ 58 0 := rfl
                      have e2 : seF f g μ 62 = μ 62 := rfl
                      simp only [e1, e2, seF_seF, seF_31, seF_32] at *
                      have e3 : ∀ a b, dfB B a b (seF a b μ 59) (seF a b μ 58 1) (seF a b μ 60) = dfB B a b (μ 59) (μ 58 1) (μ 60) := fun a b => rfl
                      simp only [e3] at *
                      simp_all [mkS, seD] <;> grind
                    · refine y_iload dX8_make_126 rfl ?_
                      refine y_iload dX8_make_128 rfl ?_
                      refine y_icmp_ne 154 dX8_make_130 (by decide) (fun h130 => ?_) (fun h130 => ?_)
                      · refine y_iinc (v := nI (j + 1)) dX8_make_154 rfl (nI_i1 _) rfl (by decide) ?_
                        refine y_goto 40 dX8_make_157 (by decide) ?_
                        refine y_drop 9 (y_drop 8 (y_eq (μ2 := seF (seR (nI j)).2.1 (seR (nI j)).2.2 μ) (seF_seF _ _ _ _ _) rfl rfl (ih40 _ _ _ _ _ (itr_nx hj hv40 ?_))))
                        clear ih40 hv40
                        have e1 : seF f g μ 58 0 = μ 58 0 := rfl
                        have e2 : seF f g μ 62 = μ 62 := rfl
                        simp only [e1, e2, seF_seF, seF_31, seF_32] at *
                        have e3 : ∀ a b, dfB B a b (seF a b μ 59) (seF a b μ 58 1) (seF a b μ 60) = dfB B a b (μ 59) (μ 58 1) (μ 60) := fun a b => rfl
                        simp only [e3] at *
                        simp_all [mkS, seD] <;> grind
                      · refine y_iload dX8_make_133 rfl ?_
                        refine y_if_eq 154 dX8_make_135 (by decide) (fun _ => ?_) (fun hq => absurd hq (by decide))
                        refine y_iinc (v := nI (j + 1)) dX8_make_154 rfl (nI_i1 _) rfl (by decide) ?_
                        refine y_goto 40 dX8_make_157 (by decide) ?_
                        refine y_drop 9 (y_drop 8 (y_eq (μ2 := seF (seR (nI j)).2.1 (seR (nI j)).2.2 μ) (seF_seF _ _ _ _ _) rfl rfl (ih40 _ _ _ _ _ (itr_nx hj hv40 ?_))))
                        clear ih40 hv40
                        have e1 : seF f g μ 58 0 = μ 58 0 := rfl
                        have e2 : seF f g μ 62 = μ 62 := rfl
                        simp only [e1, e2, seF_seF, seF_31, seF_32] at *
                        have e3 : ∀ a b, dfB B a b (seF a b μ 59) (seF a b μ 58 1) (seF a b μ 60) = dfB B a b (μ 59) (μ 58 1) (μ 60) := fun a b => rfl
                        simp only [e3] at *
                        simp_all [mkS, seD] <;> grind
                · refine y_iconst dX8_make_107 ic_1 ?_
                  refine y_goto 112 dX8_make_108 (by decide) ?_
                  refine y_istore dX8_make_112 rfl (by decide) ?_
                  refine y_iload dX8_make_114 rfl ?_
                  refine y_if_lt 138 dX8_make_116 (by decide) (fun h116 => ?_) (fun h116 => ?_)
                  · refine y_iload dX8_make_138 rfl ?_
                    refine y_istore dX8_make_140 rfl (by decide) ?_
                    refine y_aload_n dX8_make_142 rfl rfl ?_
                    refine y_geti dX8_make_143 31 clX8 kd_58 (by decide) wm_fl_X8_232 rfl rfl ?_
                    refine y_istore dX8_make_146 rfl (by decide) ?_
                    refine y_aload_n dX8_make_148 rfl rfl ?_
                    refine y_geti dX8_make_149 32 clX8 kd_58 (by decide) wm_fl_X8_235 rfl rfl ?_
                    refine y_istore dX8_make_152 rfl (by decide) ?_
                    refine y_iinc (v := nI (j + 1)) dX8_make_154 rfl (nI_i1 _) rfl (by decide) ?_
                    refine y_goto 40 dX8_make_157 (by decide) ?_
                    refine y_drop 9 (y_drop 8 (y_eq (μ2 := seF (seR (nI j)).2.1 (seR (nI j)).2.2 μ) (seF_seF _ _ _ _ _) rfl rfl (ih40 _ _ _ _ _ (itr_nx hj hv40 ?_))))
                    clear ih40 hv40
                    have e1 : seF f g μ 58 0 = μ 58 0 := rfl
                    have e2 : seF f g μ 62 = μ 62 := rfl
                    simp only [e1, e2, seF_seF, seF_31, seF_32] at *
                    have e3 : ∀ a b, dfB B a b (seF a b μ 59) (seF a b μ 58 1) (seF a b μ 60) = dfB B a b (μ 59) (μ 58 1) (μ 60) := fun a b => rfl
                    simp only [e3] at *
                    simp_all [mkS, seD] <;> grind
                  · refine y_iload dX8_make_119 rfl ?_
                    refine y_iload dX8_make_121 rfl ?_
                    refine y_icmp_lt 138 dX8_make_123 (by decide) (fun h123 => ?_) (fun h123 => ?_)
                    · refine y_iload dX8_make_138 rfl ?_
                      refine y_istore dX8_make_140 rfl (by decide) ?_
                      refine y_aload_n dX8_make_142 rfl rfl ?_
                      refine y_geti dX8_make_143 31 clX8 kd_58 (by decide) wm_fl_X8_232 rfl rfl ?_
                      refine y_istore dX8_make_146 rfl (by decide) ?_
                      refine y_aload_n dX8_make_148 rfl rfl ?_
                      refine y_geti dX8_make_149 32 clX8 kd_58 (by decide) wm_fl_X8_235 rfl rfl ?_
                      refine y_istore dX8_make_152 rfl (by decide) ?_
                      refine y_iinc (v := nI (j + 1)) dX8_make_154 rfl (nI_i1 _) rfl (by decide) ?_
                      refine y_goto 40 dX8_make_157 (by decide) ?_
                      refine y_drop 9 (y_drop 8 (y_eq (μ2 := seF (seR (nI j)).2.1 (seR (nI j)).2.2 μ) (seF_seF _ _ _ _ _) rfl rfl (ih40 _ _ _ _ _ (itr_nx hj hv40 ?_))))
                      clear ih40 hv40
                      have e1 : seF f g μ 58 0 = μ 58 0 := rfl
                      have e2 : seF f g μ 62 = μ 62 := rfl
                      simp only [e1, e2, seF_seF, seF_31, seF_32] at *
                      have e3 : ∀ a b, dfB B a b (seF a b μ 59) (seF a b μ 58 1) (seF a b μ 60) = dfB B a b (μ 59) (μ 58 1) (μ 60) := fun a b => rfl
                      simp only [e3] at *
                      simp_all [mkS, seD] <;> grind
                    · refine y_iload dX8_make_126 rfl ?_
                      refine y_iload dX8_make_128 rfl ?_
                      refine y_icmp_ne 154 dX8_make_130 (by decide) (fun h130 => ?_) (fun h130 => ?_)
                      · refine y_iinc (v := nI (j + 1)) dX8_make_154 rfl (nI_i1 _) rfl (by decide) ?_
                        refine y_goto 40 dX8_make_157 (by decide) ?_
                        refine y_drop 9 (y_drop 8 (y_eq (μ2 := seF (seR (nI j)).2.1 (seR (nI j)).2.2 μ) (seF_seF _ _ _ _ _) rfl rfl (ih40 _ _ _ _ _ (itr_nx hj hv40 ?_))))
                        clear ih40 hv40
                        have e1 : seF f g μ 58 0 = μ 58 0 := rfl
                        have e2 : seF f g μ 62 = μ 62 := rfl
                        simp only [e1, e2, seF_seF, seF_31, seF_32] at *
                        have e3 : ∀ a b, dfB B a b (seF a b μ 59) (seF a b μ 58 1) (seF a b μ 60) = dfB B a b (μ 59) (μ 58 1) (μ 60) := fun a b => rfl
                        simp only [e3] at *
                        simp_all [mkS, seD] <;> grind
                      · refine y_iload dX8_make_133 rfl ?_
                        refine y_if_eq 154 dX8_make_135 (by decide) (fun hq => absurd hq (by decide)) (fun _ => ?_)
                        refine y_iload dX8_make_138 rfl ?_
                        refine y_istore dX8_make_140 rfl (by decide) ?_
                        refine y_aload_n dX8_make_142 rfl rfl ?_
                        refine y_geti dX8_make_143 31 clX8 kd_58 (by decide) wm_fl_X8_232 rfl rfl ?_
                        refine y_istore dX8_make_146 rfl (by decide) ?_
                        refine y_aload_n dX8_make_148 rfl rfl ?_
                        refine y_geti dX8_make_149 32 clX8 kd_58 (by decide) wm_fl_X8_235 rfl rfl ?_
                        refine y_istore dX8_make_152 rfl (by decide) ?_
                        refine y_iinc (v := nI (j + 1)) dX8_make_154 rfl (nI_i1 _) rfl (by decide) ?_
                        refine y_goto 40 dX8_make_157 (by decide) ?_
                        refine y_drop 9 (y_drop 8 (y_eq (μ2 := seF (seR (nI j)).2.1 (seR (nI j)).2.2 μ) (seF_seF _ _ _ _ _) rfl rfl (ih40 _ _ _ _ _ (itr_nx hj hv40 ?_))))
                        clear ih40 hv40
                        have e1 : seF f g μ 58 0 = μ 58 0 := rfl
                        have e2 : seF f g μ 62 = μ 62 := rfl
                        simp only [e1, e2, seF_seF, seF_31, seF_32] at *
                        have e3 : ∀ a b, dfB B a b (seF a b μ 59) (seF a b μ 58 1) (seF a b μ 60) = dfB B a b (μ 59) (μ 58 1) (μ 60) := fun a b => rfl
                        simp only [e3] at *
                        simp_all [mkS, seD] <;> grind
    · refine y_bipush dX8_make_24 ib_m2 ?_
      refine y_iret dX8_make_26 ?_
      exact ⟨by simp_all [mMake], _, _, (seF_id μ).symm⟩

set_option maxRecDepth 100000 in
set_option maxHeartbeats 4000000 in
theorem kX8_near {l : Launch} {G : GT} {μ : MemT} {z : Int32} {B : Bool} : sw_Met l G yX8_near cX8_near 6 (some .int) (rmk 3 65) [.ref (G.2.1 58), .int z, .int (bI B)] μ (fun v μ2 => v = some (.int (mNear z B μ)) ∧ ∃ f g : Int32, μ2 = seF f g μ) := by
  refine sw_Met.ofY (by decide) (Nat.le_of_ble_eq_true rfl) rfl ?_
  refine y_iload_n dX8_near_0 rfl rfl ?_
  refine y_i2l dX8_near_1 ?_
  refine y_lconst dX8_near_2 lc_1 ?_
  refine y_ldc2 dX8_near_3 wm_cl_X8_238 ?_
  refine y_cS3 dX8_near_6 meX8_in wm_ml_X8_77 (kX8_in (A := 1) (B := 999) rfl rfl) ⟨Nat.le_of_ble_eq_true rfl, Nat.le_of_ble_eq_true rfl⟩ ⟨rfl, rfl⟩ (Nat.le_of_ble_eq_true rfl) (fun v6 μ6 hp6 => ?_)
  obtain ⟨rfl, he6⟩ := hp6
  replace he6 := he6.symm
  subst he6
  refine y_ri ?_
  refine y_ifb_ne 15 dX8_near_9 (by decide) (fun h9 => ?_) (fun h9 => ?_)
  · refine y_iload_n dX8_near_15 rfl rfl ?_
    refine y_istore_n dX8_near_16 rfl rfl (by decide) ?_
    refine y_iconst (v := nI 0) dX8_near_17 icn_0 ?_
    refine y_istore dX8_near_18 rfl (by decide) ?_
    refine y_eq (show _ = seF (μ 58 31) (μ 58 32) μ from (seF_id μ).symm) rfl rfl ?_
    refine y_loop3 (fun (j : Nat) (x : Int32) (f : Int32) (g : Int32) => [some (.ref (G.2.1 58)), some (.int z), some (.int (bI B)), some (.int x), some (.int (nI j)), none]) (fun (j : Nat) (x : Int32) (f : Int32) (g : Int32) => seF f g μ) (fun (j : Nat) (x : Int32) (f : Int32) (g : Int32) => itr (nrS B z μ) (6561 - j) j x = itr (nrS B z μ) 6561 0 z) 6561 (fun x f g hv20 => ?_) (fun j x f g hj hv20 ih20 => ?_) 0 (z) (μ 58 31) (μ 58 32) (Nat.zero_le _) (rfl)
    · refine y_iload dX8_near_20 rfl ?_
      refine y_sipush dX8_near_22 is_6561 ?_
      refine y_icmp_ge 68 dX8_near_25 (by decide) (fun _ => ?_) (fun hq => absurd (by decide) hq)
      refine y_iload_n dX8_near_68 rfl rfl ?_
      refine y_iret dX8_near_69 ?_
      have hv := (itr_ex hv20).symm
      refine ⟨?_, f, g, rfl⟩
      clear hv20
      simp_all [mNear]
    · refine y_iload dX8_near_20 rfl ?_
      refine y_sipush dX8_near_22 is_6561 ?_
      refine y_icmp_ge 68 dX8_near_25 (by decide) (fun hq => absurd hq (nI_ge (b := 6561) hj (by decide))) (fun _ => ?_)
      refine y_aload_n dX8_near_28 rfl rfl ?_
      refine y_iload dX8_near_29 rfl ?_
      refine y_cV1 dX8_near_31 meX8_seat clX8 kd_58 wm_ml_X8_240 (kX8_seat) ⟨Nat.le_of_ble_eq_true rfl, Nat.le_of_ble_eq_true rfl⟩ ⟨rfl, rfl⟩ (Nat.le_of_ble_eq_true rfl) (fun v31 μ31 hp31 => ?_)
      obtain ⟨rfl, he31⟩ := hp31
      replace he31 := he31.symm
      subst he31
      refine y_ri ?_
      refine y_ifb_eq 62 dX8_near_34 (by decide) (fun h34 => ?_) (fun h34 => ?_)
      · refine y_iinc (v := nI (j + 1)) dX8_near_62 rfl (nI_i1 _) rfl (by decide) ?_
        refine y_goto 20 dX8_near_65 (by decide) ?_
        refine y_drop 5 (y_eq (μ2 := seF (seR (nI j)).2.1 (seR (nI j)).2.2 μ) (seF_seF _ _ _ _ _) rfl rfl (ih20 _ _ _ (itr_nx hj hv20 ?_)))
        clear ih20 hv20
        have e1 : seF f g μ 58 0 = μ 58 0 := rfl
        have e2 : seF f g μ 62 = μ 62 := rfl
        simp only [e1, e2, seF_seF, seF_31, seF_32] at *
        have e3 : ∀ a b, dfB B a b (seF a b μ 59) (seF a b μ 58 1) (seF a b μ 60) = dfB B a b (μ 59) (μ 58 1) (μ 60) := fun a b => rfl
        simp only [e3] at *
        simp_all [-Int32.not_le, -Int32.not_lt, nrS, seD] <;> grind
      · refine y_aload_n dX8_near_37 rfl rfl ?_
        refine y_iload_n dX8_near_38 rfl rfl ?_
        refine y_cV1 dX8_near_39 meX8_difference clX8 kd_58 wm_ml_X8_243 (kX8_difference) ⟨Nat.le_of_ble_eq_true rfl, Nat.le_of_ble_eq_true rfl⟩ ⟨rfl, rfl⟩ (Nat.le_of_ble_eq_true rfl) (fun v39 μ39 hp39 => ?_)
        obtain ⟨rfl, he39⟩ := hp39
        replace he39 := he39.symm
        subst he39
        refine y_ri ?_
        refine y_iload_n dX8_near_42 rfl rfl ?_
        refine y_isub dX8_near_43 ?_
        refine y_cS1 dX8_near_44 meX8_size wm_ml_X8_180 (kX8_size) ⟨Nat.le_of_ble_eq_true rfl, Nat.le_of_ble_eq_true rfl⟩ ⟨rfl, rfl⟩ (Nat.le_of_ble_eq_true rfl) (fun v44 μ44 hp44 => ?_)
        obtain ⟨rfl, he44⟩ := hp44
        replace he44 := he44.symm
        subst he44
        refine y_ri ?_
        refine y_istore dX8_near_47 rfl (by decide) ?_
        refine y_iload dX8_near_49 rfl ?_
        refine y_iload_n dX8_near_51 rfl rfl ?_
        refine y_icmp_ge 60 dX8_near_52 (by decide) (fun h52 => ?_) (fun h52 => ?_)
        · refine y_iload_n dX8_near_60 rfl rfl ?_
          refine y_istore_n dX8_near_61 rfl rfl (by decide) ?_
          refine y_iinc (v := nI (j + 1)) dX8_near_62 rfl (nI_i1 _) rfl (by decide) ?_
          refine y_goto 20 dX8_near_65 (by decide) ?_
          refine y_drop 5 (y_eq (μ2 := seF (seR (nI j)).2.1 (seR (nI j)).2.2 μ) (seF_seF _ _ _ _ _) rfl rfl (ih20 _ _ _ (itr_nx hj hv20 ?_)))
          clear ih20 hv20
          have e1 : seF f g μ 58 0 = μ 58 0 := rfl
          have e2 : seF f g μ 62 = μ 62 := rfl
          simp only [e1, e2, seF_seF, seF_31, seF_32] at *
          have e3 : ∀ a b, dfB B a b (seF a b μ 59) (seF a b μ 58 1) (seF a b μ 60) = dfB B a b (μ 59) (μ 58 1) (μ 60) := fun a b => rfl
          simp only [e3] at *
          simp_all [-Int32.not_le, -Int32.not_lt, nrS, seD] <;> grind
        · refine y_iload dX8_near_55 rfl ?_
          refine y_goto 61 dX8_near_57 (by decide) ?_
          refine y_istore_n dX8_near_61 rfl rfl (by decide) ?_
          refine y_iinc (v := nI (j + 1)) dX8_near_62 rfl (nI_i1 _) rfl (by decide) ?_
          refine y_goto 20 dX8_near_65 (by decide) ?_
          refine y_drop 5 (y_eq (μ2 := seF (seR (nI j)).2.1 (seR (nI j)).2.2 μ) (seF_seF _ _ _ _ _) rfl rfl (ih20 _ _ _ (itr_nx hj hv20 ?_)))
          clear ih20 hv20
          have e1 : seF f g μ 58 0 = μ 58 0 := rfl
          have e2 : seF f g μ 62 = μ 62 := rfl
          simp only [e1, e2, seF_seF, seF_31, seF_32] at *
          have e3 : ∀ a b, dfB B a b (seF a b μ 59) (seF a b μ 58 1) (seF a b μ 60) = dfB B a b (μ 59) (μ 58 1) (μ 60) := fun a b => rfl
          simp only [e3] at *
          simp_all [-Int32.not_le, -Int32.not_lt, nrS, seD] <;> grind
  · refine y_bipush dX8_near_12 ib_m2 ?_
    refine y_iret dX8_near_14 ?_
    exact ⟨by simp_all [mNear], _, _, (seF_id μ).symm⟩
