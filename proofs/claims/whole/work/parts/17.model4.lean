/-! the reference: seats -/
abbrev S3T : Type := Int32 × Int32 × Int32
def stS (p : Nat) (w : S3T) : S3T := (w.1 / 3, w.2.1 ||| (if w.1 - w.1 / 3 * 3 = 1 then 1 <<< (nI p &&& 31) else 0), w.2.2 ||| (if w.1 - w.1 / 3 * 3 = 2 then 1 <<< (nI p &&& 31) else 0))
def seR (x : Int32) : S3T := itr stS 8 0 (x, 0, 0)
def seF (f g : Int32) (μ : MemT) : MemT := mset μ 58 (upd (upd (μ 58) 31 f) 32 g)
theorem seF_seF (f g f2 g2 : Int32) (μ : MemT) : seF f g (seF f2 g2 μ) = seF f g μ := by
  unfold seF
  rw [mset_self, mset_mset]
  congr 1
  funext i
  unfold upd
  split
  · rfl
  · split
    · rfl
    · simp_all
theorem seF_31 (f g : Int32) (μ : MemT) : seF f g μ 58 31 = f := rfl
theorem seF_32 (f g : Int32) (μ : MemT) : seF f g μ 58 32 = g := rfl
theorem seF_f (f g : Int32) (μ : MemT) {i : Nat} (h1 : i ≠ 31) (h2 : i ≠ 32) : seF f g μ 58 i = μ 58 i := by simp [seF, mset, upd, h1, h2]
theorem seF_ne (f g : Int32) (μ : MemT) {k : Nat} (h : k ≠ 58) : seF f g μ k = μ k := by simp [seF, mset, h]
theorem seF_id (μ : MemT) : seF (μ 58 31) (μ 58 32) μ = μ := by
  unfold seF
  rw [upd_id, upd_id, mset_same]
theorem seF_31u (f g f2 : Int32) (μ : MemT) : mset (seF f g μ) 58 (upd (seF f g μ 58) 31 f2) = seF f2 g μ := by
  simp only [seF, mset_mset, mset_self]
  congr 1
  funext i
  by_cases h1 : i = 31 <;> by_cases h2 : i = 32 <;> simp_all [upd]
theorem seF_32u (f g g2 : Int32) (μ : MemT) : mset (seF f g μ) 58 (upd (seF f g μ 58) 32 g2) = seF f g2 μ := by
  simp only [seF, mset_mset, mset_self]
  congr 1
  funext i
  by_cases h1 : i = 31 <;> by_cases h2 : i = 32 <;> simp_all [upd]
def seaB (x t : Int32) (sp : Nat → Int32) : Bool := subI ((seR x).2.1 ||| (seR x).2.2) t && (togM (seR x).2.1 sp && togM (seR x).2.2 sp)
def dfB (B : Bool) (f g : Int32) (sw : Nat → Int32) (c : Int32) (w : Nat → Int32) : Int32 := if B then sumB f sw - sumB g sw else wcB f c w - wcB g c w
theorem or_0 (x : Int32) : x ||| 0 = x := by
  apply Int32.toBitVec_inj.mp
  rw [Int32.toBitVec_or]
  show x.toBitVec ||| 0#32 = _
  simp

set_option maxRecDepth 100000 in
set_option maxHeartbeats 4000000 in
theorem kX8_seat {l : Launch} {G : GT} {μ : MemT} {x : Int32} : sw_Met l G yX8_seat cX8_seat 4 (some .boolean) (rmk 1 23) [.ref (G.2.1 58), .int x] μ (fun v μ2 => v = some (.int (bI (seaB x (μ 58 0) (μ 62)))) ∧ μ2 = seF (seR x).2.1 (seR x).2.2 μ) := by
  refine sw_Met.ofY (by decide) (Nat.le_of_ble_eq_true rfl) rfl ?_
  refine y_aload_n dX8_seat_0 rfl rfl ?_
  refine y_iconst dX8_seat_1 ic_0 ?_
  refine y_puti dX8_seat_2 31 clX8 kd_58 (by decide) wm_fl_X8_232 rfl rfl rfl rfl (tyX8_ok 31 (by decide)) rfl rfl ?_
  refine y_aload_n dX8_seat_5 rfl rfl ?_
  refine y_iconst dX8_seat_6 ic_0 ?_
  refine y_puti dX8_seat_7 32 clX8 kd_58 (by decide) wm_fl_X8_235 rfl rfl rfl rfl (tyX8_ok 32 (by decide)) rfl rfl ?_
  refine y_iload_n dX8_seat_10 rfl rfl ?_
  refine y_istore_n dX8_seat_11 rfl rfl (by decide) ?_
  refine y_iconst (v := nI 0) dX8_seat_12 icn_0 ?_
  refine y_istore_n dX8_seat_13 rfl rfl (by decide) ?_
  refine y_eq (show _ = seF 0 0 μ by simp [seF, mset_mset, mset]) rfl rfl ?_
  refine y_loop3 (fun (j : Nat) (e : Int32) (f : Int32) (g : Int32) => [some (.ref (G.2.1 58)), some (.int x), some (.int e), some (.int (nI j))]) (fun (j : Nat) (e : Int32) (f : Int32) (g : Int32) => seF f g μ) (fun (j : Nat) (e : Int32) (f : Int32) (g : Int32) => itr stS (8 - j) j (e, f, g) = seR x) 8 (fun e f g hv14 => ?_) (fun j e f g hj hv14 ih14 => ?_) 0 (x) (0) (0) (Nat.zero_le _) (rfl)
  · refine y_iload_n dX8_seat_14 rfl rfl ?_
    refine y_bipush dX8_seat_15 ib_8 ?_
    refine y_icmp_ge 76 dX8_seat_17 (by decide) (fun _ => ?_) (fun hq => absurd (by decide) hq)
    refine y_aload_n dX8_seat_76 rfl rfl ?_
    refine y_geti dX8_seat_77 31 clX8 kd_58 (by decide) wm_fl_X8_232 rfl rfl ?_
    refine y_aload_n dX8_seat_80 rfl rfl ?_
    refine y_geti dX8_seat_81 32 clX8 kd_58 (by decide) wm_fl_X8_235 rfl rfl ?_
    refine y_ior dX8_seat_84 ?_
    refine y_aload_n dX8_seat_85 rfl rfl ?_
    refine y_geti dX8_seat_86 0 clX8 kd_58 (by decide) wm_fl_X8_81 rfl rfl ?_
    refine y_iconst dX8_seat_89 ic_m1 ?_
    refine y_ixor dX8_seat_90 ?_
    refine y_iand dX8_seat_91 ?_
    refine y_if_ne 121 dX8_seat_92 (by decide) (fun h92 => ?_) (fun h92 => ?_)
    · refine y_iconst dX8_seat_121 ic_0 ?_
      refine y_zret dX8_seat_122 rfl ?_
      have hv := itr_ex hv14
      have h1 : f = (seR x).2.1 := by rw [← hv]
      have h2 : g = (seR x).2.2 := by rw [← hv]
      subst h1; subst h2
      refine ⟨?_, rfl⟩
      clear hv14 hv
      simp_all [bI, seaB, subI, seF_31, seF_32, seF_f, seF_ne]
    · refine y_aload_n dX8_seat_95 rfl rfl ?_
      refine y_aload_n dX8_seat_96 rfl rfl ?_
      refine y_geti dX8_seat_97 31 clX8 kd_58 (by decide) wm_fl_X8_232 rfl rfl ?_
      refine y_cV1 dX8_seat_100 meX8_areTogether clX8 kd_58 wm_ml_X8_153 (kX8_areTogether) ⟨Nat.le_of_ble_eq_true rfl, Nat.le_of_ble_eq_true rfl⟩ ⟨rfl, rfl⟩ (Nat.le_of_ble_eq_true rfl) (fun v100 μ100 hp100 => ?_)
      obtain ⟨rfl, he100⟩ := hp100
      replace he100 := he100.symm
      subst he100
      refine y_ri ?_
      refine y_ifb_eq 121 dX8_seat_103 (by decide) (fun h103 => ?_) (fun h103 => ?_)
      · refine y_iconst dX8_seat_121 ic_0 ?_
        refine y_zret dX8_seat_122 rfl ?_
        have hv := itr_ex hv14
        have h1 : f = (seR x).2.1 := by rw [← hv]
        have h2 : g = (seR x).2.2 := by rw [← hv]
        subst h1; subst h2
        refine ⟨?_, rfl⟩
        clear hv14 hv
        simp_all [bI, seaB, subI, seF_31, seF_32, seF_f, seF_ne]
      · refine y_aload_n dX8_seat_106 rfl rfl ?_
        refine y_aload_n dX8_seat_107 rfl rfl ?_
        refine y_geti dX8_seat_108 32 clX8 kd_58 (by decide) wm_fl_X8_235 rfl rfl ?_
        refine y_cV1 dX8_seat_111 meX8_areTogether clX8 kd_58 wm_ml_X8_153 (kX8_areTogether) ⟨Nat.le_of_ble_eq_true rfl, Nat.le_of_ble_eq_true rfl⟩ ⟨rfl, rfl⟩ (Nat.le_of_ble_eq_true rfl) (fun v111 μ111 hp111 => ?_)
        obtain ⟨rfl, he111⟩ := hp111
        replace he111 := he111.symm
        subst he111
        refine y_ri ?_
        refine y_ifb_eq 121 dX8_seat_114 (by decide) (fun h114 => ?_) (fun h114 => ?_)
        · refine y_iconst dX8_seat_121 ic_0 ?_
          refine y_zret dX8_seat_122 rfl ?_
          have hv := itr_ex hv14
          have h1 : f = (seR x).2.1 := by rw [← hv]
          have h2 : g = (seR x).2.2 := by rw [← hv]
          subst h1; subst h2
          refine ⟨?_, rfl⟩
          clear hv14 hv
          simp_all [bI, seaB, subI, seF_31, seF_32, seF_f, seF_ne]
        · refine y_iconst dX8_seat_117 ic_1 ?_
          refine y_goto 122 dX8_seat_118 (by decide) ?_
          refine y_zret dX8_seat_122 rfl ?_
          have hv := itr_ex hv14
          have h1 : f = (seR x).2.1 := by rw [← hv]
          have h2 : g = (seR x).2.2 := by rw [← hv]
          subst h1; subst h2
          refine ⟨?_, rfl⟩
          clear hv14 hv
          simp_all [bI, seaB, subI, seF_31, seF_32, seF_f, seF_ne]
  · refine y_iload_n dX8_seat_14 rfl rfl ?_
    refine y_bipush dX8_seat_15 ib_8 ?_
    refine y_icmp_ge 76 dX8_seat_17 (by decide) (fun hq => absurd hq (nI_ge (b := 8) hj (by decide))) (fun _ => ?_)
    refine y_aload_n dX8_seat_20 rfl rfl ?_
    refine y_dup dX8_seat_21 rfl ?_
    refine y_geti dX8_seat_22 31 clX8 kd_58 (by decide) wm_fl_X8_232 rfl rfl ?_
    refine y_iload_n dX8_seat_25 rfl rfl ?_
    refine y_iconst dX8_seat_26 ic_3 ?_
    refine y_irem dX8_seat_27 (by decide) ?_
    refine y_iconst dX8_seat_28 ic_1 ?_
    refine y_icmp_ne 38 dX8_seat_29 (by decide) (fun h29 => ?_) (fun h29 => ?_)
    · refine y_iconst dX8_seat_38 ic_0 ?_
      refine y_ior dX8_seat_39 ?_
      refine y_puti dX8_seat_40 31 clX8 kd_58 (by decide) wm_fl_X8_232 rfl rfl rfl rfl (tyX8_ok 31 (by decide)) rfl rfl ?_
      refine y_aload_n dX8_seat_43 rfl rfl ?_
      refine y_dup dX8_seat_44 rfl ?_
      refine y_geti dX8_seat_45 32 clX8 kd_58 (by decide) wm_fl_X8_235 rfl rfl ?_
      refine y_iload_n dX8_seat_48 rfl rfl ?_
      refine y_iconst dX8_seat_49 ic_3 ?_
      refine y_irem dX8_seat_50 (by decide) ?_
      refine y_iconst dX8_seat_51 ic_2 ?_
      refine y_icmp_ne 61 dX8_seat_52 (by decide) (fun h52 => ?_) (fun h52 => ?_)
      · refine y_iconst dX8_seat_61 ic_0 ?_
        refine y_ior dX8_seat_62 ?_
        refine y_puti dX8_seat_63 32 clX8 kd_58 (by decide) wm_fl_X8_235 rfl rfl rfl rfl (tyX8_ok 32 (by decide)) rfl rfl ?_
        refine y_iload_n dX8_seat_66 rfl rfl ?_
        refine y_iconst dX8_seat_67 ic_3 ?_
        refine y_idiv dX8_seat_68 (by decide) ?_
        refine y_istore_n dX8_seat_69 rfl rfl (by decide) ?_
        refine y_iinc (v := nI (j + 1)) dX8_seat_70 rfl (nI_i1 _) rfl (by decide) ?_
        refine y_goto 14 dX8_seat_73 (by decide) ?_
        exact y_eq (μ2 := seF (stS j (e, f, g)).2.1 (stS j (e, f, g)).2.2 μ) (by clear ih14 hv14; simp only [seF_31u, seF_32u, seF_31, seF_32, or_0]; simp_all [stS, or_0]) rfl rfl (ih14 (stS j (e, f, g)).1 _ _ (itr_nx hj hv14 rfl))
      · refine y_iconst dX8_seat_55 ic_1 ?_
        refine y_iload_n dX8_seat_56 rfl rfl ?_
        refine y_ishl dX8_seat_57 ?_
        refine y_goto 62 dX8_seat_58 (by decide) ?_
        refine y_ior dX8_seat_62 ?_
        refine y_puti dX8_seat_63 32 clX8 kd_58 (by decide) wm_fl_X8_235 rfl rfl rfl rfl (tyX8_ok 32 (by decide)) rfl rfl ?_
        refine y_iload_n dX8_seat_66 rfl rfl ?_
        refine y_iconst dX8_seat_67 ic_3 ?_
        refine y_idiv dX8_seat_68 (by decide) ?_
        refine y_istore_n dX8_seat_69 rfl rfl (by decide) ?_
        refine y_iinc (v := nI (j + 1)) dX8_seat_70 rfl (nI_i1 _) rfl (by decide) ?_
        refine y_goto 14 dX8_seat_73 (by decide) ?_
        exact y_eq (μ2 := seF (stS j (e, f, g)).2.1 (stS j (e, f, g)).2.2 μ) (by clear ih14 hv14; simp only [seF_31u, seF_32u, seF_31, seF_32, or_0]; simp_all [stS, or_0]) rfl rfl (ih14 (stS j (e, f, g)).1 _ _ (itr_nx hj hv14 rfl))
    · refine y_iconst dX8_seat_32 ic_1 ?_
      refine y_iload_n dX8_seat_33 rfl rfl ?_
      refine y_ishl dX8_seat_34 ?_
      refine y_goto 39 dX8_seat_35 (by decide) ?_
      refine y_ior dX8_seat_39 ?_
      refine y_puti dX8_seat_40 31 clX8 kd_58 (by decide) wm_fl_X8_232 rfl rfl rfl rfl (tyX8_ok 31 (by decide)) rfl rfl ?_
      refine y_aload_n dX8_seat_43 rfl rfl ?_
      refine y_dup dX8_seat_44 rfl ?_
      refine y_geti dX8_seat_45 32 clX8 kd_58 (by decide) wm_fl_X8_235 rfl rfl ?_
      refine y_iload_n dX8_seat_48 rfl rfl ?_
      refine y_iconst dX8_seat_49 ic_3 ?_
      refine y_irem dX8_seat_50 (by decide) ?_
      refine y_iconst dX8_seat_51 ic_2 ?_
      refine y_icmp_ne 61 dX8_seat_52 (by decide) (fun h52 => ?_) (fun h52 => ?_)
      · refine y_iconst dX8_seat_61 ic_0 ?_
        refine y_ior dX8_seat_62 ?_
        refine y_puti dX8_seat_63 32 clX8 kd_58 (by decide) wm_fl_X8_235 rfl rfl rfl rfl (tyX8_ok 32 (by decide)) rfl rfl ?_
        refine y_iload_n dX8_seat_66 rfl rfl ?_
        refine y_iconst dX8_seat_67 ic_3 ?_
        refine y_idiv dX8_seat_68 (by decide) ?_
        refine y_istore_n dX8_seat_69 rfl rfl (by decide) ?_
        refine y_iinc (v := nI (j + 1)) dX8_seat_70 rfl (nI_i1 _) rfl (by decide) ?_
        refine y_goto 14 dX8_seat_73 (by decide) ?_
        exact y_eq (μ2 := seF (stS j (e, f, g)).2.1 (stS j (e, f, g)).2.2 μ) (by clear ih14 hv14; simp only [seF_31u, seF_32u, seF_31, seF_32, or_0]; simp_all [stS, or_0]) rfl rfl (ih14 (stS j (e, f, g)).1 _ _ (itr_nx hj hv14 rfl))
      · refine y_iconst dX8_seat_55 ic_1 ?_
        refine y_iload_n dX8_seat_56 rfl rfl ?_
        refine y_ishl dX8_seat_57 ?_
        refine y_goto 62 dX8_seat_58 (by decide) ?_
        refine y_ior dX8_seat_62 ?_
        refine y_puti dX8_seat_63 32 clX8 kd_58 (by decide) wm_fl_X8_235 rfl rfl rfl rfl (tyX8_ok 32 (by decide)) rfl rfl ?_
        refine y_iload_n dX8_seat_66 rfl rfl ?_
        refine y_iconst dX8_seat_67 ic_3 ?_
        refine y_idiv dX8_seat_68 (by decide) ?_
        refine y_istore_n dX8_seat_69 rfl rfl (by decide) ?_
        refine y_iinc (v := nI (j + 1)) dX8_seat_70 rfl (nI_i1 _) rfl (by decide) ?_
        refine y_goto 14 dX8_seat_73 (by decide) ?_
        exact y_eq (μ2 := seF (stS j (e, f, g)).2.1 (stS j (e, f, g)).2.2 μ) (by clear ih14 hv14; simp only [seF_31u, seF_32u, seF_31, seF_32, or_0]; simp_all [stS, or_0]) rfl rfl (ih14 (stS j (e, f, g)).1 _ _ (itr_nx hj hv14 rfl))

set_option maxRecDepth 100000 in
set_option maxHeartbeats 4000000 in
theorem kX8_difference {l : Launch} {G : GT} {μ : MemT} {B : Bool} : sw_Met l G yX8_difference cX8_difference 2 (some .int) (rmk 2 44) [.ref (G.2.1 58), .int (bI B)] μ (fun v μ2 => v = some (.int (dfB B (μ 58 31) (μ 58 32) (μ 59) (μ 58 1) (μ 60))) ∧ μ2 = μ) := by
  refine sw_Met.ofY (by decide) (Nat.le_of_ble_eq_true rfl) rfl ?_
  refine y_iload_n dX8_difference_0 rfl rfl ?_
  refine y_ifb_eq 24 dX8_difference_1 (by decide) (fun h1 => ?_) (fun h1 => ?_)
  · refine y_aload_n dX8_difference_24 rfl rfl ?_
    refine y_aload_n dX8_difference_25 rfl rfl ?_
    refine y_geti dX8_difference_26 31 clX8 kd_58 (by decide) wm_fl_X8_232 rfl rfl ?_
    refine y_cV1 dX8_difference_29 meX8_poundsOf clX8 kd_58 wm_ml_X8_165 (kX8_poundsOf) ⟨Nat.le_of_ble_eq_true rfl, Nat.le_of_ble_eq_true rfl⟩ ⟨rfl, rfl⟩ (Nat.le_of_ble_eq_true rfl) (fun v29 μ29 hp29 => ?_)
    obtain ⟨rfl, he29⟩ := hp29
    replace he29 := he29.symm
    subst he29
    refine y_ri ?_
    refine y_aload_n dX8_difference_32 rfl rfl ?_
    refine y_aload_n dX8_difference_33 rfl rfl ?_
    refine y_geti dX8_difference_34 32 clX8 kd_58 (by decide) wm_fl_X8_235 rfl rfl ?_
    refine y_cV1 dX8_difference_37 meX8_poundsOf clX8 kd_58 wm_ml_X8_165 (kX8_poundsOf) ⟨Nat.le_of_ble_eq_true rfl, Nat.le_of_ble_eq_true rfl⟩ ⟨rfl, rfl⟩ (Nat.le_of_ble_eq_true rfl) (fun v37 μ37 hp37 => ?_)
    obtain ⟨rfl, he37⟩ := hp37
    replace he37 := he37.symm
    subst he37
    refine y_ri ?_
    refine y_isub dX8_difference_40 ?_
    refine y_iret dX8_difference_41 ?_
    exact ⟨by simp_all [dfB], rfl⟩
  · refine y_aload_n dX8_difference_4 rfl rfl ?_
    refine y_aload_n dX8_difference_5 rfl rfl ?_
    refine y_geti dX8_difference_6 31 clX8 kd_58 (by decide) wm_fl_X8_232 rfl rfl ?_
    refine y_cV1 dX8_difference_9 meX8_swornOf clX8 kd_58 wm_ml_X8_156 (kX8_swornOf) ⟨Nat.le_of_ble_eq_true rfl, Nat.le_of_ble_eq_true rfl⟩ ⟨rfl, rfl⟩ (Nat.le_of_ble_eq_true rfl) (fun v9 μ9 hp9 => ?_)
    obtain ⟨rfl, he9⟩ := hp9
    replace he9 := he9.symm
    subst he9
    refine y_ri ?_
    refine y_aload_n dX8_difference_12 rfl rfl ?_
    refine y_aload_n dX8_difference_13 rfl rfl ?_
    refine y_geti dX8_difference_14 32 clX8 kd_58 (by decide) wm_fl_X8_235 rfl rfl ?_
    refine y_cV1 dX8_difference_17 meX8_swornOf clX8 kd_58 wm_ml_X8_156 (kX8_swornOf) ⟨Nat.le_of_ble_eq_true rfl, Nat.le_of_ble_eq_true rfl⟩ ⟨rfl, rfl⟩ (Nat.le_of_ble_eq_true rfl) (fun v17 μ17 hp17 => ?_)
    obtain ⟨rfl, he17⟩ := hp17
    replace he17 := he17.symm
    subst he17
    refine y_ri ?_
    refine y_isub dX8_difference_20 ?_
    refine y_goto 41 dX8_difference_21 (by decide) ?_
    refine y_iret dX8_difference_41 ?_
    exact ⟨by simp_all [dfB], rfl⟩

def seD (B : Bool) (x : Int32) (μ : MemT) : Int32 := dfB B (seR x).2.1 (seR x).2.2 (μ 59) (μ 58 1) (μ 60)
def mkS (B : Bool) (z : Int32) (μ : MemT) (j : Nat) (w : S3T) : S3T := if seaB (nI j) (μ 58 0) (μ 62) && decide (seD B (nI j) μ = z) then (if w.1 < 0 ∨ onI ((seR (nI j)).2.1 ||| (seR (nI j)).2.2) < w.1 ∨ (onI ((seR (nI j)).2.1 ||| (seR (nI j)).2.2) = w.1 ∧ ((seR (nI j)).2.1 < w.2.1 ∨ ((seR (nI j)).2.1 = w.2.1 ∧ (seR (nI j)).2.2 < w.2.2))) then (onI ((seR (nI j)).2.1 ||| (seR (nI j)).2.2), (seR (nI j)).2.1, (seR (nI j)).2.2) else w) else w
def mkR (B : Bool) (z : Int32) (μ : MemT) : S3T := itr (mkS B z μ) 6561 0 (-6, 0, 0)
def mMake (z : Int32) (B : Bool) (w : Int32) (μ : MemT) : Int32 := if inR z 1 999 && inR w 0 2 then (if (mkR B z μ).1 < 0 ∨ w = 0 then (mkR B z μ).1 else if w = 1 then (mkR B z μ).2.1 else (mkR B z μ).2.2) else -2
def nrS (B : Bool) (z : Int32) (μ : MemT) (j : Nat) (a : Int32) : Int32 := if seaB (nI j) (μ 58 0) (μ 62) then (if abI (seD B (nI j) μ - z) < a then abI (seD B (nI j) μ - z) else a) else a
def mNear (z : Int32) (B : Bool) (μ : MemT) : Int32 := if inR z 1 999 then itr (nrS B z μ) 6561 0 z else -2
def gpS (B : Bool) (μ : MemT) (j : Nat) (d : Nat → Int32) : Nat → Int32 := if seaB (nI j) (μ 58 0) (μ 62) then (if seD B (nI j) μ ≤ 0 then d else upd d (cl (seD B (nI j) μ)) 1) else d
def gpR (B : Bool) (μ : MemT) : Nat → Int32 := itr (gpS B μ) 6561 0 (filF 3201 0 (μ 74))
def mGap (B : Bool) (μ : MemT) : Int32 := luB (gpR B μ)
theorem sea_lt {x : Int32} {t : Nat} {sp : Nat → Int32} (ht : t < 256) (h : seaB x (nI t) sp = true) : ∃ s : Nat, s < 256 ∧ (seR x).2.1 ||| (seR x).2.2 = nI s ∧ s &&& t = s := by
  rw [seaB, Bool.and_eq_true] at h
  exact subI_ex ht h.1

set_option maxRecDepth 100000 in
set_option maxHeartbeats 4000000 in
theorem kX8_make {l : Launch} {G : GT} {μ : MemT} {t : Nat} (ht : t < 256) (hth : μ 58 0 = nI t) {z w : Int32} {B : Bool} : sw_Met l G yX8_make cX8_make 10 (some .int) (rmk 3 65) [.ref (G.2.1 58), .int z, .int (bI B), .int w] μ (fun v μ2 => v = some (.int (mMake z B w μ)) ∧ ∃ f g : Int32, μ2 = seF f g μ) := by
  refine sw_Met.ofY (by decide) (Nat.le_of_ble_eq_true rfl) rfl ?_
  refine y_iload_n dX8_make_0 rfl rfl ?_
  refine y_i2l dX8_make_1 ?_
  refine y_lconst dX8_make_2 lc_1 ?_
  refine y_ldc2 dX8_make_3 wm_cl_X8_238 ?_
  refine y_cS3 dX8_make_6 meX8_in wm_ml_X8_77 (kX8_in (A := 1) (B := 999) rfl rfl) ⟨Nat.le_of_ble_eq_true rfl, Nat.le_of_ble_eq_true rfl⟩ ⟨rfl, rfl⟩ (Nat.le_of_ble_eq_true rfl) (fun v6 μ6 hp6 => ?_)
  obtain ⟨rfl, he6⟩ := hp6
  replace he6 := he6.symm
  subst he6
  refine y_ri ?_
  refine y_ifb_eq 24 dX8_make_9 (by decide) (fun h9 => ?_) (fun h9 => ?_)
  · refine y_bipush dX8_make_24 ib_m2 ?_
    refine y_iret dX8_make_26 ?_
    exact ⟨by simp_all [mMake], _, _, (seF_id μ).symm⟩
  · refine y_iload_n dX8_make_12 rfl rfl ?_
    refine y_i2l dX8_make_13 ?_
    refine y_lconst dX8_make_14 lc_0 ?_
    refine y_ldc2 dX8_make_15 wm_cl_X8_230 ?_
    refine y_cS3 dX8_make_18 meX8_in wm_ml_X8_77 (kX8_in (A := 0) (B := 2) rfl rfl) ⟨Nat.le_of_ble_eq_true rfl, Nat.le_of_ble_eq_true rfl⟩ ⟨rfl, rfl⟩ (Nat.le_of_ble_eq_true rfl) (fun v18 μ18 hp18 => ?_)
    obtain ⟨rfl, he18⟩ := hp18
    replace he18 := he18.symm
    subst he18
    refine y_ri ?_
    refine y_ifb_ne 27 dX8_make_21 (by decide) (fun h21 => ?_) (fun h21 => ?_)
    · refine y_bipush dX8_make_27 ib_m6 ?_
      refine y_istore dX8_make_29 rfl (by decide) ?_
      refine y_iconst dX8_make_31 ic_0 ?_
      refine y_istore dX8_make_32 rfl (by decide) ?_
      refine y_iconst dX8_make_34 ic_0 ?_
      refine y_istore dX8_make_35 rfl (by decide) ?_
      refine y_iconst (v := nI 0) dX8_make_37 icn_0 ?_
      refine y_istore dX8_make_38 rfl (by decide) ?_
      refine y_eq (show _ = seF (μ 58 31) (μ 58 32) μ from (seF_id μ).symm) rfl rfl ?_
      refine y_loop5 (fun (j : Nat) (x : Int32) (y : Int32) (u : Int32) (f : Int32) (g : Int32) => [some (.ref (G.2.1 58)), some (.int z), some (.int (bI B)), some (.int w), some (.int x), some (.int y), some (.int u), some (.int (nI j)), none, none]) (fun (j : Nat) (x : Int32) (y : Int32) (u : Int32) (f : Int32) (g : Int32) => seF f g μ) (fun (j : Nat) (x : Int32) (y : Int32) (u : Int32) (f : Int32) (g : Int32) => itr (mkS B z μ) (6561 - j) j (x, y, u) = mkR B z μ) 6561 (fun x y u f g hv40 => ?_) (fun j x y u f g hj hv40 ih40 => ?_) 0 (-6) (0) (0) (μ 58 31) (μ 58 32) (Nat.zero_le _) (rfl)
      · refine y_iload dX8_make_40 rfl ?_
        refine y_sipush dX8_make_42 is_6561 ?_
        refine y_icmp_ge 160 dX8_make_45 (by decide) (fun _ => ?_) (fun hq => absurd (by decide) hq)
        refine y_iload dX8_make_160 rfl ?_
        refine y_if_lt 169 dX8_make_162 (by decide) (fun h162 => ?_) (fun h162 => ?_)
        · refine y_iload dX8_make_169 rfl ?_
          refine y_goto 186 dX8_make_171 (by decide) ?_
          refine y_iret dX8_make_186 ?_
          have hv := itr_ex hv40
          refine ⟨?_, f, g, rfl⟩
          clear hv40
          have hv := hv.symm
          simp_all [-Int32.not_le, -Int32.not_lt, mMake]
        · refine y_iload_n dX8_make_165 rfl rfl ?_
          refine y_if_ne 174 dX8_make_166 (by decide) (fun h166 => ?_) (fun h166 => ?_)
          · refine y_iload_n dX8_make_174 rfl rfl ?_
            refine y_iconst dX8_make_175 ic_1 ?_
            refine y_icmp_ne 184 dX8_make_176 (by decide) (fun h176 => ?_) (fun h176 => ?_)
            · refine y_iload dX8_make_184 rfl ?_
              refine y_iret dX8_make_186 ?_
              have hv := itr_ex hv40
              refine ⟨?_, f, g, rfl⟩
              clear hv40
              have hv := hv.symm
              simp_all [-Int32.not_le, -Int32.not_lt, mMake]
            · refine y_iload dX8_make_179 rfl ?_
              refine y_goto 186 dX8_make_181 (by decide) ?_
              refine y_iret dX8_make_186 ?_
              have hv := itr_ex hv40
              refine ⟨?_, f, g, rfl⟩
              clear hv40
              have hv := hv.symm
              simp_all [-Int32.not_le, -Int32.not_lt, mMake]
          · refine y_iload dX8_make_169 rfl ?_
            refine y_goto 186 dX8_make_171 (by decide) ?_
            refine y_iret dX8_make_186 ?_
            have hv := itr_ex hv40
            refine ⟨?_, f, g, rfl⟩
            clear hv40
            have hv := hv.symm
            simp_all [-Int32.not_le, -Int32.not_lt, mMake]
      · refine y_iload dX8_make_40 rfl ?_
        refine y_sipush dX8_make_42 is_6561 ?_
        refine y_icmp_ge 160 dX8_make_45 (by decide) (fun hq => absurd hq (nI_ge (b := 6561) hj (by decide))) (fun _ => ?_)
        refine y_aload_n dX8_make_48 rfl rfl ?_
        refine y_iload dX8_make_49 rfl ?_
        refine y_cV1 dX8_make_51 meX8_seat clX8 kd_58 wm_ml_X8_240 (kX8_seat) ⟨Nat.le_of_ble_eq_true rfl, Nat.le_of_ble_eq_true rfl⟩ ⟨rfl, rfl⟩ (Nat.le_of_ble_eq_true rfl) (fun v51 μ51 hp51 => ?_)
        obtain ⟨rfl, he51⟩ := hp51
        replace he51 := he51.symm
        subst he51
        refine y_ri ?_
        refine y_ifb_eq 154 dX8_make_54 (by decide) (fun h54 => ?_) (fun h54 => ?_)
        · refine y_iinc (v := nI (j + 1)) dX8_make_154 rfl (nI_i1 _) rfl (by decide) ?_
          refine y_goto 40 dX8_make_157 (by decide) ?_
          refine y_drop 9 (y_drop 8 (y_eq (μ2 := seF (seR (nI j)).2.1 (seR (nI j)).2.2 μ) (seF_seF _ _ _ _ _) rfl rfl (ih40 _ _ _ _ _ (itr_nx hj hv40 ?_))))
          clear ih40 hv40
          have e1 : seF f g μ 58 0 = μ 58 0 := rfl
          have e2 : seF f g μ 62 = μ 62 := rfl
          simp only [e1, e2, seF_seF, seF_31, seF_32] at *
          have e3 : ∀ a b, dfB B a b (seF a b μ 59) (seF a b μ 58 1) (seF a b μ 60) = dfB B a b (μ 59) (μ 58 1) (μ 60) := fun a b => rfl
          simp only [e3] at *
          simp_all [mkS, seD] <;> grind
        · have h54b := h54
          rw [show seaB (nI j) (seF f g μ 58 0) (seF f g μ 62) = seaB (nI j) (nI t) (μ 62) from congrArg (fun q => seaB (nI j) q (μ 62)) hth] at h54b
          obtain ⟨s, hs256, hsI, -⟩ := sea_lt ht h54b
          refine y_aload_n dX8_make_57 rfl rfl ?_
          refine y_iload_n dX8_make_58 rfl rfl ?_
          refine y_cV1 dX8_make_59 meX8_difference clX8 kd_58 wm_ml_X8_243 (kX8_difference) ⟨Nat.le_of_ble_eq_true rfl, Nat.le_of_ble_eq_true rfl⟩ ⟨rfl, rfl⟩ (Nat.le_of_ble_eq_true rfl) (fun v59 μ59 hp59 => ?_)
          obtain ⟨rfl, he59⟩ := hp59
          replace he59 := he59.symm
          subst he59
          refine y_ri ?_
          refine y_iload_n dX8_make_62 rfl rfl ?_
          refine y_icmp_ne 154 dX8_make_63 (by decide) (fun h63 => ?_) (fun h63 => ?_)
          · refine y_iinc (v := nI (j + 1)) dX8_make_154 rfl (nI_i1 _) rfl (by decide) ?_
            refine y_goto 40 dX8_make_157 (by decide) ?_
            refine y_drop 9 (y_drop 8 (y_eq (μ2 := seF (seR (nI j)).2.1 (seR (nI j)).2.2 μ) (seF_seF _ _ _ _ _) rfl rfl (ih40 _ _ _ _ _ (itr_nx hj hv40 ?_))))
            clear ih40 hv40
            have e1 : seF f g μ 58 0 = μ 58 0 := rfl
            have e2 : seF f g μ 62 = μ 62 := rfl
            simp only [e1, e2, seF_seF, seF_31, seF_32] at *
            have e3 : ∀ a b, dfB B a b (seF a b μ 59) (seF a b μ 58 1) (seF a b μ 60) = dfB B a b (μ 59) (μ 58 1) (μ 60) := fun a b => rfl
            simp only [e3] at *
            simp_all [mkS, seD] <;> grind
          · refine y_aload_n dX8_make_66 rfl rfl ?_
            refine y_geti dX8_make_67 31 clX8 kd_58 (by decide) wm_fl_X8_232 rfl rfl ?_
            refine y_aload_n dX8_make_70 rfl rfl ?_
            refine y_geti dX8_make_71 32 clX8 kd_58 (by decide) wm_fl_X8_235 rfl rfl ?_
            refine y_ior dX8_make_74 ?_
            refine y_cS1 dX8_make_75 meX8_ones wm_ml_X8_99 (kX8_ones hs256 hsI) ⟨Nat.le_of_ble_eq_true rfl, Nat.le_of_ble_eq_true rfl⟩ ⟨rfl, rfl⟩ (Nat.le_of_ble_eq_true rfl) (fun v75 μ75 hp75 => ?_)
            obtain ⟨rfl, he75⟩ := hp75
            replace he75 := he75.symm
            subst he75
            refine y_ri ?_
            refine y_istore dX8_make_78 rfl (by decide) ?_
            refine y_aload_n dX8_make_80 rfl rfl ?_
            refine y_geti dX8_make_81 31 clX8 kd_58 (by decide) wm_fl_X8_232 rfl rfl ?_
            refine y_iload dX8_make_84 rfl ?_
            refine y_icmp_lt 107 dX8_make_86 (by decide) (fun h86 => ?_) (fun h86 => ?_)
            · refine y_iconst dX8_make_107 ic_1 ?_
              refine y_goto 112 dX8_make_108 (by decide) ?_
              refine y_istore dX8_make_112 rfl (by decide) ?_
              refine y_iload dX8_make_114 rfl ?_
              refine y_if_lt 138 dX8_make_116 (by decide) (fun h116 => ?_) (fun h116 => ?_)
              · refine y_iload dX8_make_138 rfl ?_
                refine y_istore dX8_make_140 rfl (by decide) ?_
                refine y_aload_n dX8_make_142 rfl rfl ?_
                refine y_geti dX8_make_143 31 clX8 kd_58 (by decide) wm_fl_X8_232 rfl rfl ?_
                refine y_istore dX8_make_146 rfl (by decide) ?_
                refine y_aload_n dX8_make_148 rfl rfl ?_
                refine y_geti dX8_make_149 32 clX8 kd_58 (by decide) wm_fl_X8_235 rfl rfl ?_
                refine y_istore dX8_make_152 rfl (by decide) ?_
                refine y_iinc (v := nI (j + 1)) dX8_make_154 rfl (nI_i1 _) rfl (by decide) ?_
                refine y_goto 40 dX8_make_157 (by decide) ?_
                refine y_drop 9 (y_drop 8 (y_eq (μ2 := seF (seR (nI j)).2.1 (seR (nI j)).2.2 μ) (seF_seF _ _ _ _ _) rfl rfl (ih40 _ _ _ _ _ (itr_nx hj hv40 ?_))))
                clear ih40 hv40
                have e1 : seF f g μ 58 0 = μ 58 0 := rfl
                have e2 : seF f g μ 62 = μ 62 := rfl
                simp only [e1, e2, seF_seF, seF_31, seF_32] at *
                have e3 : ∀ a b, dfB B a b (seF a b μ 59) (seF a b μ 58 1) (seF a b μ 60) = dfB B a b (μ 59) (μ 58 1) (μ 60) := fun a b => rfl
                simp only [e3] at *
                simp_all [mkS, seD] <;> grind
              · refine y_iload dX8_make_119 rfl ?_
                refine y_iload dX8_make_121 rfl ?_
                refine y_icmp_lt 138 dX8_make_123 (by decide) (fun h123 => ?_) (fun h123 => ?_)
                · refine y_iload dX8_make_138 rfl ?_
                  refine y_istore dX8_make_140 rfl (by decide) ?_
                  refine y_aload_n dX8_make_142 rfl rfl ?_
                  refine y_geti dX8_make_143 31 clX8 kd_58 (by decide) wm_fl_X8_232 rfl rfl ?_
                  refine y_istore dX8_make_146 rfl (by decide) ?_
                  refine y_aload_n dX8_make_148 rfl rfl ?_
                  refine y_geti dX8_make_149 32 clX8 kd_58 (by decide) wm_fl_X8_235 rfl rfl ?_
                  refine y_istore dX8_make_152 rfl (by decide) ?_
                  refine y_iinc (v := nI (j + 1)) dX8_make_154 rfl (nI_i1 _) rfl (by decide) ?_
                  refine y_goto 40 dX8_make_157 (by decide) ?_
                  refine y_drop 9 (y_drop 8 (y_eq (μ2 := seF (seR (nI j)).2.1 (seR (nI j)).2.2 μ) (seF_seF _ _ _ _ _) rfl rfl (ih40 _ _ _ _ _ (itr_nx hj hv40 ?_))))
                  clear ih40 hv40
                  have e1 : seF f g μ 58 0 = μ 58 0 := rfl
                  have e2 : seF f g μ 62 = μ 62 := rfl
                  simp only [e1, e2, seF_seF, seF_31, seF_32] at *
                  have e3 : ∀ a b, dfB B a b (seF a b μ 59) (seF a b μ 58 1) (seF a b μ 60) = dfB B a b (μ 59) (μ 58 1) (μ 60) := fun a b => rfl
                  simp only [e3] at *
                  simp_all [mkS, seD] <;> grind
                · refine y_iload dX8_make_126 rfl ?_
                  refine y_iload dX8_make_128 rfl ?_
                  refine y_icmp_ne 154 dX8_make_130 (by decide) (fun h130 => ?_) (fun h130 => ?_)
                  · refine y_iinc (v := nI (j + 1)) dX8_make_154 rfl (nI_i1 _) rfl (by decide) ?_
                    refine y_goto 40 dX8_make_157 (by decide) ?_
                    refine y_drop 9 (y_drop 8 (y_eq (μ2 := seF (seR (nI j)).2.1 (seR (nI j)).2.2 μ) (seF_seF _ _ _ _ _) rfl rfl (ih40 _ _ _ _ _ (itr_nx hj hv40 ?_))))
                    clear ih40 hv40
                    have e1 : seF f g μ 58 0 = μ 58 0 := rfl
                    have e2 : seF f g μ 62 = μ 62 := rfl
                    simp only [e1, e2, seF_seF, seF_31, seF_32] at *
                    have e3 : ∀ a b, dfB B a b (seF a b μ 59) (seF a b μ 58 1) (seF a b μ 60) = dfB B a b (μ 59) (μ 58 1) (μ 60) := fun a b => rfl
                    simp only [e3] at *
                    simp_all [mkS, seD] <;> grind
                  · refine y_iload dX8_make_133 rfl ?_
                    refine y_if_eq 154 dX8_make_135 (by decide) (fun hq => absurd hq (by decide)) (fun _ => ?_)
                    refine y_iload dX8_make_138 rfl ?_
                    refine y_istore dX8_make_140 rfl (by decide) ?_
                    refine y_aload_n dX8_make_142 rfl rfl ?_
                    refine y_geti dX8_make_143 31 clX8 kd_58 (by decide) wm_fl_X8_232 rfl rfl ?_
                    refine y_istore dX8_make_146 rfl (by decide) ?_
                    refine y_aload_n dX8_make_148 rfl rfl ?_
                    refine y_geti dX8_make_149 32 clX8 kd_58 (by decide) wm_fl_X8_235 rfl rfl ?_
                    refine y_istore dX8_make_152 rfl (by decide) ?_
                    refine y_iinc (v := nI (j + 1)) dX8_make_154 rfl (nI_i1 _) rfl (by decide) ?_
                    refine y_goto 40 dX8_make_157 (by decide) ?_
                    refine y_drop 9 (y_drop 8 (y_eq (μ2 := seF (seR (nI j)).2.1 (seR (nI j)).2.2 μ) (seF_seF _ _ _ _ _) rfl rfl (ih40 _ _ _ _ _ (itr_nx hj hv40 ?_))))
                    clear ih40 hv40
                    have e1 : seF f g μ 58 0 = μ 58 0 := rfl
                    have e2 : seF f g μ 62 = μ 62 := rfl
                    simp only [e1, e2, seF_seF, seF_31, seF_32] at *
                    have e3 : ∀ a b, dfB B a b (seF a b μ 59) (seF a b μ 58 1) (seF a b μ 60) = dfB B a b (μ 59) (μ 58 1) (μ 60) := fun a b => rfl
                    simp only [e3] at *
                    simp_all [mkS, seD] <;> grind
            · refine y_aload_n dX8_make_89 rfl rfl ?_
              refine y_geti dX8_make_90 31 clX8 kd_58 (by decide) wm_fl_X8_232 rfl rfl ?_
              refine y_iload dX8_make_93 rfl ?_
              refine y_icmp_ne 111 dX8_make_95 (by decide) (fun h95 => ?_) (fun h95 => ?_)
              · refine y_iconst dX8_make_111 ic_0 ?_
                refine y_istore dX8_make_112 rfl (by decide) ?_
                refine y_iload dX8_make_114 rfl ?_
                refine y_if_lt 138 dX8_make_116 (by decide) (fun h116 => ?_) (fun h116 => ?_)
                · refine y_iload dX8_make_138 rfl ?_
                  refine y_istore dX8_make_140 rfl (by decide) ?_
                  refine y_aload_n dX8_make_142 rfl rfl ?_
                  refine y_geti dX8_make_143 31 clX8 kd_58 (by decide) wm_fl_X8_232 rfl rfl ?_
                  refine y_istore dX8_make_146 rfl (by decide) ?_
                  refine y_aload_n dX8_make_148 rfl rfl ?_
                  refine y_geti dX8_make_149 32 clX8 kd_58 (by decide) wm_fl_X8_235 rfl rfl ?_
                  refine y_istore dX8_make_152 rfl (by decide) ?_
                  refine y_iinc (v := nI (j + 1)) dX8_make_154 rfl (nI_i1 _) rfl (by decide) ?_
                  refine y_goto 40 dX8_make_157 (by decide) ?_
                  refine y_drop 9 (y_drop 8 (y_eq (μ2 := seF (seR (nI j)).2.1 (seR (nI j)).2.2 μ) (seF_seF _ _ _ _ _) rfl rfl (ih40 _ _ _ _ _ (itr_nx hj hv40 ?_))))
                  clear ih40 hv40
                  have e1 : seF f g μ 58 0 = μ 58 0 := rfl
                  have e2 : seF f g μ 62 = μ 62 := rfl
                  simp only [e1, e2, seF_seF, seF_31, seF_32] at *
                  have e3 : ∀ a b, dfB B a b (seF a b μ 59) (seF a b μ 58 1) (seF a b μ 60) = dfB B a b (μ 59) (μ 58 1) (μ 60) := fun a b => rfl
                  simp only [e3] at *
                  simp_all [mkS, seD] <;> grind
                · refine y_iload dX8_make_119 rfl ?_
                  refine y_iload dX8_make_121 rfl ?_
                  refine y_icmp_lt 138 dX8_make_123 (by decide) (fun h123 => ?_) (fun h123 => ?_)
                  · refine y_iload dX8_make_138 rfl ?_
                    refine y_istore dX8_make_140 rfl (by decide) ?_
                    refine y_aload_n dX8_make_142 rfl rfl ?_
                    refine y_geti dX8_make_143 31 clX8 kd_58 (by decide) wm_fl_X8_232 rfl rfl ?_
                    refine y_istore dX8_make_146 rfl (by decide) ?_
                    refine y_aload_n dX8_make_148 rfl rfl ?_
                    refine y_geti dX8_make_149 32 clX8 kd_58 (by decide) wm_fl_X8_235 rfl rfl ?_
                    refine y_istore dX8_make_152 rfl (by decide) ?_
                    refine y_iinc (v := nI (j + 1)) dX8_make_154 rfl (nI_i1 _) rfl (by decide) ?_
                    refine y_goto 40 dX8_make_157 (by decide) ?_
                    refine y_drop 9 (y_drop 8 (y_eq (μ2 := seF (seR (nI j)).2.1 (seR (nI j)).2.2 μ) (seF_seF _ _ _ _ _) rfl rfl (ih40 _ _ _ _ _ (itr_nx hj hv40 ?_))))
                    clear ih40 hv40
                    have e1 : seF f g μ 58 0 = μ 58 0 := rfl
                    have e2 : seF f g μ 62 = μ 62 := rfl
                    simp only [e1, e2, seF_seF, seF_31, seF_32] at *
                    have e3 : ∀ a b, dfB B a b (seF a b μ 59) (seF a b μ 58 1) (seF a b μ 60) = dfB B a b (μ 59) (μ 58 1) (μ 60) := fun a b => rfl
                    simp only [e3] at *
                    simp_all [mkS, seD] <;> grind
                  · refine y_iload dX8_make_126 rfl ?_
                    refine y_iload dX8_make_128 rfl ?_
                    refine y_icmp_ne 154 dX8_make_130 (by decide) (fun h130 => ?_) (fun h130 => ?_)
                    · refine y_iinc (v := nI (j + 1)) dX8_make_154 rfl (nI_i1 _) rfl (by decide) ?_
                      refine y_goto 40 dX8_make_157 (by decide) ?_
                      refine y_drop 9 (y_drop 8 (y_eq (μ2 := seF (seR (nI j)).2.1 (seR (nI j)).2.2 μ) (seF_seF _ _ _ _ _) rfl rfl (ih40 _ _ _ _ _ (itr_nx hj hv40 ?_))))
                      clear ih40 hv40
                      have e1 : seF f g μ 58 0 = μ 58 0 := rfl
                      have e2 : seF f g μ 62 = μ 62 := rfl
                      simp only [e1, e2, seF_seF, seF_31, seF_32] at *
                      have e3 : ∀ a b, dfB B a b (seF a b μ 59) (seF a b μ 58 1) (seF a b μ 60) = dfB B a b (μ 59) (μ 58 1) (μ 60) := fun a b => rfl
                      simp only [e3] at *
                      simp_all [mkS, seD] <;> grind
                    · refine y_iload dX8_make_133 rfl ?_
                      refine y_if_eq 154 dX8_make_135 (by decide) (fun _ => ?_) (fun hq => absurd hq (by decide))
                      refine y_iinc (v := nI (j + 1)) dX8_make_154 rfl (nI_i1 _) rfl (by decide) ?_
                      refine y_goto 40 dX8_make_157 (by decide) ?_
                      refine y_drop 9 (y_drop 8 (y_eq (μ2 := seF (seR (nI j)).2.1 (seR (nI j)).2.2 μ) (seF_seF _ _ _ _ _) rfl rfl (ih40 _ _ _ _ _ (itr_nx hj hv40 ?_))))
                      clear ih40 hv40
                      have e1 : seF f g μ 58 0 = μ 58 0 := rfl
                      have e2 : seF f g μ 62 = μ 62 := rfl
                      simp only [e1, e2, seF_seF, seF_31, seF_32] at *
                      have e3 : ∀ a b, dfB B a b (seF a b μ 59) (seF a b μ 58 1) (seF a b μ 60) = dfB B a b (μ 59) (μ 58 1) (μ 60) := fun a b => rfl
                      simp only [e3] at *
                      simp_all [mkS, seD] <;> grind
              · refine y_aload_n dX8_make_98 rfl rfl ?_
                refine y_geti dX8_make_99 32 clX8 kd_58 (by decide) wm_fl_X8_235 rfl rfl ?_
                refine y_iload dX8_make_102 rfl ?_
                refine y_icmp_ge 111 dX8_make_104 (by decide) (fun h104 => ?_) (fun h104 => ?_)
                · refine y_iconst dX8_make_111 ic_0 ?_
                  refine y_istore dX8_make_112 rfl (by decide) ?_
                  refine y_iload dX8_make_114 rfl ?_
                  refine y_if_lt 138 dX8_make_116 (by decide) (fun h116 => ?_) (fun h116 => ?_)
                  · refine y_iload dX8_make_138 rfl ?_
                    refine y_istore dX8_make_140 rfl (by decide) ?_
                    refine y_aload_n dX8_make_142 rfl rfl ?_
                    refine y_geti dX8_make_143 31 clX8 kd_58 (by decide) wm_fl_X8_232 rfl rfl ?_
                    refine y_istore dX8_make_146 rfl (by decide) ?_
                    refine y_aload_n dX8_make_148 rfl rfl ?_
                    refine y_geti dX8_make_149 32 clX8 kd_58 (by decide) wm_fl_X8_235 rfl rfl ?_
                    refine y_istore dX8_make_152 rfl (by decide) ?_
                    refine y_iinc (v := nI (j + 1)) dX8_make_154 rfl (nI_i1 _) rfl (by decide) ?_
                    refine y_goto 40 dX8_make_157 (by decide) ?_
                    refine y_drop 9 (y_drop 8 (y_eq (μ2 := seF (seR (nI j)).2.1 (seR (nI j)).2.2 μ) (seF_seF _ _ _ _ _) rfl rfl (ih40 _ _ _ _ _ (itr_nx hj hv40 ?_))))
                    clear ih40 hv40
                    have e1 : seF f g μ 58 0 = μ 58 0 := rfl
                    have e2 : seF f g μ 62 = μ 62 := rfl
                    simp only [e1, e2, seF_seF, seF_31, seF_32] at *
                    have e3 : ∀ a b, dfB B a b (seF a b μ 59) (seF a b μ 58 1) (seF a b μ 60) = dfB B a b (μ 59) (μ 58 1) (μ 60) := fun a b => rfl
                    simp only [e3] at *
                    simp_all [mkS, seD] <;> grind
                  · refine y_iload dX8_make_119 rfl ?_
                    refine y_iload dX8_make_121 rfl ?_
                    refine y_icmp_lt 138 dX8_make_123 (by decide) (fun h123 => ?_) (fun h123 => ?_)
                    · refine y_iload dX8_make_138 rfl ?_
                      refine y_istore dX8_make_140 rfl (by decide) ?_
                      refine y_aload_n dX8_make_142 rfl rfl ?_
                      refine y_geti dX8_make_143 31 clX8 kd_58 (by decide) wm_fl_X8_232 rfl rfl ?_
                      refine y_istore dX8_make_146 rfl (by decide) ?_
                      refine y_aload_n dX8_make_148 rfl rfl ?_
                      refine y_geti dX8_make_149 32 clX8 kd_58 (by decide) wm_fl_X8_235 rfl rfl ?_
                      refine y_istore dX8_make_152 rfl (by decide) ?_
                      refine y_iinc (v := nI (j + 1)) dX8_make_154 rfl (nI_i1 _) rfl (by decide) ?_
                      refine y_goto 40 dX8_make_157 (by decide) ?_
                      refine y_drop 9 (y_drop 8 (y_eq (μ2 := seF (seR (nI j)).2.1 (seR (nI j)).2.2 μ) (seF_seF _ _ _ _ _) rfl rfl (ih40 _ _ _ _ _ (itr_nx hj hv40 ?_))))
                      clear ih40 hv40
                      have e1 : seF f g μ 58 0 = μ 58 0 := rfl
                      have e2 : seF f g μ 62 = μ 62 := rfl
                      simp only [e1, e2, seF_seF, seF_31, seF_32] at *
                      have e3 : ∀ a b, dfB B a b (seF a b μ 59) (seF a b μ 58 1) (seF a b μ 60) = dfB B a b (μ 59) (μ 58 1) (μ 60) := fun a b => rfl
                      simp only [e3] at *
                      simp_all [mkS, seD] <;> grind
                    · refine y_iload dX8_make_126 rfl ?_
                      refine y_iload dX8_make_128 rfl ?_
                      refine y_icmp_ne 154 dX8_make_130 (by decide) (fun h130 => ?_) (fun h130 => ?_)
                      · refine y_iinc (v := nI (j + 1)) dX8_make_154 rfl (nI_i1 _) rfl (by decide) ?_
                        refine y_goto 40 dX8_make_157 (by decide) ?_
                        refine y_drop 9 (y_drop 8 (y_eq (μ2 := seF (seR (nI j)).2.1 (seR (nI j)).2.2 μ) (seF_seF _ _ _ _ _) rfl rfl (ih40 _ _ _ _ _ (itr_nx hj hv40 ?_))))
                        clear ih40 hv40
                        have e1 : seF f g μ 58 0 = μ 58 0 := rfl
                        have e2 : seF f g μ 62 = μ 62 := rfl
                        simp only [e1, e2, seF_seF, seF_31, seF_32] at *
                        have e3 : ∀ a b, dfB B a b (seF a b μ 59) (seF a b μ 58 1) (seF a b μ 60) = dfB B a b (μ 59) (μ 58 1) (μ 60) := fun a b => rfl
                        simp only [e3] at *
                        simp_all [mkS, seD] <;> grind
                      · refine y_iload dX8_make_133 rfl ?_
                        refine y_if_eq 154 dX8_make_135 (by decide) (fun _ => ?_) (fun hq => absurd hq (by decide))
                        refine y_iinc (v := nI (j + 1)) dX8_make_154 rfl (nI_i1 _) rfl (by decide) ?_
                        refine y_goto 40 dX8_make_157 (by decide) ?_
                        refine y_drop 9 (y_drop 8 (y_eq (μ2 := seF (seR (nI j)).2.1 (seR (nI j)).2.2 μ) (seF_seF _ _ _ _ _) rfl rfl (ih40 _ _ _ _ _ (itr_nx hj hv40 ?_))))
                        clear ih40 hv40
                        have e1 : seF f g μ 58 0 = μ 58 0 := rfl
                        have e2 : seF f g μ 62 = μ 62 := rfl
                        simp only [e1, e2, seF_seF, seF_31, seF_32] at *
                        have e3 : ∀ a b, dfB B a b (seF a b μ 59) (seF a b μ 58 1) (seF a b μ 60) = dfB B a b (μ 59) (μ 58 1) (μ 60) := fun a b => rfl
                        simp only [e3] at *
                        simp_all [mkS, seD] <;> grind
                · refine y_iconst dX8_make_107 ic_1 ?_
                  refine y_goto 112 dX8_make_108 (by decide) ?_
                  refine y_istore dX8_make_112 rfl (by decide) ?_
                  refine y_iload dX8_make_114 rfl ?_
                  refine y_if_lt 138 dX8_make_116 (by decide) (fun h116 => ?_) (fun h116 => ?_)
                  · refine y_iload dX8_make_138 rfl ?_
                    refine y_istore dX8_make_140 rfl (by decide) ?_
                    refine y_aload_n dX8_make_142 rfl rfl ?_
                    refine y_geti dX8_make_143 31 clX8 kd_58 (by decide) wm_fl_X8_232 rfl rfl ?_
                    refine y_istore dX8_make_146 rfl (by decide) ?_
                    refine y_aload_n dX8_make_148 rfl rfl ?_
                    refine y_geti dX8_make_149 32 clX8 kd_58 (by decide) wm_fl_X8_235 rfl rfl ?_
                    refine y_istore dX8_make_152 rfl (by decide) ?_
                    refine y_iinc (v := nI (j + 1)) dX8_make_154 rfl (nI_i1 _) rfl (by decide) ?_
                    refine y_goto 40 dX8_make_157 (by decide) ?_
                    refine y_drop 9 (y_drop 8 (y_eq (μ2 := seF (seR (nI j)).2.1 (seR (nI j)).2.2 μ) (seF_seF _ _ _ _ _) rfl rfl (ih40 _ _ _ _ _ (itr_nx hj hv40 ?_))))
                    clear ih40 hv40
                    have e1 : seF f g μ 58 0 = μ 58 0 := rfl
                    have e2 : seF f g μ 62 = μ 62 := rfl
                    simp only [e1, e2, seF_seF, seF_31, seF_32] at *
                    have e3 : ∀ a b, dfB B a b (seF a b μ 59) (seF a b μ 58 1) (seF a b μ 60) = dfB B a b (μ 59) (μ 58 1) (μ 60) := fun a b => rfl
                    simp only [e3] at *
                    simp_all [mkS, seD] <;> grind
                  · refine y_iload dX8_make_119 rfl ?_
                    refine y_iload dX8_make_121 rfl ?_
                    refine y_icmp_lt 138 dX8_make_123 (by decide) (fun h123 => ?_) (fun h123 => ?_)
                    · refine y_iload dX8_make_138 rfl ?_
                      refine y_istore dX8_make_140 rfl (by decide) ?_
                      refine y_aload_n dX8_make_142 rfl rfl ?_
                      refine y_geti dX8_make_143 31 clX8 kd_58 (by decide) wm_fl_X8_232 rfl rfl ?_
                      refine y_istore dX8_make_146 rfl (by decide) ?_
                      refine y_aload_n dX8_make_148 rfl rfl ?_
                      refine y_geti dX8_make_149 32 clX8 kd_58 (by decide) wm_fl_X8_235 rfl rfl ?_
                      refine y_istore dX8_make_152 rfl (by decide) ?_
                      refine y_iinc (v := nI (j + 1)) dX8_make_154 rfl (nI_i1 _) rfl (by decide) ?_
                      refine y_goto 40 dX8_make_157 (by decide) ?_
                      refine y_drop 9 (y_drop 8 (y_eq (μ2 := seF (seR (nI j)).2.1 (seR (nI j)).2.2 μ) (seF_seF _ _ _ _ _) rfl rfl (ih40 _ _ _ _ _ (itr_nx hj hv40 ?_))))
                      clear ih40 hv40
                      have e1 : seF f g μ 58 0 = μ 58 0 := rfl
                      have e2 : seF f g μ 62 = μ 62 := rfl
                      simp only [e1, e2, seF_seF, seF_31, seF_32] at *
                      have e3 : ∀ a b, dfB B a b (seF a b μ 59) (seF a b μ 58 1) (seF a b μ 60) = dfB B a b (μ 59) (μ 58 1) (μ 60) := fun a b => rfl
                      simp only [e3] at *
                      simp_all [mkS, seD] <;> grind
                    · refine y_iload dX8_make_126 rfl ?_
                      refine y_iload dX8_make_128 rfl ?_
                      refine y_icmp_ne 154 dX8_make_130 (by decide) (fun h130 => ?_) (fun h130 => ?_)
                      · refine y_iinc (v := nI (j + 1)) dX8_make_154 rfl (nI_i1 _) rfl (by decide) ?_
                        refine y_goto 40 dX8_make_157 (by decide) ?_
                        refine y_drop 9 (y_drop 8 (y_eq (μ2 := seF (seR (nI j)).2.1 (seR (nI j)).2.2 μ) (seF_seF _ _ _ _ _) rfl rfl (ih40 _ _ _ _ _ (itr_nx hj hv40 ?_))))
                        clear ih40 hv40
                        have e1 : seF f g μ 58 0 = μ 58 0 := rfl
                        have e2 : seF f g μ 62 = μ 62 := rfl
                        simp only [e1, e2, seF_seF, seF_31, seF_32] at *
                        have e3 : ∀ a b, dfB B a b (seF a b μ 59) (seF a b μ 58 1) (seF a b μ 60) = dfB B a b (μ 59) (μ 58 1) (μ 60) := fun a b => rfl
                        simp only [e3] at *
                        simp_all [mkS, seD] <;> grind
                      · refine y_iload dX8_make_133 rfl ?_
                        refine y_if_eq 154 dX8_make_135 (by decide) (fun hq => absurd hq (by decide)) (fun _ => ?_)
                        refine y_iload dX8_make_138 rfl ?_
                        refine y_istore dX8_make_140 rfl (by decide) ?_
                        refine y_aload_n dX8_make_142 rfl rfl ?_
                        refine y_geti dX8_make_143 31 clX8 kd_58 (by decide) wm_fl_X8_232 rfl rfl ?_
                        refine y_istore dX8_make_146 rfl (by decide) ?_
                        refine y_aload_n dX8_make_148 rfl rfl ?_
                        refine y_geti dX8_make_149 32 clX8 kd_58 (by decide) wm_fl_X8_235 rfl rfl ?_
                        refine y_istore dX8_make_152 rfl (by decide) ?_
                        refine y_iinc (v := nI (j + 1)) dX8_make_154 rfl (nI_i1 _) rfl (by decide) ?_
                        refine y_goto 40 dX8_make_157 (by decide) ?_
                        refine y_drop 9 (y_drop 8 (y_eq (μ2 := seF (seR (nI j)).2.1 (seR (nI j)).2.2 μ) (seF_seF _ _ _ _ _) rfl rfl (ih40 _ _ _ _ _ (itr_nx hj hv40 ?_))))
                        clear ih40 hv40
                        have e1 : seF f g μ 58 0 = μ 58 0 := rfl
                        have e2 : seF f g μ 62 = μ 62 := rfl
                        simp only [e1, e2, seF_seF, seF_31, seF_32] at *
                        have e3 : ∀ a b, dfB B a b (seF a b μ 59) (seF a b μ 58 1) (seF a b μ 60) = dfB B a b (μ 59) (μ 58 1) (μ 60) := fun a b => rfl
                        simp only [e3] at *
                        simp_all [mkS, seD] <;> grind
    · refine y_bipush dX8_make_24 ib_m2 ?_
      refine y_iret dX8_make_26 ?_
      exact ⟨by simp_all [mMake], _, _, (seF_id μ).symm⟩

set_option maxRecDepth 100000 in
set_option maxHeartbeats 4000000 in
theorem kX8_near {l : Launch} {G : GT} {μ : MemT} {z : Int32} {B : Bool} : sw_Met l G yX8_near cX8_near 6 (some .int) (rmk 3 65) [.ref (G.2.1 58), .int z, .int (bI B)] μ (fun v μ2 => v = some (.int (mNear z B μ)) ∧ ∃ f g : Int32, μ2 = seF f g μ) := by
  refine sw_Met.ofY (by decide) (Nat.le_of_ble_eq_true rfl) rfl ?_
  refine y_iload_n dX8_near_0 rfl rfl ?_
  refine y_i2l dX8_near_1 ?_
  refine y_lconst dX8_near_2 lc_1 ?_
  refine y_ldc2 dX8_near_3 wm_cl_X8_238 ?_
  refine y_cS3 dX8_near_6 meX8_in wm_ml_X8_77 (kX8_in (A := 1) (B := 999) rfl rfl) ⟨Nat.le_of_ble_eq_true rfl, Nat.le_of_ble_eq_true rfl⟩ ⟨rfl, rfl⟩ (Nat.le_of_ble_eq_true rfl) (fun v6 μ6 hp6 => ?_)
  obtain ⟨rfl, he6⟩ := hp6
  replace he6 := he6.symm
  subst he6
  refine y_ri ?_
  refine y_ifb_ne 15 dX8_near_9 (by decide) (fun h9 => ?_) (fun h9 => ?_)
  · refine y_iload_n dX8_near_15 rfl rfl ?_
    refine y_istore_n dX8_near_16 rfl rfl (by decide) ?_
    refine y_iconst (v := nI 0) dX8_near_17 icn_0 ?_
    refine y_istore dX8_near_18 rfl (by decide) ?_
    refine y_eq (show _ = seF (μ 58 31) (μ 58 32) μ from (seF_id μ).symm) rfl rfl ?_
    refine y_loop3 (fun (j : Nat) (x : Int32) (f : Int32) (g : Int32) => [some (.ref (G.2.1 58)), some (.int z), some (.int (bI B)), some (.int x), some (.int (nI j)), none]) (fun (j : Nat) (x : Int32) (f : Int32) (g : Int32) => seF f g μ) (fun (j : Nat) (x : Int32) (f : Int32) (g : Int32) => itr (nrS B z μ) (6561 - j) j x = itr (nrS B z μ) 6561 0 z) 6561 (fun x f g hv20 => ?_) (fun j x f g hj hv20 ih20 => ?_) 0 (z) (μ 58 31) (μ 58 32) (Nat.zero_le _) (rfl)
    · refine y_iload dX8_near_20 rfl ?_
      refine y_sipush dX8_near_22 is_6561 ?_
      refine y_icmp_ge 68 dX8_near_25 (by decide) (fun _ => ?_) (fun hq => absurd (by decide) hq)
      refine y_iload_n dX8_near_68 rfl rfl ?_
      refine y_iret dX8_near_69 ?_
      have hv := (itr_ex hv20).symm
      refine ⟨?_, f, g, rfl⟩
      clear hv20
      simp_all [mNear]
    · refine y_iload dX8_near_20 rfl ?_
      refine y_sipush dX8_near_22 is_6561 ?_
      refine y_icmp_ge 68 dX8_near_25 (by decide) (fun hq => absurd hq (nI_ge (b := 6561) hj (by decide))) (fun _ => ?_)
      refine y_aload_n dX8_near_28 rfl rfl ?_
      refine y_iload dX8_near_29 rfl ?_
      refine y_cV1 dX8_near_31 meX8_seat clX8 kd_58 wm_ml_X8_240 (kX8_seat) ⟨Nat.le_of_ble_eq_true rfl, Nat.le_of_ble_eq_true rfl⟩ ⟨rfl, rfl⟩ (Nat.le_of_ble_eq_true rfl) (fun v31 μ31 hp31 => ?_)
      obtain ⟨rfl, he31⟩ := hp31
      replace he31 := he31.symm
      subst he31
      refine y_ri ?_
      refine y_ifb_eq 62 dX8_near_34 (by decide) (fun h34 => ?_) (fun h34 => ?_)
      · refine y_iinc (v := nI (j + 1)) dX8_near_62 rfl (nI_i1 _) rfl (by decide) ?_
        refine y_goto 20 dX8_near_65 (by decide) ?_
        refine y_drop 5 (y_eq (μ2 := seF (seR (nI j)).2.1 (seR (nI j)).2.2 μ) (seF_seF _ _ _ _ _) rfl rfl (ih20 _ _ _ (itr_nx hj hv20 ?_)))
        clear ih20 hv20
        have e1 : seF f g μ 58 0 = μ 58 0 := rfl
        have e2 : seF f g μ 62 = μ 62 := rfl
        simp only [e1, e2, seF_seF, seF_31, seF_32] at *
        have e3 : ∀ a b, dfB B a b (seF a b μ 59) (seF a b μ 58 1) (seF a b μ 60) = dfB B a b (μ 59) (μ 58 1) (μ 60) := fun a b => rfl
        simp only [e3] at *
        simp_all [-Int32.not_le, -Int32.not_lt, nrS, seD] <;> grind
      · refine y_aload_n dX8_near_37 rfl rfl ?_
        refine y_iload_n dX8_near_38 rfl rfl ?_
        refine y_cV1 dX8_near_39 meX8_difference clX8 kd_58 wm_ml_X8_243 (kX8_difference) ⟨Nat.le_of_ble_eq_true rfl, Nat.le_of_ble_eq_true rfl⟩ ⟨rfl, rfl⟩ (Nat.le_of_ble_eq_true rfl) (fun v39 μ39 hp39 => ?_)
        obtain ⟨rfl, he39⟩ := hp39
        replace he39 := he39.symm
        subst he39
        refine y_ri ?_
        refine y_iload_n dX8_near_42 rfl rfl ?_
        refine y_isub dX8_near_43 ?_
        refine y_cS1 dX8_near_44 meX8_size wm_ml_X8_180 (kX8_size) ⟨Nat.le_of_ble_eq_true rfl, Nat.le_of_ble_eq_true rfl⟩ ⟨rfl, rfl⟩ (Nat.le_of_ble_eq_true rfl) (fun v44 μ44 hp44 => ?_)
        obtain ⟨rfl, he44⟩ := hp44
        replace he44 := he44.symm
        subst he44
        refine y_ri ?_
        refine y_istore dX8_near_47 rfl (by decide) ?_
        refine y_iload dX8_near_49 rfl ?_
        refine y_iload_n dX8_near_51 rfl rfl ?_
        refine y_icmp_ge 60 dX8_near_52 (by decide) (fun h52 => ?_) (fun h52 => ?_)
        · refine y_iload_n dX8_near_60 rfl rfl ?_
          refine y_istore_n dX8_near_61 rfl rfl (by decide) ?_
          refine y_iinc (v := nI (j + 1)) dX8_near_62 rfl (nI_i1 _) rfl (by decide) ?_
          refine y_goto 20 dX8_near_65 (by decide) ?_
          refine y_drop 5 (y_eq (μ2 := seF (seR (nI j)).2.1 (seR (nI j)).2.2 μ) (seF_seF _ _ _ _ _) rfl rfl (ih20 _ _ _ (itr_nx hj hv20 ?_)))
          clear ih20 hv20
          have e1 : seF f g μ 58 0 = μ 58 0 := rfl
          have e2 : seF f g μ 62 = μ 62 := rfl
          simp only [e1, e2, seF_seF, seF_31, seF_32] at *
          have e3 : ∀ a b, dfB B a b (seF a b μ 59) (seF a b μ 58 1) (seF a b μ 60) = dfB B a b (μ 59) (μ 58 1) (μ 60) := fun a b => rfl
          simp only [e3] at *
          simp_all [-Int32.not_le, -Int32.not_lt, nrS, seD] <;> grind
        · refine y_iload dX8_near_55 rfl ?_
          refine y_goto 61 dX8_near_57 (by decide) ?_
          refine y_istore_n dX8_near_61 rfl rfl (by decide) ?_
          refine y_iinc (v := nI (j + 1)) dX8_near_62 rfl (nI_i1 _) rfl (by decide) ?_
          refine y_goto 20 dX8_near_65 (by decide) ?_
          refine y_drop 5 (y_eq (μ2 := seF (seR (nI j)).2.1 (seR (nI j)).2.2 μ) (seF_seF _ _ _ _ _) rfl rfl (ih20 _ _ _ (itr_nx hj hv20 ?_)))
          clear ih20 hv20
          have e1 : seF f g μ 58 0 = μ 58 0 := rfl
          have e2 : seF f g μ 62 = μ 62 := rfl
          simp only [e1, e2, seF_seF, seF_31, seF_32] at *
          have e3 : ∀ a b, dfB B a b (seF a b μ 59) (seF a b μ 58 1) (seF a b μ 60) = dfB B a b (μ 59) (μ 58 1) (μ 60) := fun a b => rfl
          simp only [e3] at *
          simp_all [-Int32.not_le, -Int32.not_lt, nrS, seD] <;> grind
  · refine y_bipush dX8_near_12 ib_m2 ?_
    refine y_iret dX8_near_14 ?_
    exact ⟨by simp_all [mNear], _, _, (seF_id μ).symm⟩

theorem seF_74 (f g : Int32) (r : Nat → Int32) (μ : MemT) : mset (seF f g μ) 74 r = seF f g (mset μ 74 r) := by
  unfold seF
  rw [mset_comm _ _ _ (by decide : 58 ≠ 74)]
  rfl
theorem gpS_n {B : Bool} {μ : MemT} {j : Nat} {d : Nat → Int32} (h : seaB (nI j) (μ 58 0) (μ 62) = false) : d = gpS B μ j d := by
  rw [gpS, if_neg (by rw [h]; decide)]
theorem gpS_l {B : Bool} {μ : MemT} {j : Nat} {d : Nat → Int32} (h : seD B (nI j) μ ≤ 0) : d = gpS B μ j d := by
  rw [gpS, if_pos h, ite_self]
theorem gpS_y {B : Bool} {μ : MemT} {j : Nat} {d : Nat → Int32} (h : seaB (nI j) (μ 58 0) (μ 62) = true) (h2 : ¬ seD B (nI j) μ ≤ 0) : upd d (cl (seD B (nI j) μ)) 1 = gpS B μ j d := by
  rw [gpS, if_pos h, if_neg h2]
def GapB (B : Bool) (μ : MemT) : Prop := ∀ x : Int32, seaB x (μ 58 0) (μ 62) = true → 0 < seD B x μ → cl (seD B x μ) < 3201

set_option maxRecDepth 100000 in
set_option maxHeartbeats 4000000 in
theorem kX8_gap {l : Launch} {G : GT} {μ : MemT} {B : Bool} (hbd : GapB B μ) : sw_Met l G yX8_gap cX8_gap 3 (some .int) (rmk 3 65) [.ref (G.2.1 58), .int (bI B)] μ (fun v μ2 => v = some (.int (mGap B μ)) ∧ ∃ f g : Int32, μ2 = seF f g (mset μ 74 (gpR B μ))) := by
  refine sw_Met.ofY (by decide) (Nat.le_of_ble_eq_true rfl) rfl ?_
  refine y_iconst (v := nI 0) dX8_gap_0 icn_0 ?_
  refine y_istore_n dX8_gap_1 rfl rfl (by decide) ?_
  refine y_eq (mset_eq (k := 74) (r := μ 74) rfl) rfl rfl ?_
  refine y_loop1 (fun (j : Nat) (a : Nat → Int32) => [some (.ref (G.2.1 58)), some (.int (bI B)), some (.int (nI j))]) (fun (j : Nat) (a : Nat → Int32) => mset μ 74 a) (fun (j : Nat) (a : Nat → Int32) => itr (fun j f => upd f j 0) (3201 - j) j a = filF 3201 0 (μ 74)) 3201 (fun a hv2 => ?_) (fun j a hj hv2 ih2 => ?_) 0 (μ 74) (Nat.zero_le _) (rfl)
  · have hz := itr_ex hv2
    subst hz
    clear hv2
    refine y_iload_n dX8_gap_2 rfl rfl ?_
    refine y_sipush dX8_gap_3 is_3201 ?_
    refine y_icmp_ge 22 dX8_gap_6 (by decide) (fun _ => ?_) (fun hq => absurd (by decide) hq)
    refine y_iconst (v := nI 0) dX8_gap_22 icn_0 ?_
    refine y_istore_n dX8_gap_23 rfl rfl (by decide) ?_
    refine y_eq (show _ = seF (mset μ 74 (filF 3201 0 (μ 74)) 58 31) (mset μ 74 (filF 3201 0 (μ 74)) 58 32) (mset μ 74 (filF 3201 0 (μ 74))) from (seF_id _).symm) rfl rfl ?_
    refine y_loop3 (fun (j : Nat) (d : Nat → Int32) (f : Int32) (g : Int32) => [some (.ref (G.2.1 58)), some (.int (bI B)), some (.int (nI j))]) (fun (j : Nat) (d : Nat → Int32) (f : Int32) (g : Int32) => seF f g (mset μ 74 d)) (fun (j : Nat) (d : Nat → Int32) (f : Int32) (g : Int32) => itr (gpS B μ) (6561 - j) j d = gpR B μ) 6561 (fun d f g hv24 => ?_) (fun j d f g hj hv24 ih24 => ?_) 0 (filF 3201 0 (μ 74)) (mset μ 74 (filF 3201 0 (μ 74)) 58 31) (mset μ 74 (filF 3201 0 (μ 74)) 58 32) (Nat.zero_le _) (rfl)
    · have hz := itr_ex hv24
      subst hz
      clear hv24
      refine y_iload_n dX8_gap_24 rfl rfl ?_
      refine y_sipush dX8_gap_25 is_6561 ?_
      refine y_icmp_ge 64 dX8_gap_28 (by decide) (fun _ => ?_) (fun hq => absurd (by decide) hq)
      refine y_iconst (v := nI 1) dX8_gap_64 icn_1 ?_
      refine y_istore_n dX8_gap_65 rfl rfl (by decide) ?_
      refine y_loop0 (fun (j : Nat)  => [some (.ref (G.2.1 58)), some (.int (bI B)), some (.int (nI j))]) (fun (j : Nat)  => seF f g (mset μ 74 (gpR B μ))) (fun (j : Nat)  => fnd (fun j => decide (gpR B μ j = 0)) (3201 - j) j = fnd (fun j => decide (gpR B μ j = 0)) 3200 1) 3201 (fun  hv66 => ?_) (fun j hj hv66 ih66 => ?_) 1  (by decide) (rfl)
      · refine y_iload_n dX8_gap_66 rfl rfl ?_
        refine y_sipush dX8_gap_67 is_3201 ?_
        refine y_icmp_ge 88 dX8_gap_70 (by decide) (fun _ => ?_) (fun hq => absurd (by decide) hq)
        refine y_iload_n dX8_gap_88 rfl rfl ?_
        refine y_iret dX8_gap_89 ?_
        refine ⟨?_, f, g, rfl⟩
        first
          | (rw [mGap, luB, fnd_hit hj hv66 (decide_eq_true h79)]; done)
          | (rw [mGap, luB, fnd_ex hv66]; rfl)
      · refine y_iload_n dX8_gap_66 rfl rfl ?_
        refine y_sipush dX8_gap_67 is_3201 ?_
        refine y_icmp_ge 88 dX8_gap_70 (by decide) (fun hq => absurd hq (nI_ge (b := 3201) hj (by decide))) (fun _ => ?_)
        refine y_aload_n dX8_gap_73 rfl rfl ?_
        refine y_getr dX8_gap_74 33 clX8 kd_58 (by decide) wm_fl_X8_55 rfl rfl ?_
        refine y_iload_n dX8_gap_77 rfl rfl ?_
        refine y_zald dX8_gap_78 j kd_74 rfl hj (by decide) ?_
        refine y_if_eq 88 dX8_gap_79 (by decide) (fun h79 => ?_) (fun h79 => ?_)
        · refine y_iload_n dX8_gap_88 rfl rfl ?_
          refine y_iret dX8_gap_89 ?_
          refine ⟨?_, f, g, rfl⟩
          first
            | (rw [mGap, luB, fnd_hit hj hv66 (decide_eq_true h79)]; done)
            | (rw [mGap, luB, fnd_ex hv66]; rfl)
        · refine y_iinc (v := nI (j + 1)) dX8_gap_82 rfl (nI_i1 _) rfl (by decide) ?_
          refine y_goto 66 dX8_gap_85 (by decide) ?_
          exact ih66 (fnd_nx hj hv66 (decide_eq_false h79))
    · refine y_iload_n dX8_gap_24 rfl rfl ?_
      refine y_sipush dX8_gap_25 is_6561 ?_
      refine y_icmp_ge 64 dX8_gap_28 (by decide) (fun hq => absurd hq (nI_ge (b := 6561) hj (by decide))) (fun _ => ?_)
      refine y_aload_n dX8_gap_31 rfl rfl ?_
      refine y_iload_n dX8_gap_32 rfl rfl ?_
      refine y_cV1 dX8_gap_33 meX8_seat clX8 kd_58 wm_ml_X8_240 (kX8_seat) ⟨Nat.le_of_ble_eq_true rfl, Nat.le_of_ble_eq_true rfl⟩ ⟨rfl, rfl⟩ (Nat.le_of_ble_eq_true rfl) (fun v33 μ33 hp33 => ?_)
      obtain ⟨rfl, he33⟩ := hp33
      replace he33 := he33.symm
      subst he33
      refine y_ri ?_
      refine y_ifb_eq 58 dX8_gap_36 (by decide) (fun h36 => ?_) (fun h36 => ?_)
      · refine y_iinc (v := nI (j + 1)) dX8_gap_58 rfl (nI_i1 _) rfl (by decide) ?_
        refine y_goto 24 dX8_gap_61 (by decide) ?_
        exact y_eq (μ2 := seF (seR (nI j)).2.1 (seR (nI j)).2.2 (mset μ 74 d)) (seF_seF _ _ _ _ _) rfl rfl (ih24 _ _ _ (itr_nx hj hv24 (gpS_n (d := d) h36)))
      · refine y_aload_n dX8_gap_39 rfl rfl ?_
        refine y_iload_n dX8_gap_40 rfl rfl ?_
        refine y_cV1 dX8_gap_41 meX8_difference clX8 kd_58 wm_ml_X8_243 (kX8_difference) ⟨Nat.le_of_ble_eq_true rfl, Nat.le_of_ble_eq_true rfl⟩ ⟨rfl, rfl⟩ (Nat.le_of_ble_eq_true rfl) (fun v41 μ41 hp41 => ?_)
        obtain ⟨rfl, he41⟩ := hp41
        replace he41 := he41.symm
        subst he41
        refine y_ri ?_
        refine y_if_le 58 dX8_gap_44 (by decide) (fun h44 => ?_) (fun h44 => ?_)
        · refine y_iinc (v := nI (j + 1)) dX8_gap_58 rfl (nI_i1 _) rfl (by decide) ?_
          refine y_goto 24 dX8_gap_61 (by decide) ?_
          exact y_eq (μ2 := seF (seR (nI j)).2.1 (seR (nI j)).2.2 (mset μ 74 d)) (seF_seF _ _ _ _ _) rfl rfl (ih24 _ _ _ (itr_nx hj hv24 (gpS_l (d := d) h44)))
        · refine y_aload_n dX8_gap_47 rfl rfl ?_
          refine y_getr dX8_gap_48 33 clX8 kd_58 (by decide) wm_fl_X8_55 rfl rfl ?_
          refine y_aload_n dX8_gap_51 rfl rfl ?_
          refine y_iload_n dX8_gap_52 rfl rfl ?_
          refine y_cV1 dX8_gap_53 meX8_difference clX8 kd_58 wm_ml_X8_243 (kX8_difference) ⟨Nat.le_of_ble_eq_true rfl, Nat.le_of_ble_eq_true rfl⟩ ⟨rfl, rfl⟩ (Nat.le_of_ble_eq_true rfl) (fun v53 μ53 hp53 => ?_)
          obtain ⟨rfl, he53⟩ := hp53
          replace he53 := he53.symm
          subst he53
          refine y_ri ?_
          refine y_iconst dX8_gap_56 ic_1 ?_
          refine y_zast dX8_gap_57 (cl (seD B (nI j) μ)) kd_74 (pos_nI (Int32.not_le.mp h44)) (hbd (nI j) h36 (Int32.not_le.mp h44)) (by decide) ?_
          refine y_iinc (v := nI (j + 1)) dX8_gap_58 rfl (nI_i1 _) rfl (by decide) ?_
          refine y_goto 24 dX8_gap_61 (by decide) ?_
          exact y_eq (μ2 := seF (seR (nI j)).2.1 (seR (nI j)).2.2 (mset μ 74 (upd d (cl (seD B (nI j) μ)) 1))) (by rw [seF_seF, seF_74, mset_mset, nar_z1]; rfl) rfl rfl (ih24 _ _ _ (itr_nx hj hv24 (gpS_y (d := d) h36 h44)))
  · refine y_iload_n dX8_gap_2 rfl rfl ?_
    refine y_sipush dX8_gap_3 is_3201 ?_
    refine y_icmp_ge 22 dX8_gap_6 (by decide) (fun hq => absurd hq (nI_ge (b := 3201) hj (by decide))) (fun _ => ?_)
    refine y_aload_n dX8_gap_9 rfl rfl ?_
    refine y_getr dX8_gap_10 33 clX8 kd_58 (by decide) wm_fl_X8_55 rfl rfl ?_
    refine y_iload_n dX8_gap_13 rfl rfl ?_
    refine y_iconst dX8_gap_14 ic_0 ?_
    refine y_zast dX8_gap_15 j kd_74 rfl hj (by decide) ?_
    refine y_iinc (v := nI (j + 1)) dX8_gap_16 rfl (nI_i1 _) rfl (by decide) ?_
    refine y_goto 2 dX8_gap_19 (by decide) ?_
    exact y_eq (μ2 := mset μ 74 (upd a j 0)) (by rw [mset_self, mset_mset, nar_z0]) rfl rfl (ih2 _ (itr_nx hj hv2 rfl))

def asI (t c : Int32) (w : Nat → Int32) (i z : Int32) : Nat → Nat → Int32 → Int32 ⊕ Int32
  | 0, _, n => .inr n
  | m + 1, p, n => if bt t p && decide (wc c (nI p) (w p) = z) then (if n = i then .inl (nI p) else asI t c w i z m (p + 1) (n + 1)) else asI t c w i z m (p + 1) n
def asO (t c : Int32) (w : Nat → Int32) (i : Int32) : Nat → Int32 → Int32
  | 0, n => if i = -1 then n else -6
  | m + 1, n => match asI t c w i (nI (m + 1)) 8 0 n with
    | .inl r => r
    | .inr n2 => asO t c w i m n2
theorem nI_i9 (n : Nat) : nI (n + 1) + Int32.ofInt (-1) = nI n := by
  rw [show Int32.ofInt (-1) = -1 by decide]
  have := nI_pred n
  rw [← this, Int32.sub_eq_add_neg]
def juB (t c : Int32) (w : Nat → Int32) (p : Nat) : Int32 := itr (fun q n => if bt t p && (bt t q && decide (wc c (nI p) (w p) = wc c (nI q) (w q))) then n + 1 else n) 8 0 0
def mJust (μ : MemT) : Int32 := itr (fun p s => if juB (μ 58 0) (μ 58 1) (μ 60) p ≤ s then s else juB (μ 58 0) (μ 58 1) (μ 60) p) 8 0 0
def prS (g s : Int32) (μ : MemT) (j : Nat) (w : Int32 × Int32) : Int32 × Int32 := if (decide (nI j &&& (s ||| (μ 58 0 ^^^ -1)) = 0) && togM (nI j) (μ 62)) = true ∧ ¬ g + wcB s (μ 58 1) (μ 60) < wcB (nI j) (μ 58 1) (μ 60) ∧ ¬ sumB (nI j) (μ 59) - sumB s (μ 59) ≤ w.1 then (sumB (nI j) (μ 59) - sumB s (μ 59), nI j) else w
def prR (g s : Int32) (μ : MemT) : Int32 × Int32 := itr (prS g s μ) 256 0 (0, -6)
def mPrice (g s w : Int32) (μ : MemT) : Int32 := if (inR s 0 255 && subI s (μ 58 0)) = false then -1 else if (inR g 1 999 && inR w 0 1) = false then -2 else if togM s (μ 62) = false then -3 else if (prR g s μ).2 < 0 ∨ w = 1 then (prR g s μ).2 else (prR g s μ).1

set_option maxRecDepth 100000 in
set_option maxHeartbeats 4000000 in
theorem kX8_assize {l : Launch} {G : GT} {μ : MemT} {i : Int32} : sw_Met l G yX8_assize cX8_assize 5 (some .int) (rmk 2 46) [.ref (G.2.1 58), .int i] μ (fun v μ2 => v = some (.int (asO (μ 58 0) (μ 58 1) (μ 60) i 400 0)) ∧ μ2 = μ) := by
  refine sw_Met.ofY (by decide) (Nat.le_of_ble_eq_true rfl) rfl ?_
  refine y_iconst dX8_assize_0 ic_0 ?_
  refine y_istore_n dX8_assize_1 rfl rfl (by decide) ?_
  refine y_sipush (v := nI 400) dX8_assize_2 isn_400 ?_
  refine y_istore_n dX8_assize_5 rfl rfl (by decide) ?_
  refine y_loop1 (fun (j : Nat) (n : Int32) => [some (.ref (G.2.1 58)), some (.int i), some (.int n), some (.int (nI (400 - j))), none]) (fun (j : Nat) (n : Int32) => μ) (fun (j : Nat) (n : Int32) => asO (μ 58 0) (μ 58 1) (μ 60) i (400 - j) n = asO (μ 58 0) (μ 58 1) (μ 60) i 400 0) 400 (fun n hv6 => ?_) (fun j n hj hv6 ih6 => ?_) 0 (0) (Nat.zero_le _) (rfl)
  · refine y_iload_n dX8_assize_6 rfl rfl ?_
    refine y_if_le 62 dX8_assize_7 (by decide) (fun _ => ?_) (fun hq => absurd (by decide) hq)
    refine y_iload_n dX8_assize_62 rfl rfl ?_
    refine y_iconst dX8_assize_63 ic_m1 ?_
    refine y_icmp_ne 71 dX8_assize_64 (by decide) (fun h64 => ?_) (fun h64 => ?_)
    · refine y_bipush dX8_assize_71 ib_m6 ?_
      refine y_iret dX8_assize_73 ?_
      exact ⟨by rw [← hv6]; simp [asO, h64], rfl⟩
    · refine y_iload_n dX8_assize_67 rfl rfl ?_
      refine y_goto 73 dX8_assize_68 (by decide) ?_
      refine y_iret dX8_assize_73 ?_
      exact ⟨by rw [← hv6]; simp [asO, h64], rfl⟩
  · rw [show 400 - j = (400 - (j + 1)) + 1 by omega, asO] at hv6
    refine y_iload_n dX8_assize_6 rfl rfl ?_
    refine y_if_le 62 dX8_assize_7 (by decide) (fun hq => absurd hq (nI_nle (n := 400 - j) (by omega) (by omega))) (fun _ => ?_)
    refine y_iconst (v := nI 0) dX8_assize_10 icn_0 ?_
    refine y_istore dX8_assize_11 rfl (by decide) ?_
    refine y_loop1 (fun (jp : Nat) (n2 : Int32) => [some (.ref (G.2.1 58)), some (.int i), some (.int n2), some (.int (nI (400 - j))), some (.int (nI jp))]) (fun (jp : Nat) (n2 : Int32) => μ) (fun (jp : Nat) (n2 : Int32) => asI (μ 58 0) (μ 58 1) (μ 60) i (nI (400 - j)) (8 - jp) jp n2 = asI (μ 58 0) (μ 58 1) (μ 60) i (nI (400 - j)) 8 0 n) 8 (fun n2 hv13 => ?_) (fun jp n2 hjp hv13 ih13 => ?_) 0 (n) (Nat.zero_le _) (rfl)
    · replace hv13 : asI (μ 58 0) (μ 58 1) (μ 60) i (nI (400 - j)) 8 0 n = asI (μ 58 0) (μ 58 1) (μ 60) i (nI (400 - (j + 1) + 1)) 8 0 n ∧ .inr n2 = asI (μ 58 0) (μ 58 1) (μ 60) i (nI (400 - j)) 8 0 n := ⟨by rw [show 400 - (j + 1) + 1 = 400 - j by omega], by rw [← hv13, Nat.sub_self, asI]⟩
      refine y_iload dX8_assize_13 rfl ?_
      refine y_bipush dX8_assize_15 ib_8 ?_
      refine y_icmp_ge 56 dX8_assize_17 (by decide) (fun _ => ?_) (fun hq => absurd (by decide) hq)
      refine y_iinc dX8_assize_56 rfl rfl rfl (by decide) ?_
      refine y_goto 6 dX8_assize_59 (by decide) ?_
      have e9 : asI (μ 58 0) (μ 58 1) (μ 60) i (nI (400 - (j + 1) + 1)) 8 0 n = .inr n2 := by rw [← hv13.1]; exact hv13.2.symm
      rw [e9] at hv6
      exact y_drop 4 (y_eq (lv2 := [some (.ref (G.2.1 58)), some (.int i), some (.int n2), some (.int (nI (400 - (j + 1)))), none]) rfl (by rw [← nI_i9 (400 - (j + 1)), show 400 - (j + 1) + 1 = 400 - j by omega]; rfl) rfl (ih6 _ hv6))
    · rw [sub_s hjp, asI] at hv13
      refine y_iload dX8_assize_13 rfl ?_
      refine y_bipush dX8_assize_15 ib_8 ?_
      refine y_icmp_ge 56 dX8_assize_17 (by decide) (fun hq => absurd hq (nI_ge (b := 8) hjp (by decide))) (fun _ => ?_)
      refine y_aload_n dX8_assize_20 rfl rfl ?_
      refine y_iload dX8_assize_21 rfl ?_
      refine y_cV1 dX8_assize_23 meX8_isPerson clX8 kd_58 wm_ml_X8_84 (kX8_isPerson) ⟨Nat.le_of_ble_eq_true rfl, Nat.le_of_ble_eq_true rfl⟩ ⟨rfl, rfl⟩ (Nat.le_of_ble_eq_true rfl) (fun v23 μ23 hp23 => ?_)
      obtain ⟨rfl, he23⟩ := hp23
      replace he23 := he23.symm
      subst he23
      refine y_ri ?_
      refine y_ifb_eq 50 dX8_assize_26 (by decide) (fun h26 => ?_) (fun h26 => ?_)
      · refine y_iinc (v := nI (jp + 1)) dX8_assize_50 rfl (nI_i1 _) rfl (by decide) ?_
        refine y_goto 13 dX8_assize_53 (by decide) ?_
        exact ih13 _ (by rw [← hv13]; clear ih13 ih6 hv13 hv6; simp_all [isP_n hjp])
      · refine y_aload_n dX8_assize_29 rfl rfl ?_
        refine y_iload dX8_assize_30 rfl ?_
        refine y_cV1 dX8_assize_32 meX8_pounds clX8 kd_58 wm_ml_X8_150 (kX8_pounds (by first | assumption | omega)) ⟨Nat.le_of_ble_eq_true rfl, Nat.le_of_ble_eq_true rfl⟩ ⟨rfl, rfl⟩ (Nat.le_of_ble_eq_true rfl) (fun v32 μ32 hp32 => ?_)
        obtain ⟨rfl, he32⟩ := hp32
        replace he32 := he32.symm
        subst he32
        refine y_ri ?_
        refine y_iload_n dX8_assize_35 rfl rfl ?_
        refine y_icmp_ne 50 dX8_assize_36 (by decide) (fun h36 => ?_) (fun h36 => ?_)
        · refine y_iinc (v := nI (jp + 1)) dX8_assize_50 rfl (nI_i1 _) rfl (by decide) ?_
          refine y_goto 13 dX8_assize_53 (by decide) ?_
          exact ih13 _ (by rw [← hv13]; clear ih13 ih6 hv13 hv6; simp_all [isP_n hjp])
        · refine y_iload_n dX8_assize_39 rfl rfl ?_
          refine y_iload_n dX8_assize_40 rfl rfl ?_
          refine y_icmp_ne 47 dX8_assize_41 (by decide) (fun h41 => ?_) (fun h41 => ?_)
          · refine y_iinc dX8_assize_47 rfl (ii_1 _) rfl (by decide) ?_
            refine y_iinc (v := nI (jp + 1)) dX8_assize_50 rfl (nI_i1 _) rfl (by decide) ?_
            refine y_goto 13 dX8_assize_53 (by decide) ?_
            exact ih13 _ (by rw [← hv13]; clear ih13 ih6 hv13 hv6; simp_all [isP_n hjp])
          · refine y_iload dX8_assize_44 rfl ?_
            refine y_iret dX8_assize_46 ?_
            have e9 : asI (μ 58 0) (μ 58 1) (μ 60) i (nI (400 - (j + 1) + 1)) 8 0 n = .inl (nI jp) := by
              rw [show 400 - (j + 1) + 1 = 400 - j by omega, ← hv13]
              clear ih13 ih6 hv13 hv6
              simp_all [isP_n hjp]
            rw [e9] at hv6
            exact ⟨by rw [← hv6], rfl⟩

theorem ju_le {t c s : Int32} {w : Nat → Int32} {j : Nat} (h : juB t c w j ≤ s) : s = (fun (p : Nat) s => if juB t c w p ≤ s then s else juB t c w p) j s := (if_pos h).symm
theorem ju_gt {t c s : Int32} {w : Nat → Int32} {j : Nat} (h : ¬ juB t c w j ≤ s) : juB t c w j = (fun (p : Nat) s => if juB t c w p ≤ s then s else juB t c w p) j s := (if_neg h).symm

set_option maxRecDepth 100000 in
set_option maxHeartbeats 4000000 in
theorem kX8_just {l : Launch} {G : GT} {μ : MemT}  : sw_Met l G yX8_just cX8_just 5 (some .int) (rmk 2 46) [.ref (G.2.1 58)] μ (fun v μ2 => v = some (.int (mJust μ)) ∧ μ2 = μ) := by
  refine sw_Met.ofY (by decide) (Nat.le_of_ble_eq_true rfl) rfl ?_
  refine y_iconst dX8_just_0 ic_0 ?_
  refine y_istore_n dX8_just_1 rfl rfl (by decide) ?_
  refine y_iconst (v := nI 0) dX8_just_2 icn_0 ?_
  refine y_istore_n dX8_just_3 rfl rfl (by decide) ?_
  refine y_loop1 (fun (j : Nat) (s : Int32) => [some (.ref (G.2.1 58)), some (.int s), some (.int (nI j)), none, none]) (fun (j : Nat) (s : Int32) => μ) (fun (j : Nat) (s : Int32) => itr (fun p s => if juB (μ 58 0) (μ 58 1) (μ 60) p ≤ s then s else juB (μ 58 0) (μ 58 1) (μ 60) p) (8 - j) j s = mJust μ) 8 (fun s hv4 => ?_) (fun j s hj hv4 ih4 => ?_) 0 (0) (Nat.zero_le _) (rfl)
  · refine y_iload_n dX8_just_4 rfl rfl ?_
    refine y_bipush dX8_just_5 ib_8 ?_
    refine y_icmp_ge 84 dX8_just_7 (by decide) (fun _ => ?_) (fun hq => absurd (by decide) hq)
    refine y_iload_n dX8_just_84 rfl rfl ?_
    refine y_iret dX8_just_85 ?_
    exact ⟨by rw [itr_ex hv4], rfl⟩
  · refine y_iload_n dX8_just_4 rfl rfl ?_
    refine y_bipush dX8_just_5 ib_8 ?_
    refine y_icmp_ge 84 dX8_just_7 (by decide) (fun hq => absurd hq (nI_ge (b := 8) hj (by decide))) (fun _ => ?_)
    refine y_iconst dX8_just_10 ic_0 ?_
    refine y_istore_n dX8_just_11 rfl rfl (by decide) ?_
    refine y_iconst (v := nI 0) dX8_just_12 icn_0 ?_
    refine y_istore dX8_just_13 rfl (by decide) ?_
    refine y_loop1 (fun (jq : Nat) (n : Int32) => [some (.ref (G.2.1 58)), some (.int s), some (.int (nI j)), some (.int n), some (.int (nI jq))]) (fun (jq : Nat) (n : Int32) => μ) (fun (jq : Nat) (n : Int32) => itr (fun q n => if bt (μ 58 0) j && (bt (μ 58 0) q && decide (wc (μ 58 1) (nI j) ((μ 60) j) = wc (μ 58 1) (nI q) ((μ 60) q))) then n + 1 else n) (8 - jq) jq n = juB (μ 58 0) (μ 58 1) (μ 60) j) 8 (fun n hv15 => ?_) (fun jq n hjq hv15 ih15 => ?_) 0 (0) (Nat.zero_le _) (rfl)
    · have hn := itr_ex hv15
      subst hn
      refine y_iload dX8_just_15 rfl ?_
      refine y_bipush dX8_just_17 ib_8 ?_
      refine y_icmp_ge 67 dX8_just_19 (by decide) (fun _ => ?_) (fun hq => absurd (by decide) hq)
      refine y_iload_n dX8_just_67 rfl rfl ?_
      refine y_iload_n dX8_just_68 rfl rfl ?_
      refine y_icmp_le 76 dX8_just_69 (by decide) (fun h69 => ?_) (fun h69 => ?_)
      · refine y_iload_n dX8_just_76 rfl rfl ?_
        refine y_istore_n dX8_just_77 rfl rfl (by decide) ?_
        refine y_iinc (v := nI (j + 1)) dX8_just_78 rfl (nI_i1 _) rfl (by decide) ?_
        refine y_goto 4 dX8_just_81 (by decide) ?_
        exact y_drop 4 (y_drop 3 (ih4 _ (itr_nx hj hv4 (ju_le h69))))
      · refine y_iload_n dX8_just_72 rfl rfl ?_
        refine y_goto 77 dX8_just_73 (by decide) ?_
        refine y_istore_n dX8_just_77 rfl rfl (by decide) ?_
        refine y_iinc (v := nI (j + 1)) dX8_just_78 rfl (nI_i1 _) rfl (by decide) ?_
        refine y_goto 4 dX8_just_81 (by decide) ?_
        exact y_drop 4 (y_drop 3 (ih4 _ (itr_nx hj hv4 (ju_gt h69))))
    · refine y_iload dX8_just_15 rfl ?_
      refine y_bipush dX8_just_17 ib_8 ?_
      refine y_icmp_ge 67 dX8_just_19 (by decide) (fun hq => absurd hq (nI_ge (b := 8) hjq (by decide))) (fun _ => ?_)
      refine y_iload_n dX8_just_22 rfl rfl ?_
      refine y_aload_n dX8_just_23 rfl rfl ?_
      refine y_iload_n dX8_just_24 rfl rfl ?_
      refine y_cV1 dX8_just_25 meX8_isPerson clX8 kd_58 wm_ml_X8_84 (kX8_isPerson) ⟨Nat.le_of_ble_eq_true rfl, Nat.le_of_ble_eq_true rfl⟩ ⟨rfl, rfl⟩ (Nat.le_of_ble_eq_true rfl) (fun v25 μ25 hp25 => ?_)
      obtain ⟨rfl, he25⟩ := hp25
      replace he25 := he25.symm
      subst he25
      refine y_ri ?_
      refine y_ifb_eq 58 dX8_just_28 (by decide) (fun h28 => ?_) (fun h28 => ?_)
      · refine y_iconst dX8_just_58 ic_0 ?_
        refine y_iadd dX8_just_59 ?_
        refine y_istore_n dX8_just_60 rfl rfl (by decide) ?_
        refine y_iinc (v := nI (jq + 1)) dX8_just_61 rfl (nI_i1 _) rfl (by decide) ?_
        refine y_goto 15 dX8_just_64 (by decide) ?_
        exact ih15 _ (itr_nx hjq hv15 (by clear ih15 ih4 hv15 hv4; simp_all [isP_n hj, isP_n hjq]))
      · refine y_aload_n dX8_just_31 rfl rfl ?_
        refine y_iload dX8_just_32 rfl ?_
        refine y_cV1 dX8_just_34 meX8_isPerson clX8 kd_58 wm_ml_X8_84 (kX8_isPerson) ⟨Nat.le_of_ble_eq_true rfl, Nat.le_of_ble_eq_true rfl⟩ ⟨rfl, rfl⟩ (Nat.le_of_ble_eq_true rfl) (fun v34 μ34 hp34 => ?_)
        obtain ⟨rfl, he34⟩ := hp34
        replace he34 := he34.symm
        subst he34
        refine y_ri ?_
        refine y_ifb_eq 58 dX8_just_37 (by decide) (fun h37 => ?_) (fun h37 => ?_)
        · refine y_iconst dX8_just_58 ic_0 ?_
          refine y_iadd dX8_just_59 ?_
          refine y_istore_n dX8_just_60 rfl rfl (by decide) ?_
          refine y_iinc (v := nI (jq + 1)) dX8_just_61 rfl (nI_i1 _) rfl (by decide) ?_
          refine y_goto 15 dX8_just_64 (by decide) ?_
          exact ih15 _ (itr_nx hjq hv15 (by clear ih15 ih4 hv15 hv4; simp_all [isP_n hj, isP_n hjq]))
        · refine y_aload_n dX8_just_40 rfl rfl ?_
          refine y_iload_n dX8_just_41 rfl rfl ?_
          refine y_cV1 dX8_just_42 meX8_pounds clX8 kd_58 wm_ml_X8_150 (kX8_pounds (by first | assumption | omega)) ⟨Nat.le_of_ble_eq_true rfl, Nat.le_of_ble_eq_true rfl⟩ ⟨rfl, rfl⟩ (Nat.le_of_ble_eq_true rfl) (fun v42 μ42 hp42 => ?_)
          obtain ⟨rfl, he42⟩ := hp42
          replace he42 := he42.symm
          subst he42
          refine y_ri ?_
          refine y_aload_n dX8_just_45 rfl rfl ?_
          refine y_iload dX8_just_46 rfl ?_
          refine y_cV1 dX8_just_48 meX8_pounds clX8 kd_58 wm_ml_X8_150 (kX8_pounds (by first | assumption | omega)) ⟨Nat.le_of_ble_eq_true rfl, Nat.le_of_ble_eq_true rfl⟩ ⟨rfl, rfl⟩ (Nat.le_of_ble_eq_true rfl) (fun v48 μ48 hp48 => ?_)
          obtain ⟨rfl, he48⟩ := hp48
          replace he48 := he48.symm
          subst he48
          refine y_ri ?_
          refine y_icmp_ne 58 dX8_just_51 (by decide) (fun h51 => ?_) (fun h51 => ?_)
          · refine y_iconst dX8_just_58 ic_0 ?_
            refine y_iadd dX8_just_59 ?_
            refine y_istore_n dX8_just_60 rfl rfl (by decide) ?_
            refine y_iinc (v := nI (jq + 1)) dX8_just_61 rfl (nI_i1 _) rfl (by decide) ?_
            refine y_goto 15 dX8_just_64 (by decide) ?_
            exact ih15 _ (itr_nx hjq hv15 (by clear ih15 ih4 hv15 hv4; simp_all [isP_n hj, isP_n hjq]))
          · refine y_iconst dX8_just_54 ic_1 ?_
            refine y_goto 59 dX8_just_55 (by decide) ?_
            refine y_iadd dX8_just_59 ?_
            refine y_istore_n dX8_just_60 rfl rfl (by decide) ?_
            refine y_iinc (v := nI (jq + 1)) dX8_just_61 rfl (nI_i1 _) rfl (by decide) ?_
            refine y_goto 15 dX8_just_64 (by decide) ?_
            exact ih15 _ (itr_nx hjq hv15 (by clear ih15 ih4 hv15 hv4; simp_all [isP_n hj, isP_n hjq]))

set_option maxRecDepth 100000 in
set_option maxHeartbeats 4000000 in
theorem kX8_price {l : Launch} {G : GT} {μ : MemT} {g s w : Int32} : sw_Met l G yX8_price cX8_price 9 (some .int) (rmk 2 44) [.ref (G.2.1 58), .int g, .int s, .int w] μ (fun v μ2 => v = some (.int (mPrice g s w μ)) ∧ μ2 = μ) := by
  refine sw_Met.ofY (by decide) (Nat.le_of_ble_eq_true rfl) rfl ?_
  refine y_iload_n dX8_price_0 rfl rfl ?_
  refine y_i2l dX8_price_1 ?_
  refine y_lconst dX8_price_2 lc_0 ?_
  refine y_ldc2 dX8_price_3 wm_cl_X8_247 ?_
  refine y_cS3 dX8_price_6 meX8_in wm_ml_X8_77 (kX8_in (A := 0) (B := 255) rfl rfl) ⟨Nat.le_of_ble_eq_true rfl, Nat.le_of_ble_eq_true rfl⟩ ⟨rfl, rfl⟩ (Nat.le_of_ble_eq_true rfl) (fun v6 μ6 hp6 => ?_)
  obtain ⟨rfl, he6⟩ := hp6
  replace he6 := he6.symm
  subst he6
  refine y_ri ?_
  refine y_ifb_eq 23 dX8_price_9 (by decide) (fun h9 => ?_) (fun h9 => ?_)
  · refine y_iconst dX8_price_23 ic_m1 ?_
    refine y_iret dX8_price_24 ?_
    exact ⟨by simp_all [mPrice, subI], rfl⟩
  · refine y_iload_n dX8_price_12 rfl rfl ?_
    refine y_aload_n dX8_price_13 rfl rfl ?_
    refine y_geti dX8_price_14 0 clX8 kd_58 (by decide) wm_fl_X8_81 rfl rfl ?_
    refine y_iconst dX8_price_17 ic_m1 ?_
    refine y_ixor dX8_price_18 ?_
    refine y_iand dX8_price_19 ?_
    refine y_if_eq 25 dX8_price_20 (by decide) (fun h20 => ?_) (fun h20 => ?_)
    · refine y_iload_n dX8_price_25 rfl rfl ?_
      refine y_i2l dX8_price_26 ?_
      refine y_lconst dX8_price_27 lc_1 ?_
      refine y_ldc2 dX8_price_28 wm_cl_X8_238 ?_
      refine y_cS3 dX8_price_31 meX8_in wm_ml_X8_77 (kX8_in (A := 1) (B := 999) rfl rfl) ⟨Nat.le_of_ble_eq_true rfl, Nat.le_of_ble_eq_true rfl⟩ ⟨rfl, rfl⟩ (Nat.le_of_ble_eq_true rfl) (fun v31 μ31 hp31 => ?_)
      obtain ⟨rfl, he31⟩ := hp31
      replace he31 := he31.symm
      subst he31
      refine y_ri ?_
      refine y_ifb_eq 47 dX8_price_34 (by decide) (fun h34 => ?_) (fun h34 => ?_)
      · refine y_bipush dX8_price_47 ib_m2 ?_
        refine y_iret dX8_price_49 ?_
        exact ⟨by simp_all [mPrice, subI], rfl⟩
      · refine y_iload_n dX8_price_37 rfl rfl ?_
        refine y_i2l dX8_price_38 ?_
        refine y_lconst dX8_price_39 lc_0 ?_
        refine y_lconst dX8_price_40 lc_1 ?_
        refine y_cS3 dX8_price_41 meX8_in wm_ml_X8_77 (kX8_in (A := 0) (B := 1) rfl rfl) ⟨Nat.le_of_ble_eq_true rfl, Nat.le_of_ble_eq_true rfl⟩ ⟨rfl, rfl⟩ (Nat.le_of_ble_eq_true rfl) (fun v41 μ41 hp41 => ?_)
        obtain ⟨rfl, he41⟩ := hp41
        replace he41 := he41.symm
        subst he41
        refine y_ri ?_
        refine y_ifb_ne 50 dX8_price_44 (by decide) (fun h44 => ?_) (fun h44 => ?_)
        · refine y_aload_n dX8_price_50 rfl rfl ?_
          refine y_iload_n dX8_price_51 rfl rfl ?_
          refine y_cV1 dX8_price_52 meX8_areTogether clX8 kd_58 wm_ml_X8_153 (kX8_areTogether) ⟨Nat.le_of_ble_eq_true rfl, Nat.le_of_ble_eq_true rfl⟩ ⟨rfl, rfl⟩ (Nat.le_of_ble_eq_true rfl) (fun v52 μ52 hp52 => ?_)
          obtain ⟨rfl, he52⟩ := hp52
          replace he52 := he52.symm
          subst he52
          refine y_ri ?_
          refine y_ifb_ne 61 dX8_price_55 (by decide) (fun h55 => ?_) (fun h55 => ?_)
          · refine y_iconst dX8_price_61 ic_0 ?_
            refine y_istore dX8_price_62 rfl (by decide) ?_
            refine y_bipush dX8_price_64 ib_m6 ?_
            refine y_istore dX8_price_66 rfl (by decide) ?_
            refine y_iconst (v := nI 0) dX8_price_68 icn_0 ?_
            refine y_istore dX8_price_69 rfl (by decide) ?_
            refine y_loop2 (fun (j : Nat) (x : Int32) (y : Int32) => [some (.ref (G.2.1 58)), some (.int g), some (.int s), some (.int w), some (.int x), some (.int y), some (.int (nI j)), none, none]) (fun (j : Nat) (x : Int32) (y : Int32) => μ) (fun (j : Nat) (x : Int32) (y : Int32) => itr (prS g s μ) (256 - j) j (x, y) = prR g s μ) 256 (fun x y hv71 => ?_) (fun j x y hj hv71 ih71 => ?_) 0 (0) (-6) (Nat.zero_le _) (rfl)
            · refine y_iload dX8_price_71 rfl ?_
              refine y_sipush dX8_price_73 is_256 ?_
              refine y_icmp_ge 165 dX8_price_76 (by decide) (fun _ => ?_) (fun hq => absurd (by decide) hq)
              refine y_iload dX8_price_165 rfl ?_
              refine y_if_lt 175 dX8_price_167 (by decide) (fun h167 => ?_) (fun h167 => ?_)
              · refine y_iload dX8_price_175 rfl ?_
                refine y_goto 182 dX8_price_177 (by decide) ?_
                refine y_iret dX8_price_182 ?_
                have hv := (itr_ex hv71).symm
                refine ⟨?_, rfl⟩
                clear hv71
                simp_all [-Int32.not_le, -Int32.not_lt, mPrice, subI]
              · refine y_iload_n dX8_price_170 rfl rfl ?_
                refine y_iconst dX8_price_171 ic_1 ?_
                refine y_icmp_ne 180 dX8_price_172 (by decide) (fun h172 => ?_) (fun h172 => ?_)
                · refine y_iload dX8_price_180 rfl ?_
                  refine y_iret dX8_price_182 ?_
                  have hv := (itr_ex hv71).symm
                  refine ⟨?_, rfl⟩
                  clear hv71
                  simp_all [-Int32.not_le, -Int32.not_lt, mPrice, subI]
                · refine y_iload dX8_price_175 rfl ?_
                  refine y_goto 182 dX8_price_177 (by decide) ?_
                  refine y_iret dX8_price_182 ?_
                  have hv := (itr_ex hv71).symm
                  refine ⟨?_, rfl⟩
                  clear hv71
                  simp_all [-Int32.not_le, -Int32.not_lt, mPrice, subI]
            · refine y_iload dX8_price_71 rfl ?_
              refine y_sipush dX8_price_73 is_256 ?_
              refine y_icmp_ge 165 dX8_price_76 (by decide) (fun hq => absurd hq (nI_ge (b := 256) hj (by decide))) (fun _ => ?_)
              refine y_iload dX8_price_79 rfl ?_
              refine y_iload_n dX8_price_81 rfl rfl ?_
              refine y_aload_n dX8_price_82 rfl rfl ?_
              refine y_geti dX8_price_83 0 clX8 kd_58 (by decide) wm_fl_X8_81 rfl rfl ?_
              refine y_iconst dX8_price_86 ic_m1 ?_
              refine y_ixor dX8_price_87 ?_
              refine y_ior dX8_price_88 ?_
              refine y_iand dX8_price_89 ?_
              refine y_if_ne 106 dX8_price_90 (by decide) (fun h90 => ?_) (fun h90 => ?_)
              · refine y_iconst dX8_price_106 ic_0 ?_
                refine y_istore dX8_price_107 rfl (by decide) ?_
                refine y_aload_n dX8_price_109 rfl rfl ?_
                refine y_iload dX8_price_110 rfl ?_
                refine y_cV1 dX8_price_112 meX8_swornOf clX8 kd_58 wm_ml_X8_156 (kX8_swornOf) ⟨Nat.le_of_ble_eq_true rfl, Nat.le_of_ble_eq_true rfl⟩ ⟨rfl, rfl⟩ (Nat.le_of_ble_eq_true rfl) (fun v112 μ112 hp112 => ?_)
                obtain ⟨rfl, he112⟩ := hp112
                replace he112 := he112.symm
                subst he112
                refine y_ri ?_
                refine y_aload_n dX8_price_115 rfl rfl ?_
                refine y_iload_n dX8_price_116 rfl rfl ?_
                refine y_cV1 dX8_price_117 meX8_swornOf clX8 kd_58 wm_ml_X8_156 (kX8_swornOf) ⟨Nat.le_of_ble_eq_true rfl, Nat.le_of_ble_eq_true rfl⟩ ⟨rfl, rfl⟩ (Nat.le_of_ble_eq_true rfl) (fun v117 μ117 hp117 => ?_)
                obtain ⟨rfl, he117⟩ := hp117
                replace he117 := he117.symm
                subst he117
                refine y_ri ?_
                refine y_isub dX8_price_120 ?_
                refine y_istore dX8_price_121 rfl (by decide) ?_
                refine y_iload dX8_price_123 rfl ?_
                refine y_if_eq 159 dX8_price_125 (by decide) (fun _ => ?_) (fun hq => absurd hq (by decide))
                refine y_iinc (v := nI (j + 1)) dX8_price_159 rfl (nI_i1 _) rfl (by decide) ?_
                refine y_goto 71 dX8_price_162 (by decide) ?_
                exact y_drop 8 (y_drop 7 (ih71 _ _ (itr_nx hj hv71 (by clear ih71 hv71; simp_all [-Int32.not_le, -Int32.not_lt, prS]))))
              · refine y_aload_n dX8_price_93 rfl rfl ?_
                refine y_iload dX8_price_94 rfl ?_
                refine y_cV1 dX8_price_96 meX8_areTogether clX8 kd_58 wm_ml_X8_153 (kX8_areTogether) ⟨Nat.le_of_ble_eq_true rfl, Nat.le_of_ble_eq_true rfl⟩ ⟨rfl, rfl⟩ (Nat.le_of_ble_eq_true rfl) (fun v96 μ96 hp96 => ?_)
                obtain ⟨rfl, he96⟩ := hp96
                replace he96 := he96.symm
                subst he96
                refine y_ri ?_
                refine y_ifb_eq 106 dX8_price_99 (by decide) (fun h99 => ?_) (fun h99 => ?_)
                · refine y_iconst dX8_price_106 ic_0 ?_
                  refine y_istore dX8_price_107 rfl (by decide) ?_
                  refine y_aload_n dX8_price_109 rfl rfl ?_
                  refine y_iload dX8_price_110 rfl ?_
                  refine y_cV1 dX8_price_112 meX8_swornOf clX8 kd_58 wm_ml_X8_156 (kX8_swornOf) ⟨Nat.le_of_ble_eq_true rfl, Nat.le_of_ble_eq_true rfl⟩ ⟨rfl, rfl⟩ (Nat.le_of_ble_eq_true rfl) (fun v112 μ112 hp112 => ?_)
                  obtain ⟨rfl, he112⟩ := hp112
                  replace he112 := he112.symm
                  subst he112
                  refine y_ri ?_
                  refine y_aload_n dX8_price_115 rfl rfl ?_
                  refine y_iload_n dX8_price_116 rfl rfl ?_
                  refine y_cV1 dX8_price_117 meX8_swornOf clX8 kd_58 wm_ml_X8_156 (kX8_swornOf) ⟨Nat.le_of_ble_eq_true rfl, Nat.le_of_ble_eq_true rfl⟩ ⟨rfl, rfl⟩ (Nat.le_of_ble_eq_true rfl) (fun v117 μ117 hp117 => ?_)
                  obtain ⟨rfl, he117⟩ := hp117
                  replace he117 := he117.symm
                  subst he117
                  refine y_ri ?_
                  refine y_isub dX8_price_120 ?_
                  refine y_istore dX8_price_121 rfl (by decide) ?_
                  refine y_iload dX8_price_123 rfl ?_
                  refine y_if_eq 159 dX8_price_125 (by decide) (fun _ => ?_) (fun hq => absurd hq (by decide))
                  refine y_iinc (v := nI (j + 1)) dX8_price_159 rfl (nI_i1 _) rfl (by decide) ?_
                  refine y_goto 71 dX8_price_162 (by decide) ?_
                  exact y_drop 8 (y_drop 7 (ih71 _ _ (itr_nx hj hv71 (by clear ih71 hv71; simp_all [-Int32.not_le, -Int32.not_lt, prS]))))
                · refine y_iconst dX8_price_102 ic_1 ?_
                  refine y_goto 107 dX8_price_103 (by decide) ?_
                  refine y_istore dX8_price_107 rfl (by decide) ?_
                  refine y_aload_n dX8_price_109 rfl rfl ?_
                  refine y_iload dX8_price_110 rfl ?_
                  refine y_cV1 dX8_price_112 meX8_swornOf clX8 kd_58 wm_ml_X8_156 (kX8_swornOf) ⟨Nat.le_of_ble_eq_true rfl, Nat.le_of_ble_eq_true rfl⟩ ⟨rfl, rfl⟩ (Nat.le_of_ble_eq_true rfl) (fun v112 μ112 hp112 => ?_)
                  obtain ⟨rfl, he112⟩ := hp112
                  replace he112 := he112.symm
                  subst he112
                  refine y_ri ?_
                  refine y_aload_n dX8_price_115 rfl rfl ?_
                  refine y_iload_n dX8_price_116 rfl rfl ?_
                  refine y_cV1 dX8_price_117 meX8_swornOf clX8 kd_58 wm_ml_X8_156 (kX8_swornOf) ⟨Nat.le_of_ble_eq_true rfl, Nat.le_of_ble_eq_true rfl⟩ ⟨rfl, rfl⟩ (Nat.le_of_ble_eq_true rfl) (fun v117 μ117 hp117 => ?_)
                  obtain ⟨rfl, he117⟩ := hp117
                  replace he117 := he117.symm
                  subst he117
                  refine y_ri ?_
                  refine y_isub dX8_price_120 ?_
                  refine y_istore dX8_price_121 rfl (by decide) ?_
                  refine y_iload dX8_price_123 rfl ?_
                  refine y_if_eq 159 dX8_price_125 (by decide) (fun hq => absurd hq (by decide)) (fun _ => ?_)
                  refine y_aload_n dX8_price_128 rfl rfl ?_
                  refine y_iload dX8_price_129 rfl ?_
                  refine y_cV1 dX8_price_131 meX8_poundsOf clX8 kd_58 wm_ml_X8_165 (kX8_poundsOf) ⟨Nat.le_of_ble_eq_true rfl, Nat.le_of_ble_eq_true rfl⟩ ⟨rfl, rfl⟩ (Nat.le_of_ble_eq_true rfl) (fun v131 μ131 hp131 => ?_)
                  obtain ⟨rfl, he131⟩ := hp131
                  replace he131 := he131.symm
                  subst he131
                  refine y_ri ?_
                  refine y_iload_n dX8_price_134 rfl rfl ?_
                  refine y_aload_n dX8_price_135 rfl rfl ?_
                  refine y_iload_n dX8_price_136 rfl rfl ?_
                  refine y_cV1 dX8_price_137 meX8_poundsOf clX8 kd_58 wm_ml_X8_165 (kX8_poundsOf) ⟨Nat.le_of_ble_eq_true rfl, Nat.le_of_ble_eq_true rfl⟩ ⟨rfl, rfl⟩ (Nat.le_of_ble_eq_true rfl) (fun v137 μ137 hp137 => ?_)
                  obtain ⟨rfl, he137⟩ := hp137
                  replace he137 := he137.symm
                  subst he137
                  refine y_ri ?_
                  refine y_iadd dX8_price_140 ?_
                  refine y_icmp_gt 159 dX8_price_141 (by decide) (fun h141 => ?_) (fun h141 => ?_)
                  · refine y_iinc (v := nI (j + 1)) dX8_price_159 rfl (nI_i1 _) rfl (by decide) ?_
                    refine y_goto 71 dX8_price_162 (by decide) ?_
                    exact y_drop 8 (y_drop 7 (ih71 _ _ (itr_nx hj hv71 (by clear ih71 hv71; simp_all [-Int32.not_le, -Int32.not_lt, prS]))))
                  · refine y_iload dX8_price_144 rfl ?_
                    refine y_iload dX8_price_146 rfl ?_
                    refine y_icmp_le 159 dX8_price_148 (by decide) (fun h148 => ?_) (fun h148 => ?_)
                    · refine y_iinc (v := nI (j + 1)) dX8_price_159 rfl (nI_i1 _) rfl (by decide) ?_
                      refine y_goto 71 dX8_price_162 (by decide) ?_
                      exact y_drop 8 (y_drop 7 (ih71 _ _ (itr_nx hj hv71 (by clear ih71 hv71; simp_all [-Int32.not_le, -Int32.not_lt, prS]))))
                    · refine y_iload dX8_price_151 rfl ?_
                      refine y_istore dX8_price_153 rfl (by decide) ?_
                      refine y_iload dX8_price_155 rfl ?_
                      refine y_istore dX8_price_157 rfl (by decide) ?_
                      refine y_iinc (v := nI (j + 1)) dX8_price_159 rfl (nI_i1 _) rfl (by decide) ?_
                      refine y_goto 71 dX8_price_162 (by decide) ?_
                      exact y_drop 8 (y_drop 7 (ih71 _ _ (itr_nx hj hv71 (by clear ih71 hv71; simp_all [-Int32.not_le, -Int32.not_lt, prS]))))
          · refine y_bipush dX8_price_58 ib_m3 ?_
            refine y_iret dX8_price_60 ?_
            exact ⟨by simp_all [mPrice, subI], rfl⟩
        · refine y_bipush dX8_price_47 ib_m2 ?_
          refine y_iret dX8_price_49 ?_
          exact ⟨by simp_all [mPrice, subI], rfl⟩
    · refine y_iconst dX8_price_23 ic_m1 ?_
      refine y_iret dX8_price_24 ?_
      exact ⟨by simp_all [mPrice, subI], rfl⟩
