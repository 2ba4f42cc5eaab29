/-! the pans -/
def frA (v : Nat → Int32) (r : Nat → Int32) : Nat → Int32 := itr (fun p r => itr (fun q r => upd r (2 ^ p + q) (r q + v p)) (2 ^ p) 0 r) 8 0 r
def frO (v : Nat → Int32) (r : Nat → Int32) : Nat → Int32 := itr (fun p r => itr (fun q r => upd r (2 ^ p + q) (r q ||| v p)) (2 ^ p) 0 r) 8 0 r
def vP (b : Nat) (μ : MemT) (p : Nat) : Int32 := if bt (μ b 7) p then wc (μ b 8) (nI p) (μ (b + 2) p) else 0
def vS (b : Nat) (μ : MemT) (p : Nat) : Int32 := if bt (μ b 7) p then μ (b + 1) p else 0
def vQ (b : Nat) (μ : MemT) (p : Nat) : Int32 := if bt (μ b 7) p then ptn p (μ (b + 4)) else 0
def fillM (μ : MemT) : MemT := mset (mset (mset μ 7 (frA (vP 18 μ) (μ 7))) 8 (frA (vS 18 μ) (μ 8))) 9 (frO (vQ 18 μ) (μ 9))
def rows3 (r1 r2 r3 : Nat → Int32) (μ : MemT) : MemT := mset (mset (mset μ 7 r1) 8 r2) 9 r3
theorem rows3_rows3 (r1 r2 r3 s1 s2 s3 : Nat → Int32) (μ : MemT) : rows3 r1 r2 r3 (rows3 s1 s2 s3 μ) = rows3 r1 r2 r3 μ := by
  funext k
  simp only [rows3, mset]
  by_cases h1 : k = 9
  · simp [h1]
  · by_cases h2 : k = 8
    · simp [h2]
    · by_cases h3 : k = 7
      · simp [h3]
      · simp [h1, h2, h3]
theorem two_le : ∀ p, p < 8 → 2 ^ p + 2 ^ p ≤ 256 ∧ 0 < 2 ^ p := by decide
theorem nar_b0 : vp_nar .byte 0 = 0 := by decide
theorem nar_b1 : vp_nar .byte 1 = 1 := by decide
theorem nar_z0 : vp_nar .boolean 0 = 0 := by decide
theorem nar_z1 : vp_nar .boolean 1 = 1 := by decide
theorem pos_nI {m : Int32} (h : 0 < m) : m = nI m.toNatClampNeg := by
  obtain ⟨j, hj, rfl⟩ := nI_of (x := m) (fun q => by rw [lt_toInt] at h q; omega)
  rw [nI_clamp hj]
theorem pos_lt {m : Int32} (h : 0 < m) (h2 : ¬ 3200 < m) : m.toNatClampNeg < 3201 := by
  obtain ⟨j, hj, rfl⟩ := nI_of (x := m) (fun q => by rw [lt_toInt] at h q; omega)
  rw [nI_clamp hj]
  rw [lt_toInt, nI_toInt hj] at h2
  have : (3200 : Int32).toInt = 3200 := rfl
  omega
theorem two_mul_nI (n : Nat) : (2 : Int32) * nI n = nI (n + n) := by
  rw [show (2 : Int32) = nI 2 by decide, nI_mul]
  congr 1
  omega

set_option maxRecDepth 100000 in
set_option maxHeartbeats 4000000 in
theorem kX3_fillRows {l : Launch} {G : GT} {μ : MemT}  : sw_Met l G yX3_fillRows cX3_fillRows 9 none (rmk 2 43) [.ref (G.2.1 6), .ref (G.2.1 18)] μ (fun v μ2 => v = none ∧ μ2 = fillM μ) := by
  refine sw_Met.ofY (by decide) (Nat.le_of_ble_eq_true rfl) rfl ?_
  refine y_iconst (v := nI 0) dX3_fillRows_0 icn_0 ?_
  refine y_istore_n dX3_fillRows_1 rfl rfl (by decide) ?_
  refine y_eq (show _ = rows3 (μ 7) (μ 8) (μ 9) μ by unfold rows3; rw [mset_same μ 7, mset_same μ 8, mset_same μ 9]) rfl rfl ?_
  refine y_loop3 (fun (j : Nat) (r1 : Nat → Int32) (r2 : Nat → Int32) (r3 : Nat → Int32) => [some (.ref (G.2.1 6)), some (.ref (G.2.1 18)), some (.int (nI j)), none, none, none, none, none, none]) (fun (j : Nat) (r1 : Nat → Int32) (r2 : Nat → Int32) (r3 : Nat → Int32) => rows3 r1 r2 r3 μ) (fun (j : Nat) (r1 : Nat → Int32) (r2 : Nat → Int32) (r3 : Nat → Int32) => (itr (fun p r => itr (fun q r => upd r (2 ^ p + q) (r q + vP 18 μ p)) (2 ^ p) 0 r) (8 - j) j r1 = frA (vP 18 μ) (μ 7)) ∧ (itr (fun p r => itr (fun q r => upd r (2 ^ p + q) (r q + vS 18 μ p)) (2 ^ p) 0 r) (8 - j) j r2 = frA (vS 18 μ) (μ 8)) ∧ itr (fun p r => itr (fun q r => upd r (2 ^ p + q) (r q ||| vQ 18 μ p)) (2 ^ p) 0 r) (8 - j) j r3 = frO (vQ 18 μ) (μ 9)) 8 (fun r1 r2 r3 hv2 => ?_) (fun j r1 r2 r3 hj hv2 ih2 => ?_) 0 (μ 7) (μ 8) (μ 9) (Nat.zero_le _) (⟨rfl, rfl, rfl⟩)
  · refine y_iload_n dX3_fillRows_2 rfl rfl ?_
    refine y_bipush dX3_fillRows_3 ib_8 ?_
    refine y_icmp_ge 148 dX3_fillRows_5 (by decide) (fun _ => ?_) (fun hq => absurd (by decide) hq)
    refine y_vret dX3_fillRows_148 ?_
    exact ⟨rfl, by rw [itr_ex hv2.1, itr_ex hv2.2.1, itr_ex hv2.2.2]; rfl⟩
  · refine y_iload_n dX3_fillRows_2 rfl rfl ?_
    refine y_bipush dX3_fillRows_3 ib_8 ?_
    refine y_icmp_ge 148 dX3_fillRows_5 (by decide) (fun hq => absurd hq (nI_ge (b := 8) hj (by decide))) (fun _ => ?_)
    refine y_iconst dX3_fillRows_8 ic_1 ?_
    refine y_iload_n dX3_fillRows_9 rfl rfl ?_
    refine y_ishl dX3_fillRows_10 ?_
    rw [mk_shl j hj]
    refine y_istore_n dX3_fillRows_11 rfl rfl (by decide) ?_
    refine y_aload_n dX3_fillRows_12 rfl rfl ?_
    refine y_iload_n dX3_fillRows_13 rfl rfl ?_
    refine y_cV1 dX3_fillRows_14 meX4_has clX4 kd_18 wm_ml_X3_25 (kX4_has tw18) ⟨Nat.le_of_ble_eq_true rfl, Nat.le_of_ble_eq_true rfl⟩ ⟨rfl, rfl⟩ (Nat.le_of_ble_eq_true rfl) (fun v14 μ14 hp14 => ?_)
    obtain ⟨rfl, he14⟩ := hp14
    replace he14 := he14.symm
    subst he14
    refine y_ri ?_
    refine y_istore dX3_fillRows_17 rfl (by decide) ?_
    refine y_iload dX3_fillRows_19 rfl ?_
    refine y_ifb_eq 32 dX3_fillRows_21 (by decide) (fun h21 => ?_) (fun h21 => ?_)
    · refine y_iconst dX3_fillRows_32 ic_0 ?_
      refine y_istore dX3_fillRows_33 rfl (by decide) ?_
      refine y_iload dX3_fillRows_35 rfl ?_
      refine y_ifb_eq 49 dX3_fillRows_37 (by decide) (fun _ => ?_) (fun hq => absurd (h21.symm.trans hq) (by decide))
      refine y_iconst dX3_fillRows_49 ic_0 ?_
      refine y_istore dX3_fillRows_50 rfl (by decide) ?_
      refine y_iload dX3_fillRows_52 rfl ?_
      refine y_ifb_eq 65 dX3_fillRows_54 (by decide) (fun _ => ?_) (fun hq => absurd (h21.symm.trans hq) (by decide))
      refine y_iconst dX3_fillRows_65 ic_0 ?_
      refine y_istore dX3_fillRows_66 rfl (by decide) ?_
      refine y_iload_n dX3_fillRows_68 rfl rfl ?_
      refine y_istore dX3_fillRows_69 rfl (by decide) ?_
      have hb : bt (μ 18 7) j = false := (isP_n hj).symm.trans h21
      refine y_eq (lv2 := [some (.ref (G.2.1 6)), some (.ref (G.2.1 18)), some (.int (nI j)), some (.int (nI (2 ^ j))), some (.int (bI (isP (μ 18 7) (nI j)))), some (.int (vP 18 μ j)), some (.int (vS 18 μ j)), some (.int (vQ 18 μ j)), some (.int (nI (2 ^ j + 0)))]) rfl (by simp only [vP, vS, vQ, hb]; rfl) rfl ?_
      refine y_loop3 (fun (jq : Nat) (s1 : Nat → Int32) (s2 : Nat → Int32) (s3 : Nat → Int32) => [some (.ref (G.2.1 6)), some (.ref (G.2.1 18)), some (.int (nI j)), some (.int (nI (2 ^ j))), some (.int (bI (isP (μ 18 7) (nI j)))), some (.int (vP 18 μ j)), some (.int (vS 18 μ j)), some (.int (vQ 18 μ j)), some (.int (nI (2 ^ j + jq)))]) (fun (jq : Nat) (s1 : Nat → Int32) (s2 : Nat → Int32) (s3 : Nat → Int32) => rows3 s1 s2 s3 μ) (fun (jq : Nat) (s1 : Nat → Int32) (s2 : Nat → Int32) (s3 : Nat → Int32) => (itr (fun q r => upd r (2 ^ j + q) (r q + vP 18 μ j)) (2 ^ j - jq) jq s1 = itr (fun q r => upd r (2 ^ j + q) (r q + vP 18 μ j)) (2 ^ j) 0 r1) ∧ (itr (fun q r => upd r (2 ^ j + q) (r q + vS 18 μ j)) (2 ^ j - jq) jq s2 = itr (fun q r => upd r (2 ^ j + q) (r q + vS 18 μ j)) (2 ^ j) 0 r2) ∧ itr (fun q r => upd r (2 ^ j + q) (r q ||| vQ 18 μ j)) (2 ^ j - jq) jq s3 = itr (fun q r => upd r (2 ^ j + q) (r q ||| vQ 18 μ j)) (2 ^ j) 0 r3) (2 ^ j) (fun s1 s2 s3 hv71 => ?_) (fun jq s1 s2 s3 hjq hv71 ih71 => ?_) 0 (r1) (r2) (r3) (Nat.zero_le _) (⟨rfl, rfl, rfl⟩)
      · refine y_iload dX3_fillRows_71 rfl ?_
        refine y_iconst dX3_fillRows_73 ic_2 ?_
        refine y_iload_n dX3_fillRows_74 rfl rfl ?_
        refine y_imul dX3_fillRows_75 ?_
        rw [two_mul_nI]
        refine y_icmp_ge 142 dX3_fillRows_76 (by decide) (fun _ => ?_) (fun hq => absurd (Int32.le_refl _) hq)
        refine y_iinc (v := nI (j + 1)) dX3_fillRows_142 rfl (nI_i1 _) rfl (by decide) ?_
        refine y_goto 2 dX3_fillRows_145 (by decide) ?_
        exact y_drop 8 (y_drop 7 (y_drop 6 (y_drop 5 (y_drop 4 (y_drop 3 (ih2 _ _ _ ⟨itr_nx hj hv2.1 (itr_ex hv71.1), itr_nx hj hv2.2.1 (itr_ex hv71.2.1), itr_nx hj hv2.2.2 (itr_ex hv71.2.2)⟩))))))
      · refine y_iload dX3_fillRows_71 rfl ?_
        refine y_iconst dX3_fillRows_73 ic_2 ?_
        refine y_iload_n dX3_fillRows_74 rfl rfl ?_
        refine y_imul dX3_fillRows_75 ?_
        rw [two_mul_nI]
        refine y_icmp_ge 142 dX3_fillRows_76 (by decide) (fun hq => absurd hq (nI_ge (Nat.add_lt_add_left hjq _) (by have := (two_le j hj).1; omega))) (fun _ => ?_)
        refine y_aload_n dX3_fillRows_79 rfl rfl ?_
        refine y_getr dX3_fillRows_80 0 clX3 kd_6 (by decide) wm_fl_X3_9 rfl rfl ?_
        refine y_iload dX3_fillRows_83 rfl ?_
        refine y_aload_n dX3_fillRows_85 rfl rfl ?_
        refine y_getr dX3_fillRows_86 0 clX3 kd_6 (by decide) wm_fl_X3_9 rfl rfl ?_
        refine y_iload dX3_fillRows_89 rfl ?_
        refine y_iload_n dX3_fillRows_91 rfl rfl ?_
        refine y_isub dX3_fillRows_92 ?_
        refine y_iald dX3_fillRows_93 jq kd_7 (by rw [nI_sub (Nat.le_add_right _ _), Nat.add_sub_cancel_left]) (by have := (two_le j hj).1; omega) (by decide) ?_
        refine y_iload dX3_fillRows_94 rfl ?_
        refine y_iadd dX3_fillRows_96 ?_
        refine y_iast dX3_fillRows_97 (2 ^ j + jq) kd_7 rfl (by have := (two_le j hj).1; omega) (by decide) ?_
        refine y_aload_n dX3_fillRows_98 rfl rfl ?_
        refine y_getr dX3_fillRows_99 1 clX3 kd_6 (by decide) wm_fl_X3_15 rfl rfl ?_
        refine y_iload dX3_fillRows_102 rfl ?_
        refine y_aload_n dX3_fillRows_104 rfl rfl ?_
        refine y_getr dX3_fillRows_105 1 clX3 kd_6 (by decide) wm_fl_X3_15 rfl rfl ?_
        refine y_iload dX3_fillRows_108 rfl ?_
        refine y_iload_n dX3_fillRows_110 rfl rfl ?_
        refine y_isub dX3_fillRows_111 ?_
        refine y_iald dX3_fillRows_112 jq kd_8 (by rw [nI_sub (Nat.le_add_right _ _), Nat.add_sub_cancel_left]) (by have := (two_le j hj).1; omega) (by decide) ?_
        refine y_iload dX3_fillRows_113 rfl ?_
        refine y_iadd dX3_fillRows_115 ?_
        refine y_iast dX3_fillRows_116 (2 ^ j + jq) kd_8 rfl (by have := (two_le j hj).1; omega) (by decide) ?_
        refine y_aload_n dX3_fillRows_117 rfl rfl ?_
        refine y_getr dX3_fillRows_118 2 clX3 kd_6 (by decide) wm_fl_X3_18 rfl rfl ?_
        refine y_iload dX3_fillRows_121 rfl ?_
        refine y_aload_n dX3_fillRows_123 rfl rfl ?_
        refine y_getr dX3_fillRows_124 2 clX3 kd_6 (by decide) wm_fl_X3_18 rfl rfl ?_
        refine y_iload dX3_fillRows_127 rfl ?_
        refine y_iload_n dX3_fillRows_129 rfl rfl ?_
        refine y_isub dX3_fillRows_130 ?_
        refine y_iald dX3_fillRows_131 jq kd_9 (by rw [nI_sub (Nat.le_add_right _ _), Nat.add_sub_cancel_left]) (by have := (two_le j hj).1; omega) (by decide) ?_
        refine y_iload dX3_fillRows_132 rfl ?_
        refine y_ior dX3_fillRows_134 ?_
        refine y_iast dX3_fillRows_135 (2 ^ j + jq) kd_9 rfl (by have := (two_le j hj).1; omega) (by decide) ?_
        refine y_iinc (v := nI ((2 ^ j + jq) + 1)) dX3_fillRows_136 rfl (nI_i1 _) rfl (by decide) ?_
        refine y_goto 71 dX3_fillRows_139 (by decide) ?_
        exact y_eq (μ2 := rows3 (upd s1 (2 ^ j + jq) (s1 jq + vP 18 μ j)) (upd s2 (2 ^ j + jq) (s2 jq + vS 18 μ j)) (upd s3 (2 ^ j + jq) (s3 jq ||| vQ 18 μ j)) μ) (by funext k; simp only [rows3, mset]; by_cases k1 : k = 9 <;> by_cases k2 : k = 8 <;> by_cases k3 : k = 7 <;> simp_all) rfl rfl (ih71 _ _ _ ⟨itr_nx hjq hv71.1 rfl, itr_nx hjq hv71.2.1 rfl, itr_nx hjq hv71.2.2 rfl⟩)
    · refine y_aload_n dX3_fillRows_24 rfl rfl ?_
      refine y_iload_n dX3_fillRows_25 rfl rfl ?_
      refine y_cV1 dX3_fillRows_26 meX4_poundsOf clX4 kd_18 wm_ml_X3_31 (kX4_poundsOf tw18 hj) ⟨Nat.le_of_ble_eq_true rfl, Nat.le_of_ble_eq_true rfl⟩ ⟨rfl, rfl⟩ (Nat.le_of_ble_eq_true rfl) (fun v26 μ26 hp26 => ?_)
      obtain ⟨rfl, he26⟩ := hp26
      replace he26 := he26.symm
      subst he26
      refine y_ri ?_
      refine y_goto 33 dX3_fillRows_29 (by decide) ?_
      refine y_istore dX3_fillRows_33 rfl (by decide) ?_
      refine y_iload dX3_fillRows_35 rfl ?_
      refine y_ifb_eq 49 dX3_fillRows_37 (by decide) (fun hq => absurd (h21.symm.trans hq) (by decide)) (fun _ => ?_)
      refine y_aload_n dX3_fillRows_40 rfl rfl ?_
      refine y_getr dX3_fillRows_41 0 clX4 kd_18 (by decide) wm_fl_X3_35 rfl rfl ?_
      refine y_iload_n dX3_fillRows_44 rfl rfl ?_
      refine y_iald dX3_fillRows_45 j kd_19 rfl (by first | assumption | decide | omega) (by decide) ?_
      refine y_goto 50 dX3_fillRows_46 (by decide) ?_
      refine y_istore dX3_fillRows_50 rfl (by decide) ?_
      refine y_iload dX3_fillRows_52 rfl ?_
      refine y_ifb_eq 65 dX3_fillRows_54 (by decide) (fun hq => absurd (h21.symm.trans hq) (by decide)) (fun _ => ?_)
      refine y_aload_n dX3_fillRows_57 rfl rfl ?_
      refine y_iload_n dX3_fillRows_58 rfl rfl ?_
      refine y_cV1 dX3_fillRows_59 meX4_partner clX4 kd_18 wm_ml_X3_36 (kX4_partner tw18 hj) ⟨Nat.le_of_ble_eq_true rfl, Nat.le_of_ble_eq_true rfl⟩ ⟨rfl, rfl⟩ (Nat.le_of_ble_eq_true rfl) (fun v59 μ59 hp59 => ?_)
      obtain ⟨rfl, he59⟩ := hp59
      replace he59 := he59.symm
      subst he59
      refine y_ri ?_
      refine y_goto 66 dX3_fillRows_62 (by decide) ?_
      refine y_istore dX3_fillRows_66 rfl (by decide) ?_
      refine y_iload_n dX3_fillRows_68 rfl rfl ?_
      refine y_istore dX3_fillRows_69 rfl (by decide) ?_
      have hb : bt (μ 18 7) j = true := (isP_n hj).symm.trans h21
      refine y_eq (lv2 := [some (.ref (G.2.1 6)), some (.ref (G.2.1 18)), some (.int (nI j)), some (.int (nI (2 ^ j))), some (.int (bI (isP (μ 18 7) (nI j)))), some (.int (vP 18 μ j)), some (.int (vS 18 μ j)), some (.int (vQ 18 μ j)), some (.int (nI (2 ^ j + 0)))]) rfl (by simp only [vP, vS, vQ, hb]; rfl) rfl ?_
      refine y_loop3 (fun (jq : Nat) (s1 : Nat → Int32) (s2 : Nat → Int32) (s3 : Nat → Int32) => [some (.ref (G.2.1 6)), some (.ref (G.2.1 18)), some (.int (nI j)), some (.int (nI (2 ^ j))), some (.int (bI (isP (μ 18 7) (nI j)))), some (.int (vP 18 μ j)), some (.int (vS 18 μ j)), some (.int (vQ 18 μ j)), some (.int (nI (2 ^ j + jq)))]) (fun (jq : Nat) (s1 : Nat → Int32) (s2 : Nat → Int32) (s3 : Nat → Int32) => rows3 s1 s2 s3 μ) (fun (jq : Nat) (s1 : Nat → Int32) (s2 : Nat → Int32) (s3 : Nat → Int32) => (itr (fun q r => upd r (2 ^ j + q) (r q + vP 18 μ j)) (2 ^ j - jq) jq s1 = itr (fun q r => upd r (2 ^ j + q) (r q + vP 18 μ j)) (2 ^ j) 0 r1) ∧ (itr (fun q r => upd r (2 ^ j + q) (r q + vS 18 μ j)) (2 ^ j - jq) jq s2 = itr (fun q r => upd r (2 ^ j + q) (r q + vS 18 μ j)) (2 ^ j) 0 r2) ∧ itr (fun q r => upd r (2 ^ j + q) (r q ||| vQ 18 μ j)) (2 ^ j - jq) jq s3 = itr (fun q r => upd r (2 ^ j + q) (r q ||| vQ 18 μ j)) (2 ^ j) 0 r3) (2 ^ j) (fun s1 s2 s3 hv71 => ?_) (fun jq s1 s2 s3 hjq hv71 ih71 => ?_) 0 (r1) (r2) (r3) (Nat.zero_le _) (⟨rfl, rfl, rfl⟩)
      · refine y_iload dX3_fillRows_71 rfl ?_
        refine y_iconst dX3_fillRows_73 ic_2 ?_
        refine y_iload_n dX3_fillRows_74 rfl rfl ?_
        refine y_imul dX3_fillRows_75 ?_
        rw [two_mul_nI]
        refine y_icmp_ge 142 dX3_fillRows_76 (by decide) (fun _ => ?_) (fun hq => absurd (Int32.le_refl _) hq)
        refine y_iinc (v := nI (j + 1)) dX3_fillRows_142 rfl (nI_i1 _) rfl (by decide) ?_
        refine y_goto 2 dX3_fillRows_145 (by decide) ?_
        exact y_drop 8 (y_drop 7 (y_drop 6 (y_drop 5 (y_drop 4 (y_drop 3 (ih2 _ _ _ ⟨itr_nx hj hv2.1 (itr_ex hv71.1), itr_nx hj hv2.2.1 (itr_ex hv71.2.1), itr_nx hj hv2.2.2 (itr_ex hv71.2.2)⟩))))))
      · refine y_iload dX3_fillRows_71 rfl ?_
        refine y_iconst dX3_fillRows_73 ic_2 ?_
        refine y_iload_n dX3_fillRows_74 rfl rfl ?_
        refine y_imul dX3_fillRows_75 ?_
        rw [two_mul_nI]
        refine y_icmp_ge 142 dX3_fillRows_76 (by decide) (fun hq => absurd hq (nI_ge (Nat.add_lt_add_left hjq _) (by have := (two_le j hj).1; omega))) (fun _ => ?_)
        refine y_aload_n dX3_fillRows_79 rfl rfl ?_
        refine y_getr dX3_fillRows_80 0 clX3 kd_6 (by decide) wm_fl_X3_9 rfl rfl ?_
        refine y_iload dX3_fillRows_83 rfl ?_
        refine y_aload_n dX3_fillRows_85 rfl rfl ?_
        refine y_getr dX3_fillRows_86 0 clX3 kd_6 (by decide) wm_fl_X3_9 rfl rfl ?_
        refine y_iload dX3_fillRows_89 rfl ?_
        refine y_iload_n dX3_fillRows_91 rfl rfl ?_
        refine y_isub dX3_fillRows_92 ?_
        refine y_iald dX3_fillRows_93 jq kd_7 (by rw [nI_sub (Nat.le_add_right _ _), Nat.add_sub_cancel_left]) (by have := (two_le j hj).1; omega) (by decide) ?_
        refine y_iload dX3_fillRows_94 rfl ?_
        refine y_iadd dX3_fillRows_96 ?_
        refine y_iast dX3_fillRows_97 (2 ^ j + jq) kd_7 rfl (by have := (two_le j hj).1; omega) (by decide) ?_
        refine y_aload_n dX3_fillRows_98 rfl rfl ?_
        refine y_getr dX3_fillRows_99 1 clX3 kd_6 (by decide) wm_fl_X3_15 rfl rfl ?_
        refine y_iload dX3_fillRows_102 rfl ?_
        refine y_aload_n dX3_fillRows_104 rfl rfl ?_
        refine y_getr dX3_fillRows_105 1 clX3 kd_6 (by decide) wm_fl_X3_15 rfl rfl ?_
        refine y_iload dX3_fillRows_108 rfl ?_
        refine y_iload_n dX3_fillRows_110 rfl rfl ?_
        refine y_isub dX3_fillRows_111 ?_
        refine y_iald dX3_fillRows_112 jq kd_8 (by rw [nI_sub (Nat.le_add_right _ _), Nat.add_sub_cancel_left]) (by have := (two_le j hj).1; omega) (by decide) ?_
        refine y_iload dX3_fillRows_113 rfl ?_
        refine y_iadd dX3_fillRows_115 ?_
        refine y_iast dX3_fillRows_116 (2 ^ j + jq) kd_8 rfl (by have := (two_le j hj).1; omega) (by decide) ?_
        refine y_aload_n dX3_fillRows_117 rfl rfl ?_
        refine y_getr dX3_fillRows_118 2 clX3 kd_6 (by decide) wm_fl_X3_18 rfl rfl ?_
        refine y_iload dX3_fillRows_121 rfl ?_
        refine y_aload_n dX3_fillRows_123 rfl rfl ?_
        refine y_getr dX3_fillRows_124 2 clX3 kd_6 (by decide) wm_fl_X3_18 rfl rfl ?_
        refine y_iload dX3_fillRows_127 rfl ?_
        refine y_iload_n dX3_fillRows_129 rfl rfl ?_
        refine y_isub dX3_fillRows_130 ?_
        refine y_iald dX3_fillRows_131 jq kd_9 (by rw [nI_sub (Nat.le_add_right _ _), Nat.add_sub_cancel_left]) (by have := (two_le j hj).1; omega) (by decide) ?_
        refine y_iload dX3_fillRows_132 rfl ?_
        refine y_ior dX3_fillRows_134 ?_
        refine y_iast dX3_fillRows_135 (2 ^ j + jq) kd_9 rfl (by have := (two_le j hj).1; omega) (by decide) ?_
        refine y_iinc (v := nI ((2 ^ j + jq) + 1)) dX3_fillRows_136 rfl (nI_i1 _) rfl (by decide) ?_
        refine y_goto 71 dX3_fillRows_139 (by decide) ?_
        exact y_eq (μ2 := rows3 (upd s1 (2 ^ j + jq) (s1 jq + vP 18 μ j)) (upd s2 (2 ^ j + jq) (s2 jq + vS 18 μ j)) (upd s3 (2 ^ j + jq) (s3 jq ||| vQ 18 μ j)) μ) (by funext k; simp only [rows3, mset]; by_cases k1 : k = 9 <;> by_cases k2 : k = 8 <;> by_cases k3 : k = 7 <;> simp_all) rfl rfl (ih71 _ _ _ ⟨itr_nx hjq hv71.1 rfl, itr_nx hjq hv71.2.1 rfl, itr_nx hjq hv71.2.2 rfl⟩)

def kfR (x y : Int32) (r : Nat → Int32) : Nat → Int32 := if r 4 = -6 ∨ ¬ r 4 ≤ bcI (x ||| y) then upd (upd (upd r 4 (bcI (x ||| y))) 5 x) 6 y else r
def nrI (a m v : Int32) : Int32 := if abI (m - v) < a then abI (m - v) else a
/-- the numbers of the pans (fewest, first, second, nearest) and what was made -/
def ntR (x y m v : Int32) (r : Nat → Int32) : Nat → Int32 := if m = v then kfR x y (upd r 7 (nrI (r 7) m v)) else upd r 7 (nrI (r 7) m v)
def ntD (m : Int32) (d : Nat → Int32) : Nat → Int32 := if 3200 < m then d else upd d m.toNatClampNeg 1
def noteM (x y m v : Int32) (μ : MemT) : MemT := mset (mset μ 6 (ntR x y m v (μ 6))) 10 (ntD m (μ 10))

set_option maxRecDepth 100000 in
set_option maxHeartbeats 4000000 in
theorem kX3_mayIt {l : Launch} {G : GT} {μ : MemT} {s : Nat} (hs : s < 256) : sw_Met l G yX3_mayIt cX3_mayIt 2 (some .boolean) (rmk 0 0) [.ref (G.2.1 6), .int (nI s)] μ (fun v μ2 => v = some (.int (bI (subI (μ 9 s) (nI s)))) ∧ μ2 = μ) := by
  refine sw_Met.ofY (by decide) (Nat.le_of_ble_eq_true rfl) rfl ?_
  refine y_aload_n dX3_mayIt_0 rfl rfl ?_
  refine y_getr dX3_mayIt_1 2 clX3 kd_6 (by decide) wm_fl_X3_18 rfl rfl ?_
  refine y_iload_n dX3_mayIt_4 rfl rfl ?_
  refine y_iald dX3_mayIt_5 s kd_9 rfl (by first | assumption | decide | omega) (by decide) ?_
  refine y_iload_n dX3_mayIt_6 rfl rfl ?_
  refine y_iconst dX3_mayIt_7 ic_m1 ?_
  refine y_ixor dX3_mayIt_8 ?_
  refine y_iand dX3_mayIt_9 ?_
  refine y_if_ne 17 dX3_mayIt_10 (by decide) (fun h10 => ?_) (fun h10 => ?_)
  · refine y_iconst dX3_mayIt_17 ic_0 ?_
    refine y_zret dX3_mayIt_18 rfl ?_
    refine ⟨e_b0 ?_, rfl⟩
    first | exact decide_eq_false h10 | exact decide_eq_true h10
  · refine y_iconst dX3_mayIt_13 ic_1 ?_
    refine y_goto 18 dX3_mayIt_14 (by decide) ?_
    refine y_zret dX3_mayIt_18 rfl ?_
    refine ⟨e_b1 ?_, rfl⟩
    first | exact decide_eq_false h10 | exact decide_eq_true h10

set_option maxRecDepth 100000 in
set_option maxHeartbeats 4000000 in
theorem kX3_keepFewest {l : Launch} {G : GT} {μ : MemT} {x y : Int32} : sw_Met l G yX3_keepFewest cX3_keepFewest 4 none (rmk 1 20) [.ref (G.2.1 6), .int x, .int y] μ (fun v μ2 => v = none ∧ μ2 = mset μ 6 (kfR x y (μ 6))) := by
  refine sw_Met.ofY (by decide) (Nat.le_of_ble_eq_true rfl) rfl ?_
  refine y_iload_n dX3_keepFewest_0 rfl rfl ?_
  refine y_iload_n dX3_keepFewest_1 rfl rfl ?_
  refine y_ior dX3_keepFewest_2 ?_
  refine y_cS1 dX3_keepFewest_3 meJ6_bitCount_0f7a4 wm_ml_X3_95 (kJ6_bitCount_0f7a4) ⟨Nat.le_of_ble_eq_true rfl, Nat.le_of_ble_eq_true rfl⟩ ⟨rfl, rfl⟩ (Nat.le_of_ble_eq_true rfl) (fun v3 μ3 hp3 => ?_)
  obtain ⟨rfl, he3⟩ := hp3
  replace he3 := he3.symm
  subst he3
  refine y_ri ?_
  refine y_istore_n dX3_keepFewest_6 rfl rfl (by decide) ?_
  refine y_aload_n dX3_keepFewest_7 rfl rfl ?_
  refine y_geti dX3_keepFewest_8 4 clX3 kd_6 (by decide) wm_fl_X3_43 rfl rfl ?_
  refine y_bipush dX3_keepFewest_11 ib_m6 ?_
  refine y_icmp_eq 24 dX3_keepFewest_13 (by decide) (fun h13 => ?_) (fun h13 => ?_)
  · refine y_aload_n dX3_keepFewest_24 rfl rfl ?_
    refine y_iload_n dX3_keepFewest_25 rfl rfl ?_
    refine y_puti dX3_keepFewest_26 4 clX3 kd_6 (by decide) wm_fl_X3_43 rfl rfl rfl rfl (tyX3_ok 4 (by decide)) rfl rfl ?_
    refine y_aload_n dX3_keepFewest_29 rfl rfl ?_
    refine y_iload_n dX3_keepFewest_30 rfl rfl ?_
    refine y_puti dX3_keepFewest_31 5 clX3 kd_6 (by decide) wm_fl_X3_47 rfl rfl rfl rfl (tyX3_ok 5 (by decide)) rfl rfl ?_
    refine y_aload_n dX3_keepFewest_34 rfl rfl ?_
    refine y_iload_n dX3_keepFewest_35 rfl rfl ?_
    refine y_puti dX3_keepFewest_36 6 clX3 kd_6 (by decide) wm_fl_X3_50 rfl rfl rfl rfl (tyX3_ok 6 (by decide)) rfl rfl ?_
    refine y_vret dX3_keepFewest_39 ?_
    refine ⟨rfl, ?_⟩
    first
      | (simp_all [-Int32.not_le, kfR, mset_mset, mset_self, upd]; done)
      | (simp_all [-Int32.not_le, kfR, mset_mset, mset_self, mset_same, upd]; done)
  · refine y_iload_n dX3_keepFewest_16 rfl rfl ?_
    refine y_aload_n dX3_keepFewest_17 rfl rfl ?_
    refine y_geti dX3_keepFewest_18 4 clX3 kd_6 (by decide) wm_fl_X3_43 rfl rfl ?_
    refine y_icmp_ge 39 dX3_keepFewest_21 (by decide) (fun h21 => ?_) (fun h21 => ?_)
    · refine y_vret dX3_keepFewest_39 ?_
      refine ⟨rfl, ?_⟩
      first
        | (simp_all [-Int32.not_le, kfR, mset_mset, mset_self, upd]; done)
        | (simp_all [-Int32.not_le, kfR, mset_mset, mset_self, mset_same, upd]; done)
    · refine y_aload_n dX3_keepFewest_24 rfl rfl ?_
      refine y_iload_n dX3_keepFewest_25 rfl rfl ?_
      refine y_puti dX3_keepFewest_26 4 clX3 kd_6 (by decide) wm_fl_X3_43 rfl rfl rfl rfl (tyX3_ok 4 (by decide)) rfl rfl ?_
      refine y_aload_n dX3_keepFewest_29 rfl rfl ?_
      refine y_iload_n dX3_keepFewest_30 rfl rfl ?_
      refine y_puti dX3_keepFewest_31 5 clX3 kd_6 (by decide) wm_fl_X3_47 rfl rfl rfl rfl (tyX3_ok 5 (by decide)) rfl rfl ?_
      refine y_aload_n dX3_keepFewest_34 rfl rfl ?_
      refine y_iload_n dX3_keepFewest_35 rfl rfl ?_
      refine y_puti dX3_keepFewest_36 6 clX3 kd_6 (by decide) wm_fl_X3_50 rfl rfl rfl rfl (tyX3_ok 6 (by decide)) rfl rfl ?_
      refine y_vret dX3_keepFewest_39 ?_
      refine ⟨rfl, ?_⟩
      first
        | (simp_all [-Int32.not_le, kfR, mset_mset, mset_self, upd]; done)
        | (simp_all [-Int32.not_le, kfR, mset_mset, mset_self, mset_same, upd]; done)

set_option maxRecDepth 100000 in
set_option maxHeartbeats 4000000 in
theorem kX3_note {l : Launch} {G : GT} {μ : MemT} {x y m z : Int32} (hm : 0 < m) : sw_Met l G yX3_note cX3_note 5 none (rmk 2 43) [.ref (G.2.1 6), .int x, .int y, .int m, .int z] μ (fun v μ2 => v = none ∧ μ2 = noteM x y m z μ) := by
  refine sw_Met.ofY (by decide) (Nat.le_of_ble_eq_true rfl) rfl ?_
  refine y_aload_n dX3_note_0 rfl rfl ?_
  refine y_aload_n dX3_note_1 rfl rfl ?_
  refine y_geti dX3_note_2 7 clX3 kd_6 (by decide) wm_fl_X3_53 rfl rfl ?_
  refine y_iload_n dX3_note_5 rfl rfl ?_
  refine y_iload dX3_note_6 rfl ?_
  refine y_isub dX3_note_8 ?_
  refine y_mabs dX3_note_9 wm_ml_X3_83 (by decide) (Nat.le_of_ble_eq_true rfl) ?_
  refine y_mmin dX3_note_12 wm_ml_X3_88 (by decide) (Nat.le_of_ble_eq_true rfl) ?_
  refine y_eq (st2 := .int (nrI (μ 6 7) m z) :: .ref (G.2.1 6) :: []) rfl rfl rfl ?_
  refine y_puti dX3_note_15 7 clX3 kd_6 (by decide) wm_fl_X3_53 rfl rfl rfl rfl (tyX3_ok 7 (by decide)) rfl rfl ?_
  refine y_iload_n dX3_note_18 rfl rfl ?_
  refine y_sipush dX3_note_19 is_3200 ?_
  refine y_icmp_gt 32 dX3_note_22 (by decide) (fun h22 => ?_) (fun h22 => ?_)
  · refine y_iload_n dX3_note_32 rfl rfl ?_
    refine y_iload dX3_note_33 rfl ?_
    refine y_icmp_ne 44 dX3_note_35 (by decide) (fun h35 => ?_) (fun h35 => ?_)
    · refine y_vret dX3_note_44 ?_
      refine ⟨rfl, ?_⟩
      funext k
      by_cases k1 : k = 6 <;> by_cases k2 : k = 10 <;> simp_all [-Int32.not_le, -Int32.not_lt, noteM, ntR, ntD, nar_b1, mset_mset, mset]
      
    · refine y_aload_n dX3_note_38 rfl rfl ?_
      refine y_iload_n dX3_note_39 rfl rfl ?_
      refine y_iload_n dX3_note_40 rfl rfl ?_
      refine y_cV2 dX3_note_41 meX3_keepFewest clX3 kd_6 wm_ml_X3_91 (kX3_keepFewest) ⟨Nat.le_of_ble_eq_true rfl, Nat.le_of_ble_eq_true rfl⟩ ⟨rfl, rfl⟩ (Nat.le_of_ble_eq_true rfl) (fun v41 μ41 hp41 => ?_)
      obtain ⟨rfl, he41⟩ := hp41
      replace he41 := he41.symm
      subst he41
      refine y_rv ?_
      refine y_vret dX3_note_44 ?_
      refine ⟨rfl, ?_⟩
      funext k
      by_cases k1 : k = 6 <;> by_cases k2 : k = 10 <;> simp_all [-Int32.not_le, -Int32.not_lt, noteM, ntR, ntD, nar_b1, mset_mset, mset]
      
  · refine y_aload_n dX3_note_25 rfl rfl ?_
    refine y_getr dX3_note_26 3 clX3 kd_6 (by decide) wm_fl_X3_21 rfl rfl ?_
    refine y_iload_n dX3_note_29 rfl rfl ?_
    refine y_iconst dX3_note_30 ic_1 ?_
    refine y_bast dX3_note_31 m.toNatClampNeg kd_10 (pos_nI hm) (pos_lt hm h22) (by decide) ?_
    refine y_iload_n dX3_note_32 rfl rfl ?_
    refine y_iload dX3_note_33 rfl ?_
    refine y_icmp_ne 44 dX3_note_35 (by decide) (fun h35 => ?_) (fun h35 => ?_)
    · refine y_vret dX3_note_44 ?_
      refine ⟨rfl, ?_⟩
      funext k
      by_cases k1 : k = 6 <;> by_cases k2 : k = 10 <;> simp_all [-Int32.not_le, -Int32.not_lt, noteM, ntR, ntD, nar_b1, mset_mset, mset]
      
    · refine y_aload_n dX3_note_38 rfl rfl ?_
      refine y_iload_n dX3_note_39 rfl rfl ?_
      refine y_iload_n dX3_note_40 rfl rfl ?_
      refine y_cV2 dX3_note_41 meX3_keepFewest clX3 kd_6 wm_ml_X3_91 (kX3_keepFewest) ⟨Nat.le_of_ble_eq_true rfl, Nat.le_of_ble_eq_true rfl⟩ ⟨rfl, rfl⟩ (Nat.le_of_ble_eq_true rfl) (fun v41 μ41 hp41 => ?_)
      obtain ⟨rfl, he41⟩ := hp41
      replace he41 := he41.symm
      subst he41
      refine y_rv ?_
      refine y_vret dX3_note_44 ?_
      refine ⟨rfl, ?_⟩
      funext k
      by_cases k1 : k = 6 <;> by_cases k2 : k = 10 <;> simp_all [-Int32.not_le, -Int32.not_lt, noteM, ntR, ntD, nar_b1, mset_mset, mset]
      

abbrev RdT : Type := (Nat → Int32) × (Nat → Int32)
def ssS (f a : Nat) (z : Int32) (o : Nat) (μ : MemT) (j : Nat) (w : RdT) : RdT := if μ f a - μ f (sbs o j) ≤ 0 then w else if subI (μ 9 (sbs o j)) (nI (sbs o j)) then (ntR (nI a) (nI (sbs o j)) (μ f a - μ f (sbs o j)) z w.1, ntD (μ f a - μ f (sbs o j)) w.2) else w
def ssR (f a : Nat) (z : Int32) (o : Nat) (μ : MemT) (w : RdT) : RdT := itr (ssS f a z o μ) (2 ^ pc o) 0 w
def putRd (w : RdT) (μ : MemT) : MemT := mset (mset μ 6 w.1) 10 w.2
theorem putRd_putRd (w z : RdT) (μ : MemT) : putRd w (putRd z μ) = putRd w μ := by
  funext k
  simp only [putRd, mset]
  by_cases h1 : k = 10 <;> by_cases h2 : k = 6 <;> simp_all
theorem putRd_6 (w : RdT) (μ : MemT) : putRd w μ 6 = w.1 := rfl
theorem putRd_10 (w : RdT) (μ : MemT) : putRd w μ 10 = w.2 := rfl
theorem putRd_ne (w : RdT) (μ : MemT) {k : Nat} (h1 : k ≠ 6) (h2 : k ≠ 10) : putRd w μ k = μ k := by simp [putRd, mset, h1, h2]
theorem putRd_id (μ : MemT) : putRd (μ 6, μ 10) μ = μ := by
  unfold putRd
  rw [mset_same μ 6, mset_same μ 10]
theorem noteM_put (x y m v : Int32) (w : RdT) (μ : MemT) : noteM x y m v (putRd w μ) = putRd (ntR x y m v w.1, ntD m w.2) μ := by
  show putRd (ntR x y m v (putRd w μ 6), ntD m (putRd w μ 10)) (putRd w μ) = _
  rw [putRd_putRd, putRd_6, putRd_10]
theorem pc_le {o : Nat} (h : o < 256) : 2 ^ pc o < 2 ^ 31 := by
  have := (mk_bc o h).2
  exact Nat.lt_of_le_of_lt (Nat.pow_le_pow_right (by decide) this) (by decide)

set_option maxRecDepth 100000 in
set_option maxHeartbeats 4000000 in
theorem kX3_seatSecond_7 {l : Launch} {G : GT} {μ : MemT} {a : Nat} (ha : a < 256) {x z : Int32} {o : Nat} (ho : o < 256) (hx : x = nI o) : sw_Met l G yX3_seatSecond cX3_seatSecond 9 none (rmk 3 67) [.ref (G.2.1 6), .ref (G.2.1 7), .int (nI a), .int x, .int z] μ (fun v μ2 => v = none ∧ μ2 = putRd (ssR 7 a z o μ (μ 6, μ 10)) μ) := by
  subst hx
  refine sw_Met.ofY (by decide) (Nat.le_of_ble_eq_true rfl) rfl ?_
  refine y_iconst dX3_seatSecond_0 ic_0 ?_
  refine y_istore dX3_seatSecond_1 rfl (by decide) ?_
  refine y_iload_n dX3_seatSecond_3 rfl rfl ?_
  refine y_cN1 dX3_seatSecond_4 meX7_subsetsOf wn_X3_65 (kX7_subsetsOf) ⟨Nat.le_of_ble_eq_true rfl, Nat.le_of_ble_eq_true rfl⟩ ⟨rfl, rfl⟩ (Nat.le_of_ble_eq_true rfl) (fun v4 μ4 hp4 => ?_)
  obtain ⟨rfl, he4⟩ := hp4
  replace he4 := he4.symm
  subst he4
  refine y_ri ?_
  rw [mk_sh o ho]
  refine y_istore dX3_seatSecond_7 rfl (by decide) ?_
  refine y_iconst dX3_seatSecond_9 ic_0 ?_
  refine y_istore dX3_seatSecond_10 rfl (by decide) ?_
  refine y_eq ((putRd_id μ).symm) rfl rfl ?_
  refine y_loop1 (fun (j : Nat) (w : RdT) => [some (.ref (G.2.1 6)), some (.ref (G.2.1 7)), some (.int (nI a)), some (.int (nI o)), some (.int z), some (.int (nI (sbs o j))), some (.int (nI (2 ^ pc o))), some (.int (nI j)), none]) (fun (j : Nat) (w : RdT) => putRd w μ) (fun (j : Nat) (w : RdT) => itr (ssS 7 a z o μ) (2 ^ pc o - j) j w = ssR 7 a z o μ (μ 6, μ 10)) (2 ^ pc o) (fun w hv12 => ?_) (fun j w hj hv12 ih12 => ?_) 0 ((μ 6, μ 10)) (Nat.zero_le _) (rfl)
  · refine y_iload dX3_seatSecond_12 rfl ?_
    refine y_iload dX3_seatSecond_14 rfl ?_
    refine y_icmp_ge 68 dX3_seatSecond_16 (by decide) (fun _ => ?_) (fun hq => absurd (Int32.le_refl _) hq)
    refine y_vret dX3_seatSecond_68 ?_
    exact ⟨rfl, by rw [itr_ex hv12]⟩
  · refine y_iload dX3_seatSecond_12 rfl ?_
    refine y_iload dX3_seatSecond_14 rfl ?_
    refine y_icmp_ge 68 dX3_seatSecond_16 (by decide) (fun hq => absurd hq (nI_ge hj (pc_le ho))) (fun _ => ?_)
    refine y_aload_n dX3_seatSecond_19 rfl rfl ?_
    refine y_iload_n dX3_seatSecond_20 rfl rfl ?_
    refine y_iald dX3_seatSecond_21 a kd_7 rfl ha (by decide) ?_
    refine y_aload_n dX3_seatSecond_22 rfl rfl ?_
    refine y_iload dX3_seatSecond_23 rfl ?_
    refine y_iald dX3_seatSecond_25 (sbs o j) kd_7 rfl (sbs_lt ho j) (by decide) ?_
    refine y_isub dX3_seatSecond_26 ?_
    refine y_istore dX3_seatSecond_27 rfl (by decide) ?_
    refine y_iload dX3_seatSecond_29 rfl ?_
    refine y_if_le 54 dX3_seatSecond_31 (by decide) (fun h31 => ?_) (fun h31 => ?_)
    · refine y_iload dX3_seatSecond_54 rfl ?_
      refine y_iload_n dX3_seatSecond_56 rfl rfl ?_
      refine y_cN2 dX3_seatSecond_57 meX7_nextSubset wn_X3_75 (kX7_nextSubset) ⟨Nat.le_of_ble_eq_true rfl, Nat.le_of_ble_eq_true rfl⟩ ⟨rfl, rfl⟩ (Nat.le_of_ble_eq_true rfl) (fun v57 μ57 hp57 => ?_)
      obtain ⟨rfl, he57⟩ := hp57
      replace he57 := he57.symm
      subst he57
      refine y_ri ?_
      rw [(mk_nx _ (sbs_lt ho j) o ho).1]
      refine y_istore dX3_seatSecond_60 rfl (by decide) ?_
      refine y_iinc (v := nI (j + 1)) dX3_seatSecond_62 rfl (nI_i1 _) rfl (by decide) ?_
      refine y_goto 12 dX3_seatSecond_65 (by decide) ?_
      exact y_drop 8 (y_eq (μ2 := putRd (ssS 7 a z o μ j w) μ) (by clear ih12 hv12; simp_all [-Int32.not_le, ssS, noteM_put, putRd_ne]) rfl rfl (ih12 _ (itr_nx hj hv12 rfl)))
    · refine y_aload_n dX3_seatSecond_34 rfl rfl ?_
      refine y_iload dX3_seatSecond_35 rfl ?_
      refine y_cV1 dX3_seatSecond_37 meX3_mayIt clX3 kd_6 wm_ml_X3_68 (kX3_mayIt (sbs_lt ho j)) ⟨Nat.le_of_ble_eq_true rfl, Nat.le_of_ble_eq_true rfl⟩ ⟨rfl, rfl⟩ (Nat.le_of_ble_eq_true rfl) (fun v37 μ37 hp37 => ?_)
      obtain ⟨rfl, he37⟩ := hp37
      replace he37 := he37.symm
      subst he37
      refine y_ri ?_
      refine y_ifb_eq 54 dX3_seatSecond_40 (by decide) (fun h40 => ?_) (fun h40 => ?_)
      · refine y_iload dX3_seatSecond_54 rfl ?_
        refine y_iload_n dX3_seatSecond_56 rfl rfl ?_
        refine y_cN2 dX3_seatSecond_57 meX7_nextSubset wn_X3_75 (kX7_nextSubset) ⟨Nat.le_of_ble_eq_true rfl, Nat.le_of_ble_eq_true rfl⟩ ⟨rfl, rfl⟩ (Nat.le_of_ble_eq_true rfl) (fun v57 μ57 hp57 => ?_)
        obtain ⟨rfl, he57⟩ := hp57
        replace he57 := he57.symm
        subst he57
        refine y_ri ?_
        rw [(mk_nx _ (sbs_lt ho j) o ho).1]
        refine y_istore dX3_seatSecond_60 rfl (by decide) ?_
        refine y_iinc (v := nI (j + 1)) dX3_seatSecond_62 rfl (nI_i1 _) rfl (by decide) ?_
        refine y_goto 12 dX3_seatSecond_65 (by decide) ?_
        exact y_drop 8 (y_eq (μ2 := putRd (ssS 7 a z o μ j w) μ) (by clear ih12 hv12; simp_all [-Int32.not_le, ssS, noteM_put, putRd_ne]) rfl rfl (ih12 _ (itr_nx hj hv12 rfl)))
      · refine y_aload_n dX3_seatSecond_43 rfl rfl ?_
        refine y_iload_n dX3_seatSecond_44 rfl rfl ?_
        refine y_iload dX3_seatSecond_45 rfl ?_
        refine y_iload dX3_seatSecond_47 rfl ?_
        refine y_iload dX3_seatSecond_49 rfl ?_
        refine y_cV4 dX3_seatSecond_51 meX3_note clX3 kd_6 wm_ml_X3_79 (kX3_note (Int32.not_le.mp h31)) ⟨Nat.le_of_ble_eq_true rfl, Nat.le_of_ble_eq_true rfl⟩ ⟨rfl, rfl⟩ (Nat.le_of_ble_eq_true rfl) (fun v51 μ51 hp51 => ?_)
        obtain ⟨rfl, he51⟩ := hp51
        replace he51 := he51.symm
        subst he51
        refine y_rv ?_
        refine y_iload dX3_seatSecond_54 rfl ?_
        refine y_iload_n dX3_seatSecond_56 rfl rfl ?_
        refine y_cN2 dX3_seatSecond_57 meX7_nextSubset wn_X3_75 (kX7_nextSubset) ⟨Nat.le_of_ble_eq_true rfl, Nat.le_of_ble_eq_true rfl⟩ ⟨rfl, rfl⟩ (Nat.le_of_ble_eq_true rfl) (fun v57 μ57 hp57 => ?_)
        obtain ⟨rfl, he57⟩ := hp57
        replace he57 := he57.symm
        subst he57
        refine y_ri ?_
        rw [(mk_nx _ (sbs_lt ho j) o ho).1]
        refine y_istore dX3_seatSecond_60 rfl (by decide) ?_
        refine y_iinc (v := nI (j + 1)) dX3_seatSecond_62 rfl (nI_i1 _) rfl (by decide) ?_
        refine y_goto 12 dX3_seatSecond_65 (by decide) ?_
        exact y_drop 8 (y_eq (μ2 := putRd (ssS 7 a z o μ j w) μ) (by clear ih12 hv12; simp_all [-Int32.not_le, ssS, noteM_put, putRd_ne]) rfl rfl (ih12 _ (itr_nx hj hv12 rfl)))

set_option maxRecDepth 100000 in
set_option maxHeartbeats 4000000 in
theorem kX3_seatSecond_8 {l : Launch} {G : GT} {μ : MemT} {a : Nat} (ha : a < 256) {x z : Int32} {o : Nat} (ho : o < 256) (hx : x = nI o) : sw_Met l G yX3_seatSecond cX3_seatSecond 9 none (rmk 3 67) [.ref (G.2.1 6), .ref (G.2.1 8), .int (nI a), .int x, .int z] μ (fun v μ2 => v = none ∧ μ2 = putRd (ssR 8 a z o μ (μ 6, μ 10)) μ) := by
  subst hx
  refine sw_Met.ofY (by decide) (Nat.le_of_ble_eq_true rfl) rfl ?_
  refine y_iconst dX3_seatSecond_0 ic_0 ?_
  refine y_istore dX3_seatSecond_1 rfl (by decide) ?_
  refine y_iload_n dX3_seatSecond_3 rfl rfl ?_
  refine y_cN1 dX3_seatSecond_4 meX7_subsetsOf wn_X3_65 (kX7_subsetsOf) ⟨Nat.le_of_ble_eq_true rfl, Nat.le_of_ble_eq_true rfl⟩ ⟨rfl, rfl⟩ (Nat.le_of_ble_eq_true rfl) (fun v4 μ4 hp4 => ?_)
  obtain ⟨rfl, he4⟩ := hp4
  replace he4 := he4.symm
  subst he4
  refine y_ri ?_
  rw [mk_sh o ho]
  refine y_istore dX3_seatSecond_7 rfl (by decide) ?_
  refine y_iconst dX3_seatSecond_9 ic_0 ?_
  refine y_istore dX3_seatSecond_10 rfl (by decide) ?_
  refine y_eq ((putRd_id μ).symm) rfl rfl ?_
  refine y_loop1 (fun (j : Nat) (w : RdT) => [some (.ref (G.2.1 6)), some (.ref (G.2.1 8)), some (.int (nI a)), some (.int (nI o)), some (.int z), some (.int (nI (sbs o j))), some (.int (nI (2 ^ pc o))), some (.int (nI j)), none]) (fun (j : Nat) (w : RdT) => putRd w μ) (fun (j : Nat) (w : RdT) => itr (ssS 8 a z o μ) (2 ^ pc o - j) j w = ssR 8 a z o μ (μ 6, μ 10)) (2 ^ pc o) (fun w hv12 => ?_) (fun j w hj hv12 ih12 => ?_) 0 ((μ 6, μ 10)) (Nat.zero_le _) (rfl)
  · refine y_iload dX3_seatSecond_12 rfl ?_
    refine y_iload dX3_seatSecond_14 rfl ?_
    refine y_icmp_ge 68 dX3_seatSecond_16 (by decide) (fun _ => ?_) (fun hq => absurd (Int32.le_refl _) hq)
    refine y_vret dX3_seatSecond_68 ?_
    exact ⟨rfl, by rw [itr_ex hv12]⟩
  · refine y_iload dX3_seatSecond_12 rfl ?_
    refine y_iload dX3_seatSecond_14 rfl ?_
    refine y_icmp_ge 68 dX3_seatSecond_16 (by decide) (fun hq => absurd hq (nI_ge hj (pc_le ho))) (fun _ => ?_)
    refine y_aload_n dX3_seatSecond_19 rfl rfl ?_
    refine y_iload_n dX3_seatSecond_20 rfl rfl ?_
    refine y_iald dX3_seatSecond_21 a kd_8 rfl ha (by decide) ?_
    refine y_aload_n dX3_seatSecond_22 rfl rfl ?_
    refine y_iload dX3_seatSecond_23 rfl ?_
    refine y_iald dX3_seatSecond_25 (sbs o j) kd_8 rfl (sbs_lt ho j) (by decide) ?_
    refine y_isub dX3_seatSecond_26 ?_
    refine y_istore dX3_seatSecond_27 rfl (by decide) ?_
    refine y_iload dX3_seatSecond_29 rfl ?_
    refine y_if_le 54 dX3_seatSecond_31 (by decide) (fun h31 => ?_) (fun h31 => ?_)
    · refine y_iload dX3_seatSecond_54 rfl ?_
      refine y_iload_n dX3_seatSecond_56 rfl rfl ?_
      refine y_cN2 dX3_seatSecond_57 meX7_nextSubset wn_X3_75 (kX7_nextSubset) ⟨Nat.le_of_ble_eq_true rfl, Nat.le_of_ble_eq_true rfl⟩ ⟨rfl, rfl⟩ (Nat.le_of_ble_eq_true rfl) (fun v57 μ57 hp57 => ?_)
      obtain ⟨rfl, he57⟩ := hp57
      replace he57 := he57.symm
      subst he57
      refine y_ri ?_
      rw [(mk_nx _ (sbs_lt ho j) o ho).1]
      refine y_istore dX3_seatSecond_60 rfl (by decide) ?_
      refine y_iinc (v := nI (j + 1)) dX3_seatSecond_62 rfl (nI_i1 _) rfl (by decide) ?_
      refine y_goto 12 dX3_seatSecond_65 (by decide) ?_
      exact y_drop 8 (y_eq (μ2 := putRd (ssS 8 a z o μ j w) μ) (by clear ih12 hv12; simp_all [-Int32.not_le, ssS, noteM_put, putRd_ne]) rfl rfl (ih12 _ (itr_nx hj hv12 rfl)))
    · refine y_aload_n dX3_seatSecond_34 rfl rfl ?_
      refine y_iload dX3_seatSecond_35 rfl ?_
      refine y_cV1 dX3_seatSecond_37 meX3_mayIt clX3 kd_6 wm_ml_X3_68 (kX3_mayIt (sbs_lt ho j)) ⟨Nat.le_of_ble_eq_true rfl, Nat.le_of_ble_eq_true rfl⟩ ⟨rfl, rfl⟩ (Nat.le_of_ble_eq_true rfl) (fun v37 μ37 hp37 => ?_)
      obtain ⟨rfl, he37⟩ := hp37
      replace he37 := he37.symm
      subst he37
      refine y_ri ?_
      refine y_ifb_eq 54 dX3_seatSecond_40 (by decide) (fun h40 => ?_) (fun h40 => ?_)
      · refine y_iload dX3_seatSecond_54 rfl ?_
        refine y_iload_n dX3_seatSecond_56 rfl rfl ?_
        refine y_cN2 dX3_seatSecond_57 meX7_nextSubset wn_X3_75 (kX7_nextSubset) ⟨Nat.le_of_ble_eq_true rfl, Nat.le_of_ble_eq_true rfl⟩ ⟨rfl, rfl⟩ (Nat.le_of_ble_eq_true rfl) (fun v57 μ57 hp57 => ?_)
        obtain ⟨rfl, he57⟩ := hp57
        replace he57 := he57.symm
        subst he57
        refine y_ri ?_
        rw [(mk_nx _ (sbs_lt ho j) o ho).1]
        refine y_istore dX3_seatSecond_60 rfl (by decide) ?_
        refine y_iinc (v := nI (j + 1)) dX3_seatSecond_62 rfl (nI_i1 _) rfl (by decide) ?_
        refine y_goto 12 dX3_seatSecond_65 (by decide) ?_
        exact y_drop 8 (y_eq (μ2 := putRd (ssS 8 a z o μ j w) μ) (by clear ih12 hv12; simp_all [-Int32.not_le, ssS, noteM_put, putRd_ne]) rfl rfl (ih12 _ (itr_nx hj hv12 rfl)))
      · refine y_aload_n dX3_seatSecond_43 rfl rfl ?_
        refine y_iload_n dX3_seatSecond_44 rfl rfl ?_
        refine y_iload dX3_seatSecond_45 rfl ?_
        refine y_iload dX3_seatSecond_47 rfl ?_
        refine y_iload dX3_seatSecond_49 rfl ?_
        refine y_cV4 dX3_seatSecond_51 meX3_note clX3 kd_6 wm_ml_X3_79 (kX3_note (Int32.not_le.mp h31)) ⟨Nat.le_of_ble_eq_true rfl, Nat.le_of_ble_eq_true rfl⟩ ⟨rfl, rfl⟩ (Nat.le_of_ble_eq_true rfl) (fun v51 μ51 hp51 => ?_)
        obtain ⟨rfl, he51⟩ := hp51
        replace he51 := he51.symm
        subst he51
        refine y_rv ?_
        refine y_iload dX3_seatSecond_54 rfl ?_
        refine y_iload_n dX3_seatSecond_56 rfl rfl ?_
        refine y_cN2 dX3_seatSecond_57 meX7_nextSubset wn_X3_75 (kX7_nextSubset) ⟨Nat.le_of_ble_eq_true rfl, Nat.le_of_ble_eq_true rfl⟩ ⟨rfl, rfl⟩ (Nat.le_of_ble_eq_true rfl) (fun v57 μ57 hp57 => ?_)
        obtain ⟨rfl, he57⟩ := hp57
        replace he57 := he57.symm
        subst he57
        refine y_ri ?_
        rw [(mk_nx _ (sbs_lt ho j) o ho).1]
        refine y_istore dX3_seatSecond_60 rfl (by decide) ?_
        refine y_iinc (v := nI (j + 1)) dX3_seatSecond_62 rfl (nI_i1 _) rfl (by decide) ?_
        refine y_goto 12 dX3_seatSecond_65 (by decide) ?_
        exact y_drop 8 (y_eq (μ2 := putRd (ssS 8 a z o μ j w) μ) (by clear ih12 hv12; simp_all [-Int32.not_le, ssS, noteM_put, putRd_ne]) rfl rfl (ih12 _ (itr_nx hj hv12 rfl)))

def saS (f : Nat) (z : Int32) (t : Nat) (μ : MemT) (j : Nat) (w : RdT) : RdT := if subI (μ 9 (sbs t j)) (nI (sbs t j)) then ssR f (sbs t j) z (offN t (sbs t j)) μ w else w
def sa0 (z : Int32) (μ : MemT) : RdT := (upd (upd (upd (upd (μ 6) 4 (-6)) 5 (-6)) 6 (-6)) 7 z, filF 3201 0 (μ 10))
def saR (B : Bool) (z : Int32) (t : Nat) (μ : MemT) : RdT := itr (saS (if B then 8 else 7) z t (fillM μ)) (2 ^ pc t) 0 (sa0 z μ)
def saM (B : Bool) (z : Int32) (t : Nat) (μ : MemT) : MemT := putRd (saR B z t μ) (fillM μ)
theorem ssR_put {f : Nat} (h1 : f ≠ 6) (h2 : f ≠ 10) (a : Nat) (z : Int32) (o : Nat) (w w2 : RdT) (μ : MemT) : ssR f a z o (putRd w μ) w2 = ssR f a z o μ w2 := by
  unfold ssR
  refine itr_cong _ _ _ (fun k x _ _ => ?_)
  simp [ssS, putRd_ne _ _ h1 h2, putRd_ne]
theorem fillM_6 (μ : MemT) : fillM μ 6 = μ 6 := rfl
theorem fillM_10 (μ : MemT) : fillM μ 10 = μ 10 := rfl
theorem fillM_18 (μ : MemT) : fillM μ 18 = μ 18 := rfl

set_option maxRecDepth 100000 in
set_option maxHeartbeats 4000000 in
theorem kX3_seatAll {l : Launch} {G : GT} {μ : MemT} {t : Nat} (ht : t < 256) (hth : μ 18 7 = nI t) {B : Bool} {z : Int32} : sw_Met l G yX3_seatAll cX3_seatAll 8 none (rmk 4 95) [.ref (G.2.1 6), .ref (G.2.1 18), .int (bI B), .int z] μ (fun v μ2 => v = none ∧ μ2 = saM B z t μ) := by
  refine sw_Met.ofY (by decide) (Nat.le_of_ble_eq_true rfl) rfl ?_
  refine y_aload_n dX3_seatAll_0 rfl rfl ?_
  refine y_aload_n dX3_seatAll_1 rfl rfl ?_
  refine y_cV1 dX3_seatAll_2 meX3_fillRows clX3 kd_6 wm_ml_X3_39 (kX3_fillRows) ⟨Nat.le_of_ble_eq_true rfl, Nat.le_of_ble_eq_true rfl⟩ ⟨rfl, rfl⟩ (Nat.le_of_ble_eq_true rfl) (fun v2 μ2 hp2 => ?_)
  obtain ⟨rfl, he2⟩ := hp2
  replace he2 := he2.symm
  subst he2
  refine y_rv ?_
  refine y_aload_n dX3_seatAll_5 rfl rfl ?_
  refine y_bipush dX3_seatAll_6 ib_m6 ?_
  refine y_puti dX3_seatAll_8 4 clX3 kd_6 (by decide) wm_fl_X3_43 rfl rfl rfl rfl (tyX3_ok 4 (by decide)) rfl rfl ?_
  refine y_aload_n dX3_seatAll_11 rfl rfl ?_
  refine y_bipush dX3_seatAll_12 ib_m6 ?_
  refine y_puti dX3_seatAll_14 5 clX3 kd_6 (by decide) wm_fl_X3_47 rfl rfl rfl rfl (tyX3_ok 5 (by decide)) rfl rfl ?_
  refine y_aload_n dX3_seatAll_17 rfl rfl ?_
  refine y_bipush dX3_seatAll_18 ib_m6 ?_
  refine y_puti dX3_seatAll_20 6 clX3 kd_6 (by decide) wm_fl_X3_50 rfl rfl rfl rfl (tyX3_ok 6 (by decide)) rfl rfl ?_
  refine y_aload_n dX3_seatAll_23 rfl rfl ?_
  refine y_iload_n dX3_seatAll_24 rfl rfl ?_
  refine y_puti dX3_seatAll_25 7 clX3 kd_6 (by decide) wm_fl_X3_53 rfl rfl rfl rfl (tyX3_ok 7 (by decide)) rfl rfl ?_
  refine y_aload_n dX3_seatAll_28 rfl rfl ?_
  refine y_getr dX3_seatAll_29 3 clX3 kd_6 (by decide) wm_fl_X3_21 rfl rfl ?_
  refine y_iconst dX3_seatAll_32 ic_0 ?_
  refine y_cS2 dX3_seatAll_33 meJ7_fill_031fb wm_ml_X3_56 (kJ7_fill_031fb kd_10 (by decide)) ⟨Nat.le_of_ble_eq_true rfl, Nat.le_of_ble_eq_true rfl⟩ ⟨rfl, rfl⟩ (Nat.le_of_ble_eq_true rfl) (fun v33 μ33 hp33 => ?_)
  obtain ⟨rfl, he33⟩ := hp33
  replace he33 := he33.symm
  subst he33
  refine y_rv ?_
  refine y_iload_n dX3_seatAll_36 rfl rfl ?_
  refine y_ifb_eq 47 dX3_seatAll_37 (by decide) (fun h37 => ?_) (fun h37 => ?_)
  · refine y_aload_n dX3_seatAll_47 rfl rfl ?_
    refine y_getr dX3_seatAll_48 0 clX3 kd_6 (by decide) wm_fl_X3_9 rfl rfl ?_
    refine y_astore dX3_seatAll_51 rfl (by decide) ?_
    refine y_iconst (v := nI 0) dX3_seatAll_53 icn_0 ?_
    refine y_istore dX3_seatAll_54 rfl (by decide) ?_
    refine y_aload_n dX3_seatAll_56 rfl rfl ?_
    refine y_geti dX3_seatAll_57 7 clX4 kd_18 (by decide) wm_fl_X3_62 rfl rfl ?_
    rw [show mset (mset (mset (mset (mset (fillM μ) 6 _) 6 _) 6 _) 6 _) 10 _ 18 7 = nI t from hth]
    refine y_cN1 dX3_seatAll_60 meX7_subsetsOf wn_X3_65 (kX7_subsetsOf) ⟨Nat.le_of_ble_eq_true rfl, Nat.le_of_ble_eq_true rfl⟩ ⟨rfl, rfl⟩ (Nat.le_of_ble_eq_true rfl) (fun v60 μ60 hp60 => ?_)
    obtain ⟨rfl, he60⟩ := hp60
    replace he60 := he60.symm
    subst he60
    refine y_ri ?_
    rw [mk_sh t ht]
    refine y_istore dX3_seatAll_63 rfl (by decide) ?_
    refine y_iconst (v := nI 0) dX3_seatAll_65 icn_0 ?_
    refine y_istore dX3_seatAll_66 rfl (by decide) ?_
    refine y_eq (show _ = putRd (sa0 z μ) (fillM μ) by simp [putRd, sa0, mset_mset, mset, fillM_6, fillM_10, nar_b0, upd]) rfl rfl ?_
    refine y_loop1 (fun (j : Nat) (w : RdT) => [some (.ref (G.2.1 6)), some (.ref (G.2.1 18)), some (.int (bI B)), some (.int z), some (.ref (G.2.1 7)), some (.int (nI (sbs t j))), some (.int (nI (2 ^ pc t))), some (.int (nI j))]) (fun (j : Nat) (w : RdT) => putRd w (fillM μ)) (fun (j : Nat) (w : RdT) => itr (saS 7 z t (fillM μ)) (2 ^ pc t - j) j w = saR B z t μ) (2 ^ pc t) (fun w hv68 => ?_) (fun j w hj hv68 ih68 => ?_) 0 (sa0 z μ) (Nat.zero_le _) ((by rw [saR, h37]; rfl))
    · refine y_iload dX3_seatAll_68 rfl ?_
      refine y_iload dX3_seatAll_70 rfl ?_
      refine y_icmp_ge 119 dX3_seatAll_72 (by decide) (fun _ => ?_) (fun hq => absurd (Int32.le_refl _) hq)
      refine y_vret dX3_seatAll_119 ?_
      exact ⟨rfl, by rw [itr_ex hv68]; rfl⟩
    · refine y_iload dX3_seatAll_68 rfl ?_
      refine y_iload dX3_seatAll_70 rfl ?_
      refine y_icmp_ge 119 dX3_seatAll_72 (by decide) (fun hq => absurd hq (nI_ge hj (pc_le ht))) (fun _ => ?_)
      refine y_aload_n dX3_seatAll_75 rfl rfl ?_
      refine y_iload dX3_seatAll_76 rfl ?_
      refine y_cV1 dX3_seatAll_78 meX3_mayIt clX3 kd_6 wm_ml_X3_68 (kX3_mayIt (sbs_lt ht j)) ⟨Nat.le_of_ble_eq_true rfl, Nat.le_of_ble_eq_true rfl⟩ ⟨rfl, rfl⟩ (Nat.le_of_ble_eq_true rfl) (fun v78 μ78 hp78 => ?_)
      obtain ⟨rfl, he78⟩ := hp78
      replace he78 := he78.symm
      subst he78
      refine y_ri ?_
      refine y_ifb_eq 102 dX3_seatAll_81 (by decide) (fun h81 => ?_) (fun h81 => ?_)
      · refine y_iload dX3_seatAll_102 rfl ?_
        refine y_aload_n dX3_seatAll_104 rfl rfl ?_
        refine y_geti dX3_seatAll_105 7 clX4 kd_18 (by decide) wm_fl_X3_62 rfl rfl ?_
        refine y_cN2 dX3_seatAll_108 meX7_nextSubset wn_X3_75 (kX7_nextSubset) ⟨Nat.le_of_ble_eq_true rfl, Nat.le_of_ble_eq_true rfl⟩ ⟨rfl, rfl⟩ (Nat.le_of_ble_eq_true rfl) (fun v108 μ108 hp108 => ?_)
        obtain ⟨rfl, he108⟩ := hp108
        replace he108 := he108.symm
        subst he108
        refine y_ri ?_
        refine y_eq (st2 := [.int (nI (sbs t (j + 1)))]) rfl rfl (congrArg (fun q => [Value.int q]) ((congrArg (nxtI (nI (sbs t j))) hth).trans (mk_nx _ (sbs_lt ht j) t ht).1)) ?_
        refine y_istore dX3_seatAll_111 rfl (by decide) ?_
        refine y_iinc (v := nI (j + 1)) dX3_seatAll_113 rfl (nI_i1 _) rfl (by decide) ?_
        refine y_goto 68 dX3_seatAll_116 (by decide) ?_
        exact y_eq (μ2 := putRd (saS 7 z t (fillM μ) j w) (fillM μ)) (by clear ih68 hv68; simp_all [saS, putRd_putRd, ssR_put, putRd_6, putRd_10, putRd_ne]) rfl rfl (ih68 _ (itr_nx hj hv68 rfl))
      · refine y_aload_n dX3_seatAll_84 rfl rfl ?_
        refine y_aload dX3_seatAll_85 rfl ?_
        refine y_iload dX3_seatAll_87 rfl ?_
        refine y_aload_n dX3_seatAll_89 rfl rfl ?_
        refine y_geti dX3_seatAll_90 7 clX4 kd_18 (by decide) wm_fl_X3_62 rfl rfl ?_
        refine y_iload dX3_seatAll_93 rfl ?_
        refine y_iconst dX3_seatAll_95 ic_m1 ?_
        refine y_ixor dX3_seatAll_96 ?_
        refine y_iand dX3_seatAll_97 ?_
        refine y_iload_n dX3_seatAll_98 rfl rfl ?_
        refine y_cV4 dX3_seatAll_99 meX3_seatSecond clX3 kd_6 wm_ml_X3_71 (kX3_seatSecond_7 (sbs_lt ht j) (mk_off t ht _ (sbs_lt ht j)).2 ((congrArg (fun q => q &&& (nI (sbs t j) ^^^ -1)) hth).trans (mk_off t ht _ (sbs_lt ht j)).1)) ⟨Nat.le_of_ble_eq_true rfl, Nat.le_of_ble_eq_true rfl⟩ ⟨rfl, rfl⟩ (Nat.le_of_ble_eq_true rfl) (fun v99 μ99 hp99 => ?_)
        obtain ⟨rfl, he99⟩ := hp99
        replace he99 := he99.symm
        subst he99
        refine y_rv ?_
        refine y_iload dX3_seatAll_102 rfl ?_
        refine y_aload_n dX3_seatAll_104 rfl rfl ?_
        refine y_geti dX3_seatAll_105 7 clX4 kd_18 (by decide) wm_fl_X3_62 rfl rfl ?_
        refine y_cN2 dX3_seatAll_108 meX7_nextSubset wn_X3_75 (kX7_nextSubset) ⟨Nat.le_of_ble_eq_true rfl, Nat.le_of_ble_eq_true rfl⟩ ⟨rfl, rfl⟩ (Nat.le_of_ble_eq_true rfl) (fun v108 μ108 hp108 => ?_)
        obtain ⟨rfl, he108⟩ := hp108
        replace he108 := he108.symm
        subst he108
        refine y_ri ?_
        refine y_eq (st2 := [.int (nI (sbs t (j + 1)))]) rfl rfl (congrArg (fun q => [Value.int q]) ((congrArg (nxtI (nI (sbs t j))) hth).trans (mk_nx _ (sbs_lt ht j) t ht).1)) ?_
        refine y_istore dX3_seatAll_111 rfl (by decide) ?_
        refine y_iinc (v := nI (j + 1)) dX3_seatAll_113 rfl (nI_i1 _) rfl (by decide) ?_
        refine y_goto 68 dX3_seatAll_116 (by decide) ?_
        exact y_eq (μ2 := putRd (saS 7 z t (fillM μ) j w) (fillM μ)) (by clear ih68 hv68; simp_all [saS, putRd_putRd, ssR_put, putRd_6, putRd_10, putRd_ne]) rfl rfl (ih68 _ (itr_nx hj hv68 rfl))
  · refine y_aload_n dX3_seatAll_40 rfl rfl ?_
    refine y_getr dX3_seatAll_41 1 clX3 kd_6 (by decide) wm_fl_X3_15 rfl rfl ?_
    refine y_goto 51 dX3_seatAll_44 (by decide) ?_
    refine y_astore dX3_seatAll_51 rfl (by decide) ?_
    refine y_iconst (v := nI 0) dX3_seatAll_53 icn_0 ?_
    refine y_istore dX3_seatAll_54 rfl (by decide) ?_
    refine y_aload_n dX3_seatAll_56 rfl rfl ?_
    refine y_geti dX3_seatAll_57 7 clX4 kd_18 (by decide) wm_fl_X3_62 rfl rfl ?_
    rw [show mset (mset (mset (mset (mset (fillM μ) 6 _) 6 _) 6 _) 6 _) 10 _ 18 7 = nI t from hth]
    refine y_cN1 dX3_seatAll_60 meX7_subsetsOf wn_X3_65 (kX7_subsetsOf) ⟨Nat.le_of_ble_eq_true rfl, Nat.le_of_ble_eq_true rfl⟩ ⟨rfl, rfl⟩ (Nat.le_of_ble_eq_true rfl) (fun v60 μ60 hp60 => ?_)
    obtain ⟨rfl, he60⟩ := hp60
    replace he60 := he60.symm
    subst he60
    refine y_ri ?_
    rw [mk_sh t ht]
    refine y_istore dX3_seatAll_63 rfl (by decide) ?_
    refine y_iconst (v := nI 0) dX3_seatAll_65 icn_0 ?_
    refine y_istore dX3_seatAll_66 rfl (by decide) ?_
    refine y_eq (show _ = putRd (sa0 z μ) (fillM μ) by simp [putRd, sa0, mset_mset, mset, fillM_6, fillM_10, nar_b0, upd]) rfl rfl ?_
    refine y_loop1 (fun (j : Nat) (w : RdT) => [some (.ref (G.2.1 6)), some (.ref (G.2.1 18)), some (.int (bI B)), some (.int z), some (.ref (G.2.1 8)), some (.int (nI (sbs t j))), some (.int (nI (2 ^ pc t))), some (.int (nI j))]) (fun (j : Nat) (w : RdT) => putRd w (fillM μ)) (fun (j : Nat) (w : RdT) => itr (saS 8 z t (fillM μ)) (2 ^ pc t - j) j w = saR B z t μ) (2 ^ pc t) (fun w hv68 => ?_) (fun j w hj hv68 ih68 => ?_) 0 (sa0 z μ) (Nat.zero_le _) ((by rw [saR, h37]; rfl))
    · refine y_iload dX3_seatAll_68 rfl ?_
      refine y_iload dX3_seatAll_70 rfl ?_
      refine y_icmp_ge 119 dX3_seatAll_72 (by decide) (fun _ => ?_) (fun hq => absurd (Int32.le_refl _) hq)
      refine y_vret dX3_seatAll_119 ?_
      exact ⟨rfl, by rw [itr_ex hv68]; rfl⟩
    · refine y_iload dX3_seatAll_68 rfl ?_
      refine y_iload dX3_seatAll_70 rfl ?_
      refine y_icmp_ge 119 dX3_seatAll_72 (by decide) (fun hq => absurd hq (nI_ge hj (pc_le ht))) (fun _ => ?_)
      refine y_aload_n dX3_seatAll_75 rfl rfl ?_
      refine y_iload dX3_seatAll_76 rfl ?_
      refine y_cV1 dX3_seatAll_78 meX3_mayIt clX3 kd_6 wm_ml_X3_68 (kX3_mayIt (sbs_lt ht j)) ⟨Nat.le_of_ble_eq_true rfl, Nat.le_of_ble_eq_true rfl⟩ ⟨rfl, rfl⟩ (Nat.le_of_ble_eq_true rfl) (fun v78 μ78 hp78 => ?_)
      obtain ⟨rfl, he78⟩ := hp78
      replace he78 := he78.symm
      subst he78
      refine y_ri ?_
      refine y_ifb_eq 102 dX3_seatAll_81 (by decide) (fun h81 => ?_) (fun h81 => ?_)
      · refine y_iload dX3_seatAll_102 rfl ?_
        refine y_aload_n dX3_seatAll_104 rfl rfl ?_
        refine y_geti dX3_seatAll_105 7 clX4 kd_18 (by decide) wm_fl_X3_62 rfl rfl ?_
        refine y_cN2 dX3_seatAll_108 meX7_nextSubset wn_X3_75 (kX7_nextSubset) ⟨Nat.le_of_ble_eq_true rfl, Nat.le_of_ble_eq_true rfl⟩ ⟨rfl, rfl⟩ (Nat.le_of_ble_eq_true rfl) (fun v108 μ108 hp108 => ?_)
        obtain ⟨rfl, he108⟩ := hp108
        replace he108 := he108.symm
        subst he108
        refine y_ri ?_
        refine y_eq (st2 := [.int (nI (sbs t (j + 1)))]) rfl rfl (congrArg (fun q => [Value.int q]) ((congrArg (nxtI (nI (sbs t j))) hth).trans (mk_nx _ (sbs_lt ht j) t ht).1)) ?_
        refine y_istore dX3_seatAll_111 rfl (by decide) ?_
        refine y_iinc (v := nI (j + 1)) dX3_seatAll_113 rfl (nI_i1 _) rfl (by decide) ?_
        refine y_goto 68 dX3_seatAll_116 (by decide) ?_
        exact y_eq (μ2 := putRd (saS 8 z t (fillM μ) j w) (fillM μ)) (by clear ih68 hv68; simp_all [saS, putRd_putRd, ssR_put, putRd_6, putRd_10, putRd_ne]) rfl rfl (ih68 _ (itr_nx hj hv68 rfl))
      · refine y_aload_n dX3_seatAll_84 rfl rfl ?_
        refine y_aload dX3_seatAll_85 rfl ?_
        refine y_iload dX3_seatAll_87 rfl ?_
        refine y_aload_n dX3_seatAll_89 rfl rfl ?_
        refine y_geti dX3_seatAll_90 7 clX4 kd_18 (by decide) wm_fl_X3_62 rfl rfl ?_
        refine y_iload dX3_seatAll_93 rfl ?_
        refine y_iconst dX3_seatAll_95 ic_m1 ?_
        refine y_ixor dX3_seatAll_96 ?_
        refine y_iand dX3_seatAll_97 ?_
        refine y_iload_n dX3_seatAll_98 rfl rfl ?_
        refine y_cV4 dX3_seatAll_99 meX3_seatSecond clX3 kd_6 wm_ml_X3_71 (kX3_seatSecond_8 (sbs_lt ht j) (mk_off t ht _ (sbs_lt ht j)).2 ((congrArg (fun q => q &&& (nI (sbs t j) ^^^ -1)) hth).trans (mk_off t ht _ (sbs_lt ht j)).1)) ⟨Nat.le_of_ble_eq_true rfl, Nat.le_of_ble_eq_true rfl⟩ ⟨rfl, rfl⟩ (Nat.le_of_ble_eq_true rfl) (fun v99 μ99 hp99 => ?_)
        obtain ⟨rfl, he99⟩ := hp99
        replace he99 := he99.symm
        subst he99
        refine y_rv ?_
        refine y_iload dX3_seatAll_102 rfl ?_
        refine y_aload_n dX3_seatAll_104 rfl rfl ?_
        refine y_geti dX3_seatAll_105 7 clX4 kd_18 (by decide) wm_fl_X3_62 rfl rfl ?_
        refine y_cN2 dX3_seatAll_108 meX7_nextSubset wn_X3_75 (kX7_nextSubset) ⟨Nat.le_of_ble_eq_true rfl, Nat.le_of_ble_eq_true rfl⟩ ⟨rfl, rfl⟩ (Nat.le_of_ble_eq_true rfl) (fun v108 μ108 hp108 => ?_)
        obtain ⟨rfl, he108⟩ := hp108
        replace he108 := he108.symm
        subst he108
        refine y_ri ?_
        refine y_eq (st2 := [.int (nI (sbs t (j + 1)))]) rfl rfl (congrArg (fun q => [Value.int q]) ((congrArg (nxtI (nI (sbs t j))) hth).trans (mk_nx _ (sbs_lt ht j) t ht).1)) ?_
        refine y_istore dX3_seatAll_111 rfl (by decide) ?_
        refine y_iinc (v := nI (j + 1)) dX3_seatAll_113 rfl (nI_i1 _) rfl (by decide) ?_
        refine y_goto 68 dX3_seatAll_116 (by decide) ?_
        exact y_eq (μ2 := putRd (saS 8 z t (fillM μ) j w) (fillM μ)) (by clear ih68 hv68; simp_all [saS, putRd_putRd, ssR_put, putRd_6, putRd_10, putRd_ne]) rfl rfl (ih68 _ (itr_nx hj hv68 rfl))

def luB (d : Nat → Int32) : Int32 := match fnd (fun j => decide (d j = 0)) 3200 1 with
  | none => 3201
  | some j => nI j
def sdS (s : Nat) (g : Int32) (o : Nat) (μ : MemT) (j : Nat) (w : Int32 × (Nat → Int32)) : Int32 × (Nat → Int32) := if μ 8 (sbs o j) - μ 8 s ≤ w.1 then w else if subI (μ 9 (sbs o j)) (nI (sbs o j)) = false then w else if g + μ 7 s < μ 7 (sbs o j) then w else (μ 8 (sbs o j) - μ 8 s, upd (upd w.2 8 (μ 8 (sbs o j) - μ 8 s)) 9 (nI (sbs o j)))
def sdR (s : Nat) (g : Int32) (o : Nat) (μ : MemT) : Int32 × (Nat → Int32) := itr (sdS s g o (fillM μ)) (2 ^ pc o) 0 (0, upd (upd (μ 6) 8 (-6)) 9 (-6))

set_option maxRecDepth 100000 in
set_option maxHeartbeats 4000000 in
theorem kX3_leastUnmade {l : Launch} {G : GT} {μ : MemT}  : sw_Met l G yX3_leastUnmade cX3_leastUnmade 2 (some .int) (rmk 0 0) [.ref (G.2.1 6)] μ (fun v μ2 => v = some (.int (luB (μ 10))) ∧ μ2 = μ) := by
  refine sw_Met.ofY (by decide) (Nat.le_of_ble_eq_true rfl) rfl ?_
  refine y_iconst (v := nI 1) dX3_leastUnmade_0 icn_1 ?_
  refine y_istore_n dX3_leastUnmade_1 rfl rfl (by decide) ?_
  refine y_loop0 (fun (j : Nat)  => [some (.ref (G.2.1 6)), some (.int (nI j))]) (fun (j : Nat)  => μ) (fun (j : Nat)  => fnd (fun j => decide (μ 10 j = 0)) (3201 - j) j = fnd (fun j => decide (μ 10 j = 0)) 3200 1) 3201 (fun  hv2 => ?_) (fun j hj hv2 ih2 => ?_) 1  (by decide) (rfl)
  · refine y_iload_n dX3_leastUnmade_2 rfl rfl ?_
    refine y_sipush dX3_leastUnmade_3 is_3200 ?_
    refine y_icmp_gt 26 dX3_leastUnmade_6 (by decide) (fun _ => ?_) (fun hq => absurd (by decide) hq)
    refine y_sipush dX3_leastUnmade_26 is_3201 ?_
    refine y_iret dX3_leastUnmade_29 ?_
    exact ⟨by rw [luB, fnd_ex hv2], rfl⟩
  · refine y_iload_n dX3_leastUnmade_2 rfl rfl ?_
    refine y_sipush dX3_leastUnmade_3 is_3200 ?_
    refine y_icmp_gt 26 dX3_leastUnmade_6 (by decide) (fun hq => absurd hq (nI_nlt (a := 3200) (b := j) (by omega) (by decide))) (fun _ => ?_)
    refine y_aload_n dX3_leastUnmade_9 rfl rfl ?_
    refine y_getr dX3_leastUnmade_10 3 clX3 kd_6 (by decide) wm_fl_X3_21 rfl rfl ?_
    refine y_iload_n dX3_leastUnmade_13 rfl rfl ?_
    refine y_bald dX3_leastUnmade_14 j kd_10 rfl (by omega) (by decide) ?_
    refine y_if_ne 20 dX3_leastUnmade_15 (by decide) (fun h15 => ?_) (fun h15 => ?_)
    · refine y_iinc (v := nI (j + 1)) dX3_leastUnmade_20 rfl (nI_i1 _) rfl (by decide) ?_
      refine y_goto 2 dX3_leastUnmade_23 (by decide) ?_
      exact ih2 (fnd_nx hj hv2 (decide_eq_false h15))
    · refine y_iload_n dX3_leastUnmade_18 rfl rfl ?_
      refine y_iret dX3_leastUnmade_19 ?_
      exact ⟨by rw [luB, fnd_hit hj hv2 (decide_eq_true h15)], rfl⟩

set_option maxRecDepth 100000 in
set_option maxHeartbeats 4000000 in
theorem kX3_sellDearest {l : Launch} {G : GT} {μ : MemT} {t : Nat} (ht : t < 256) (hth : μ 18 7 = nI t) {s : Nat} (hs : s < 256) {g : Int32} : sw_Met l G yX3_sellDearest cX3_sellDearest 10 none (rmk 3 71) [.ref (G.2.1 6), .ref (G.2.1 18), .int g, .int (nI s)] μ (fun v μ2 => v = none ∧ μ2 = mset (fillM μ) 6 (sdR s g (offN t s) μ).2) := by
  refine sw_Met.ofY (by decide) (Nat.le_of_ble_eq_true rfl) rfl ?_
  refine y_aload_n dX3_sellDearest_0 rfl rfl ?_
  refine y_aload_n dX3_sellDearest_1 rfl rfl ?_
  refine y_cV1 dX3_sellDearest_2 meX3_fillRows clX3 kd_6 wm_ml_X3_39 (kX3_fillRows) ⟨Nat.le_of_ble_eq_true rfl, Nat.le_of_ble_eq_true rfl⟩ ⟨rfl, rfl⟩ (Nat.le_of_ble_eq_true rfl) (fun v2 μ2 hp2 => ?_)
  obtain ⟨rfl, he2⟩ := hp2
  replace he2 := he2.symm
  subst he2
  refine y_rv ?_
  refine y_aload_n dX3_sellDearest_5 rfl rfl ?_
  refine y_bipush dX3_sellDearest_6 ib_m6 ?_
  refine y_puti dX3_sellDearest_8 8 clX3 kd_6 (by decide) wm_fl_X3_100 rfl rfl rfl rfl (tyX3_ok 8 (by decide)) rfl rfl ?_
  refine y_aload_n dX3_sellDearest_11 rfl rfl ?_
  refine y_bipush dX3_sellDearest_12 ib_m6 ?_
  refine y_puti dX3_sellDearest_14 9 clX3 kd_6 (by decide) wm_fl_X3_103 rfl rfl rfl rfl (tyX3_ok 9 (by decide)) rfl rfl ?_
  refine y_iconst dX3_sellDearest_17 ic_0 ?_
  refine y_istore dX3_sellDearest_18 rfl (by decide) ?_
  refine y_aload_n dX3_sellDearest_20 rfl rfl ?_
  refine y_geti dX3_sellDearest_21 7 clX4 kd_18 (by decide) wm_fl_X3_62 rfl rfl ?_
  refine y_iload_n dX3_sellDearest_24 rfl rfl ?_
  refine y_iconst dX3_sellDearest_25 ic_m1 ?_
  refine y_ixor dX3_sellDearest_26 ?_
  refine y_iand dX3_sellDearest_27 ?_
  refine y_eq (st2 := [.int (nI (offN t s))]) rfl rfl (congrArg (fun q => [Value.int q]) ((congrArg (fun q => q &&& (nI s ^^^ -1)) hth).trans (mk_off t ht s hs).1)) ?_
  refine y_istore dX3_sellDearest_28 rfl (by decide) ?_
  refine y_iconst (v := nI 0) dX3_sellDearest_30 icn_0 ?_
  refine y_istore dX3_sellDearest_31 rfl (by decide) ?_
  refine y_iload dX3_sellDearest_33 rfl ?_
  refine y_cN1 dX3_sellDearest_35 meX7_subsetsOf wn_X3_65 (kX7_subsetsOf) ⟨Nat.le_of_ble_eq_true rfl, Nat.le_of_ble_eq_true rfl⟩ ⟨rfl, rfl⟩ (Nat.le_of_ble_eq_true rfl) (fun v35 μ35 hp35 => ?_)
  obtain ⟨rfl, he35⟩ := hp35
  replace he35 := he35.symm
  subst he35
  refine y_ri ?_
  rw [mk_sh _ (mk_off t ht s hs).2]
  refine y_istore dX3_sellDearest_38 rfl (by decide) ?_
  refine y_iconst (v := nI 0) dX3_sellDearest_40 icn_0 ?_
  refine y_istore dX3_sellDearest_41 rfl (by decide) ?_
  refine y_eq (show _ = mset (fillM μ) 6 (upd (upd (μ 6) 8 (-6)) 9 (-6)) by simp [mset_mset, mset_self, fillM_6]) rfl rfl ?_
  refine y_loop2 (fun (j : Nat) (m : Int32) (r : Nat → Int32) => [some (.ref (G.2.1 6)), some (.ref (G.2.1 18)), some (.int g), some (.int (nI s)), some (.int m), some (.int (nI (offN t s))), some (.int (nI (sbs (offN t s) j))), some (.int (nI (2 ^ pc (offN t s)))), some (.int (nI j)), none]) (fun (j : Nat) (m : Int32) (r : Nat → Int32) => mset (fillM μ) 6 r) (fun (j : Nat) (m : Int32) (r : Nat → Int32) => itr (sdS s g (offN t s) (fillM μ)) (2 ^ pc (offN t s) - j) j (m, r) = sdR s g (offN t s) μ) (2 ^ pc (offN t s)) (fun m r hv43 => ?_) (fun j m r hj hv43 ih43 => ?_) 0 (0) (upd (upd (μ 6) 8 (-6)) 9 (-6)) (Nat.zero_le _) (rfl)
  · refine y_iload dX3_sellDearest_43 rfl ?_
    refine y_iload dX3_sellDearest_45 rfl ?_
    refine y_icmp_ge 131 dX3_sellDearest_47 (by decide) (fun _ => ?_) (fun hq => absurd (Int32.le_refl _) hq)
    refine y_vret dX3_sellDearest_131 ?_
    exact ⟨rfl, by rw [← itr_ex hv43]⟩
  · refine y_iload dX3_sellDearest_43 rfl ?_
    refine y_iload dX3_sellDearest_45 rfl ?_
    refine y_icmp_ge 131 dX3_sellDearest_47 (by decide) (fun hq => absurd hq (nI_ge hj (pc_le (mk_off t ht s hs).2))) (fun _ => ?_)
    refine y_aload_n dX3_sellDearest_50 rfl rfl ?_
    refine y_getr dX3_sellDearest_51 1 clX3 kd_6 (by decide) wm_fl_X3_15 rfl rfl ?_
    refine y_iload dX3_sellDearest_54 rfl ?_
    refine y_iald dX3_sellDearest_56 (sbs (offN t s) j) kd_8 rfl (sbs_lt (mk_off t ht s hs).2 j) (by decide) ?_
    refine y_aload_n dX3_sellDearest_57 rfl rfl ?_
    refine y_getr dX3_sellDearest_58 1 clX3 kd_6 (by decide) wm_fl_X3_15 rfl rfl ?_
    refine y_iload_n dX3_sellDearest_61 rfl rfl ?_
    refine y_iald dX3_sellDearest_62 s kd_8 rfl hs (by decide) ?_
    refine y_isub dX3_sellDearest_63 ?_
    refine y_istore dX3_sellDearest_64 rfl (by decide) ?_
    refine y_iload dX3_sellDearest_66 rfl ?_
    refine y_iload dX3_sellDearest_68 rfl ?_
    refine y_icmp_le 116 dX3_sellDearest_70 (by decide) (fun h70 => ?_) (fun h70 => ?_)
    · refine y_iload dX3_sellDearest_116 rfl ?_
      refine y_iload dX3_sellDearest_118 rfl ?_
      refine y_cN2 dX3_sellDearest_120 meX7_nextSubset wn_X3_75 (kX7_nextSubset) ⟨Nat.le_of_ble_eq_true rfl, Nat.le_of_ble_eq_true rfl⟩ ⟨rfl, rfl⟩ (Nat.le_of_ble_eq_true rfl) (fun v120 μ120 hp120 => ?_)
      obtain ⟨rfl, he120⟩ := hp120
      replace he120 := he120.symm
      subst he120
      refine y_ri ?_
      rw [(mk_nx _ (sbs_lt (mk_off t ht s hs).2 j) _ (mk_off t ht s hs).2).1]
      refine y_istore dX3_sellDearest_123 rfl (by decide) ?_
      refine y_iinc (v := nI (j + 1)) dX3_sellDearest_125 rfl (nI_i1 _) rfl (by decide) ?_
      refine y_goto 43 dX3_sellDearest_128 (by decide) ?_
      exact y_drop 9 (y_eq (μ2 := mset (fillM μ) 6 (sdS s g (offN t s) (fillM μ) j (m, r)).2) (lv2 := [some (.ref (G.2.1 6)), some (.ref (G.2.1 18)), some (.int g), some (.int (nI s)), some (.int (sdS s g (offN t s) (fillM μ) j (m, r)).1), some (.int (nI (offN t s))), some (.int (nI (sbs (offN t s) (j + 1)))), some (.int (nI (2 ^ pc (offN t s)))), some (.int (nI (j + 1))), none]) (by clear ih43 hv43; simp_all [-Int32.not_le, -Int32.not_lt, sdS, mset_mset, mset]) (by clear ih43 hv43; simp_all [-Int32.not_le, -Int32.not_lt, sdS, mset, sbs]) rfl (ih43 _ _ (itr_nx hj hv43 rfl)))
    · refine y_aload_n dX3_sellDearest_73 rfl rfl ?_
      refine y_iload dX3_sellDearest_74 rfl ?_
      refine y_cV1 dX3_sellDearest_76 meX3_mayIt clX3 kd_6 wm_ml_X3_68 (kX3_mayIt (sbs_lt (mk_off t ht s hs).2 j)) ⟨Nat.le_of_ble_eq_true rfl, Nat.le_of_ble_eq_true rfl⟩ ⟨rfl, rfl⟩ (Nat.le_of_ble_eq_true rfl) (fun v76 μ76 hp76 => ?_)
      obtain ⟨rfl, he76⟩ := hp76
      replace he76 := he76.symm
      subst he76
      refine y_ri ?_
      refine y_ifb_eq 116 dX3_sellDearest_79 (by decide) (fun h79 => ?_) (fun h79 => ?_)
      · refine y_iload dX3_sellDearest_116 rfl ?_
        refine y_iload dX3_sellDearest_118 rfl ?_
        refine y_cN2 dX3_sellDearest_120 meX7_nextSubset wn_X3_75 (kX7_nextSubset) ⟨Nat.le_of_ble_eq_true rfl, Nat.le_of_ble_eq_true rfl⟩ ⟨rfl, rfl⟩ (Nat.le_of_ble_eq_true rfl) (fun v120 μ120 hp120 => ?_)
        obtain ⟨rfl, he120⟩ := hp120
        replace he120 := he120.symm
        subst he120
        refine y_ri ?_
        rw [(mk_nx _ (sbs_lt (mk_off t ht s hs).2 j) _ (mk_off t ht s hs).2).1]
        refine y_istore dX3_sellDearest_123 rfl (by decide) ?_
        refine y_iinc (v := nI (j + 1)) dX3_sellDearest_125 rfl (nI_i1 _) rfl (by decide) ?_
        refine y_goto 43 dX3_sellDearest_128 (by decide) ?_
        exact y_drop 9 (y_eq (μ2 := mset (fillM μ) 6 (sdS s g (offN t s) (fillM μ) j (m, r)).2) (lv2 := [some (.ref (G.2.1 6)), some (.ref (G.2.1 18)), some (.int g), some (.int (nI s)), some (.int (sdS s g (offN t s) (fillM μ) j (m, r)).1), some (.int (nI (offN t s))), some (.int (nI (sbs (offN t s) (j + 1)))), some (.int (nI (2 ^ pc (offN t s)))), some (.int (nI (j + 1))), none]) (by clear ih43 hv43; simp_all [-Int32.not_le, -Int32.not_lt, sdS, mset_mset, mset]) (by clear ih43 hv43; simp_all [-Int32.not_le, -Int32.not_lt, sdS, mset, sbs]) rfl (ih43 _ _ (itr_nx hj hv43 rfl)))
      · refine y_aload_n dX3_sellDearest_82 rfl rfl ?_
        refine y_getr dX3_sellDearest_83 0 clX3 kd_6 (by decide) wm_fl_X3_9 rfl rfl ?_
        refine y_iload dX3_sellDearest_86 rfl ?_
        refine y_iald dX3_sellDearest_88 (sbs (offN t s) j) kd_7 rfl (sbs_lt (mk_off t ht s hs).2 j) (by decide) ?_
        refine y_iload_n dX3_sellDearest_89 rfl rfl ?_
        refine y_aload_n dX3_sellDearest_90 rfl rfl ?_
        refine y_getr dX3_sellDearest_91 0 clX3 kd_6 (by decide) wm_fl_X3_9 rfl rfl ?_
        refine y_iload_n dX3_sellDearest_94 rfl rfl ?_
        refine y_iald dX3_sellDearest_95 s kd_7 rfl (by first | assumption | decide | omega) (by decide) ?_
        refine y_iadd dX3_sellDearest_96 ?_
        refine y_icmp_gt 116 dX3_sellDearest_97 (by decide) (fun h97 => ?_) (fun h97 => ?_)
        · refine y_iload dX3_sellDearest_116 rfl ?_
          refine y_iload dX3_sellDearest_118 rfl ?_
          refine y_cN2 dX3_sellDearest_120 meX7_nextSubset wn_X3_75 (kX7_nextSubset) ⟨Nat.le_of_ble_eq_true rfl, Nat.le_of_ble_eq_true rfl⟩ ⟨rfl, rfl⟩ (Nat.le_of_ble_eq_true rfl) (fun v120 μ120 hp120 => ?_)
          obtain ⟨rfl, he120⟩ := hp120
          replace he120 := he120.symm
          subst he120
          refine y_ri ?_
          rw [(mk_nx _ (sbs_lt (mk_off t ht s hs).2 j) _ (mk_off t ht s hs).2).1]
          refine y_istore dX3_sellDearest_123 rfl (by decide) ?_
          refine y_iinc (v := nI (j + 1)) dX3_sellDearest_125 rfl (nI_i1 _) rfl (by decide) ?_
          refine y_goto 43 dX3_sellDearest_128 (by decide) ?_
          exact y_drop 9 (y_eq (μ2 := mset (fillM μ) 6 (sdS s g (offN t s) (fillM μ) j (m, r)).2) (lv2 := [some (.ref (G.2.1 6)), some (.ref (G.2.1 18)), some (.int g), some (.int (nI s)), some (.int (sdS s g (offN t s) (fillM μ) j (m, r)).1), some (.int (nI (offN t s))), some (.int (nI (sbs (offN t s) (j + 1)))), some (.int (nI (2 ^ pc (offN t s)))), some (.int (nI (j + 1))), none]) (by clear ih43 hv43; simp_all [-Int32.not_le, -Int32.not_lt, sdS, mset_mset, mset]) (by clear ih43 hv43; simp_all [-Int32.not_le, -Int32.not_lt, sdS, mset, sbs]) rfl (ih43 _ _ (itr_nx hj hv43 rfl)))
        · refine y_iload dX3_sellDearest_100 rfl ?_
          refine y_istore dX3_sellDearest_102 rfl (by decide) ?_
          refine y_aload_n dX3_sellDearest_104 rfl rfl ?_
          refine y_iload dX3_sellDearest_105 rfl ?_
          refine y_puti dX3_sellDearest_107 8 clX3 kd_6 (by decide) wm_fl_X3_100 rfl rfl rfl rfl (tyX3_ok 8 (by decide)) rfl rfl ?_
          refine y_aload_n dX3_sellDearest_110 rfl rfl ?_
          refine y_iload dX3_sellDearest_111 rfl ?_
          refine y_puti dX3_sellDearest_113 9 clX3 kd_6 (by decide) wm_fl_X3_103 rfl rfl rfl rfl (tyX3_ok 9 (by decide)) rfl rfl ?_
          refine y_iload dX3_sellDearest_116 rfl ?_
          refine y_iload dX3_sellDearest_118 rfl ?_
          refine y_cN2 dX3_sellDearest_120 meX7_nextSubset wn_X3_75 (kX7_nextSubset) ⟨Nat.le_of_ble_eq_true rfl, Nat.le_of_ble_eq_true rfl⟩ ⟨rfl, rfl⟩ (Nat.le_of_ble_eq_true rfl) (fun v120 μ120 hp120 => ?_)
          obtain ⟨rfl, he120⟩ := hp120
          replace he120 := he120.symm
          subst he120
          refine y_ri ?_
          rw [(mk_nx _ (sbs_lt (mk_off t ht s hs).2 j) _ (mk_off t ht s hs).2).1]
          refine y_istore dX3_sellDearest_123 rfl (by decide) ?_
          refine y_iinc (v := nI (j + 1)) dX3_sellDearest_125 rfl (nI_i1 _) rfl (by decide) ?_
          refine y_goto 43 dX3_sellDearest_128 (by decide) ?_
          exact y_drop 9 (y_eq (μ2 := mset (fillM μ) 6 (sdS s g (offN t s) (fillM μ) j (m, r)).2) (lv2 := [some (.ref (G.2.1 6)), some (.ref (G.2.1 18)), some (.int g), some (.int (nI s)), some (.int (sdS s g (offN t s) (fillM μ) j (m, r)).1), some (.int (nI (offN t s))), some (.int (nI (sbs (offN t s) (j + 1)))), some (.int (nI (2 ^ pc (offN t s)))), some (.int (nI (j + 1))), none]) (by clear ih43 hv43; simp_all [-Int32.not_le, -Int32.not_lt, sdS, mset_mset, mset]) (by clear ih43 hv43; simp_all [-Int32.not_le, -Int32.not_lt, sdS, mset, sbs]) rfl (ih43 _ _ (itr_nx hj hv43 rfl)))
