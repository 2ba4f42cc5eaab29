/-! the pans -/
def frA (v : Nat → Int32) (r : Nat → Int32) : Nat → Int32 := itr (fun p r => itr (fun q r => upd r (2 ^ p + q) (r q + v p)) (2 ^ p) 0 r) 8 0 r
def frO (v : Nat → Int32) (r : Nat → Int32) : Nat → Int32 := itr (fun p r => itr (fun q r => upd r (2 ^ p + q) (r q ||| v p)) (2 ^ p) 0 r) 8 0 r
def vP (b : Nat) (μ : MemT) (p : Nat) : Int32 := if bt (μ b 7) p then wc (μ b 8) (nI p) (μ (b + 2) p) else 0
def vS (b : Nat) (μ : MemT) (p : Nat) : Int32 := if bt (μ b 7) p then μ (b + 1) p else 0
def vQ (b : Nat) (μ : MemT) (p : Nat) : Int32 := if bt (μ b 7) p then ptn p (μ (b + 4)) else 0
def fillM (μ : MemT) : MemT := mset (mset (mset μ 7 (frA (vP 18 μ) (μ 7))) 8 (frA (vS 18 μ) (μ 8))) 9 (frO (vQ 18 μ) (μ 9))
def rows3 (r1 r2 r3 : Nat → Int32) (μ : MemT) : MemT := mset (mset (mset μ 7 r1) 8 r2) 9 r3
theorem rows3_rows3 (r1 r2 r3 s1 s2 s3 : Nat → Int32) (μ : MemT) : rows3 r1 r2 r3 (rows3 s1 s2 s3 μ) = rows3 r1 r2 r3 μ := by
  funext k
  simp only [rows3, mset]
  by_cases h1 : k = 9
  · simp [h1]
  · by_cases h2 : k = 8
    · simp [h2]
    · by_cases h3 : k = 7
      · simp [h3]
      · simp [h1, h2, h3]
theorem two_le : ∀ p, p < 8 → 2 ^ p + 2 ^ p ≤ 256 ∧ 0 < 2 ^ p := by decide
theorem two_mul_nI (n : Nat) : (2 : Int32) * nI n = nI (n + n) := by
  rw [show (2 : Int32) = nI 2 by decide, nI_mul]
  congr 1
  omega

set_option maxRecDepth 100000 in
set_option maxHeartbeats 4000000 in
theorem kX3_fillRows {l : Launch} {G : GT} {μ : MemT}  : sw_Met l G yX3_fillRows cX3_fillRows 9 none (rmk 2 43) [.ref (G.2.1 6), .ref (G.2.1 18)] μ (fun v μ2 => v = none ∧ μ2 = fillM μ) := by
  refine sw_Met.ofY (by decide) (Nat.le_of_ble_eq_true rfl) rfl ?_
  refine y_iconst (v := nI 0) dX3_fillRows_0 icn_0 ?_
  refine y_istore_n dX3_fillRows_1 rfl rfl (by decide) ?_
  refine y_eq (show _ = rows3 (μ 7) (μ 8) (μ 9) μ by unfold rows3; rw [mset_same μ 7, mset_same μ 8, mset_same μ 9]) rfl rfl ?_
  refine y_loop3 (fun (j : Nat) (r1 : Nat → Int32) (r2 : Nat → Int32) (r3 : Nat → Int32) => [some (.ref (G.2.1 6)), some (.ref (G.2.1 18)), some (.int (nI j)), none, none, none, none, none, none]) (fun (j : Nat) (r1 : Nat → Int32) (r2 : Nat → Int32) (r3 : Nat → Int32) => rows3 r1 r2 r3 μ) (fun (j : Nat) (r1 : Nat → Int32) (r2 : Nat → Int32) (r3 : Nat → Int32) => (itr (fun p r => itr (fun q r => upd r (2 ^ p + q) (r q + vP 18 μ p)) (2 ^ p) 0 r) (8 - j) j r1 = frA (vP 18 μ) (μ 7)) ∧ (itr (fun p r => itr (fun q r => upd r (2 ^ p + q) (r q + vS 18 μ p)) (2 ^ p) 0 r) (8 - j) j r2 = frA (vS 18 μ) (μ 8)) ∧ itr (fun p r => itr (fun q r => upd r (2 ^ p + q) (r q ||| vQ 18 μ p)) (2 ^ p) 0 r) (8 - j) j r3 = frO (vQ 18 μ) (μ 9)) 8 (fun r1 r2 r3 hv2 => ?_) (fun j r1 r2 r3 hj hv2 ih2 => ?_) 0 (μ 7) (μ 8) (μ 9) (Nat.zero_le _) (⟨rfl, rfl, rfl⟩)
  · refine y_iload_n dX3_fillRows_2 rfl rfl ?_
    refine y_bipush dX3_fillRows_3 ib_8 ?_
    refine y_icmp_ge 148 dX3_fillRows_5 (by decide) (fun _ => ?_) (fun hq => absurd (by decide) hq)
    refine y_vret dX3_fillRows_148 ?_
    exact ⟨rfl, by rw [itr_ex hv2.1, itr_ex hv2.2.1, itr_ex hv2.2.2]; rfl⟩
  · refine y_iload_n dX3_fillRows_2 rfl rfl ?_
    refine y_bipush dX3_fillRows_3 ib_8 ?_
    refine y_icmp_ge 148 dX3_fillRows_5 (by decide) (fun hq => absurd hq (nI_ge (b := 8) hj (by decide))) (fun _ => ?_)
    refine y_iconst dX3_fillRows_8 ic_1 ?_
    refine y_iload_n dX3_fillRows_9 rfl rfl ?_
    refine y_ishl dX3_fillRows_10 ?_
    rw [mk_shl j hj]
    refine y_istore_n dX3_fillRows_11 rfl rfl (by decide) ?_
    refine y_aload_n dX3_fillRows_12 rfl rfl ?_
    refine y_iload_n dX3_fillRows_13 rfl rfl ?_
    refine y_cV1 dX3_fillRows_14 meX4_has clX4 kd_18 wm_ml_X3_25 (kX4_has tw18) ⟨Nat.le_of_ble_eq_true rfl, Nat.le_of_ble_eq_true rfl⟩ ⟨rfl, rfl⟩ (Nat.le_of_ble_eq_true rfl) (fun v14 μ14 hp14 => ?_)
    obtain ⟨rfl, he14⟩ := hp14
    replace he14 := he14.symm
    subst he14
    refine y_ri ?_
    refine y_istore dX3_fillRows_17 rfl (by decide) ?_
    refine y_iload dX3_fillRows_19 rfl ?_
    refine y_ifb_eq 32 dX3_fillRows_21 (by decide) (fun h21 => ?_) (fun h21 => ?_)
    · refine y_iconst dX3_fillRows_32 ic_0 ?_
      refine y_istore dX3_fillRows_33 rfl (by decide) ?_
      refine y_iload dX3_fillRows_35 rfl ?_
      refine y_ifb_eq 49 dX3_fillRows_37 (by decide) (fun _ => ?_) (fun hq => absurd (h21.symm.trans hq) (by decide))
      refine y_iconst dX3_fillRows_49 ic_0 ?_
      refine y_istore dX3_fillRows_50 rfl (by decide) ?_
      refine y_iload dX3_fillRows_52 rfl ?_
      refine y_ifb_eq 65 dX3_fillRows_54 (by decide) (fun _ => ?_) (fun hq => absurd (h21.symm.trans hq) (by decide))
      refine y_iconst dX3_fillRows_65 ic_0 ?_
      refine y_istore dX3_fillRows_66 rfl (by decide) ?_
      refine y_iload_n dX3_fillRows_68 rfl rfl ?_
      refine y_istore dX3_fillRows_69 rfl (by decide) ?_
      have hb : bt (μ 18 7) j = false := (isP_n hj).symm.trans h21
      refine y_eq (lv2 := [some (.ref (G.2.1 6)), some (.ref (G.2.1 18)), some (.int (nI j)), some (.int (nI (2 ^ j))), some (.int (bI (isP (μ 18 7) (nI j)))), some (.int (vP 18 μ j)), some (.int (vS 18 μ j)), some (.int (vQ 18 μ j)), some (.int (nI (2 ^ j + 0)))]) rfl (by simp only [vP, vS, vQ, hb]; rfl) rfl ?_
      refine y_loop3 (fun (jq : Nat) (s1 : Nat → Int32) (s2 : Nat → Int32) (s3 : Nat → Int32) => [some (.ref (G.2.1 6)), some (.ref (G.2.1 18)), some (.int (nI j)), some (.int (nI (2 ^ j))), some (.int (bI (isP (μ 18 7) (nI j)))), some (.int (vP 18 μ j)), some (.int (vS 18 μ j)), some (.int (vQ 18 μ j)), some (.int (nI (2 ^ j + jq)))]) (fun (jq : Nat) (s1 : Nat → Int32) (s2 : Nat → Int32) (s3 : Nat → Int32) => rows3 s1 s2 s3 μ) (fun (jq : Nat) (s1 : Nat → Int32) (s2 : Nat → Int32) (s3 : Nat → Int32) => (itr (fun q r => upd r (2 ^ j + q) (r q + vP 18 μ j)) (2 ^ j - jq) jq s1 = itr (fun q r => upd r (2 ^ j + q) (r q + vP 18 μ j)) (2 ^ j) 0 r1) ∧ (itr (fun q r => upd r (2 ^ j + q) (r q + vS 18 μ j)) (2 ^ j - jq) jq s2 = itr (fun q r => upd r (2 ^ j + q) (r q + vS 18 μ j)) (2 ^ j) 0 r2) ∧ itr (fun q r => upd r (2 ^ j + q) (r q ||| vQ 18 μ j)) (2 ^ j - jq) jq s3 = itr (fun q r => upd r (2 ^ j + q) (r q ||| vQ 18 μ j)) (2 ^ j) 0 r3) (2 ^ j) (fun s1 s2 s3 hv71 => ?_) (fun jq s1 s2 s3 hjq hv71 ih71 => ?_) 0 (r1) (r2) (r3) (Nat.zero_le _) (⟨rfl, rfl, rfl⟩)
      · refine y_iload dX3_fillRows_71 rfl ?_
        refine y_iconst dX3_fillRows_73 ic_2 ?_
        refine y_iload_n dX3_fillRows_74 rfl rfl ?_
        refine y_imul dX3_fillRows_75 ?_
        rw [two_mul_nI]
        refine y_icmp_ge 142 dX3_fillRows_76 (by decide) (fun _ => ?_) (fun hq => absurd (Int32.le_refl _) hq)
        refine y_iinc (v := nI (j + 1)) dX3_fillRows_142 rfl (nI_i1 _) rfl (by decide) ?_
        refine y_goto 2 dX3_fillRows_145 (by decide) ?_
        exact y_drop 8 (y_drop 7 (y_drop 6 (y_drop 5 (y_drop 4 (y_drop 3 (ih2 _ _ _ ⟨itr_nx hj hv2.1 (itr_ex hv71.1), itr_nx hj hv2.2.1 (itr_ex hv71.2.1), itr_nx hj hv2.2.2 (itr_ex hv71.2.2)⟩))))))
      · refine y_iload dX3_fillRows_71 rfl ?_
        refine y_iconst dX3_fillRows_73 ic_2 ?_
        refine y_iload_n dX3_fillRows_74 rfl rfl ?_
        refine y_imul dX3_fillRows_75 ?_
        rw [two_mul_nI]
        refine y_icmp_ge 142 dX3_fillRows_76 (by decide) (fun hq => absurd hq (nI_ge (Nat.add_lt_add_left hjq _) (by have := (two_le j hj).1; omega))) (fun _ => ?_)
        refine y_aload_n dX3_fillRows_79 rfl rfl ?_
        refine y_getr dX3_fillRows_80 0 clX3 kd_6 (by decide) wm_fl_X3_9 rfl rfl ?_
        refine y_iload dX3_fillRows_83 rfl ?_
        refine y_aload_n dX3_fillRows_85 rfl rfl ?_
        refine y_getr dX3_fillRows_86 0 clX3 kd_6 (by decide) wm_fl_X3_9 rfl rfl ?_
        refine y_iload dX3_fillRows_89 rfl ?_
        refine y_iload_n dX3_fillRows_91 rfl rfl ?_
        refine y_isub dX3_fillRows_92 ?_
        refine y_iald dX3_fillRows_93 jq kd_7 (by rw [nI_sub (Nat.le_add_right _ _), Nat.add_sub_cancel_left]) (by have := (two_le j hj).1; omega) (by decide) ?_
        refine y_iload dX3_fillRows_94 rfl ?_
        refine y_iadd dX3_fillRows_96 ?_
        refine y_iast dX3_fillRows_97 (2 ^ j + jq) kd_7 rfl (by have := (two_le j hj).1; omega) (by decide) ?_
        refine y_aload_n dX3_fillRows_98 rfl rfl ?_
        refine y_getr dX3_fillRows_99 1 clX3 kd_6 (by decide) wm_fl_X3_15 rfl rfl ?_
        refine y_iload dX3_fillRows_102 rfl ?_
        refine y_aload_n dX3_fillRows_104 rfl rfl ?_
        refine y_getr dX3_fillRows_105 1 clX3 kd_6 (by decide) wm_fl_X3_15 rfl rfl ?_
        refine y_iload dX3_fillRows_108 rfl ?_
        refine y_iload_n dX3_fillRows_110 rfl rfl ?_
        refine y_isub dX3_fillRows_111 ?_
        refine y_iald dX3_fillRows_112 jq kd_8 (by rw [nI_sub (Nat.le_add_right _ _), Nat.add_sub_cancel_left]) (by have := (two_le j hj).1; omega) (by decide) ?_
        refine y_iload dX3_fillRows_113 rfl ?_
        refine y_iadd dX3_fillRows_115 ?_
        refine y_iast dX3_fillRows_116 (2 ^ j + jq) kd_8 rfl (by have := (two_le j hj).1; omega) (by decide) ?_
        refine y_aload_n dX3_fillRows_117 rfl rfl ?_
        refine y_getr dX3_fillRows_118 2 clX3 kd_6 (by decide) wm_fl_X3_18 rfl rfl ?_
        refine y_iload dX3_fillRows_121 rfl ?_
        refine y_aload_n dX3_fillRows_123 rfl rfl ?_
        refine y_getr dX3_fillRows_124 2 clX3 kd_6 (by decide) wm_fl_X3_18 rfl rfl ?_
        refine y_iload dX3_fillRows_127 rfl ?_
        refine y_iload_n dX3_fillRows_129 rfl rfl ?_
        refine y_isub dX3_fillRows_130 ?_
        refine y_iald dX3_fillRows_131 jq kd_9 (by rw [nI_sub (Nat.le_add_right _ _), Nat.add_sub_cancel_left]) (by have := (two_le j hj).1; omega) (by decide) ?_
        refine y_iload dX3_fillRows_132 rfl ?_
        refine y_ior dX3_fillRows_134 ?_
        refine y_iast dX3_fillRows_135 (2 ^ j + jq) kd_9 rfl (by have := (two_le j hj).1; omega) (by decide) ?_
        refine y_iinc (v := nI ((2 ^ j + jq) + 1)) dX3_fillRows_136 rfl (nI_i1 _) rfl (by decide) ?_
        refine y_goto 71 dX3_fillRows_139 (by decide) ?_
        exact y_eq (μ2 := rows3 (upd s1 (2 ^ j + jq) (s1 jq + vP 18 μ j)) (upd s2 (2 ^ j + jq) (s2 jq + vS 18 μ j)) (upd s3 (2 ^ j + jq) (s3 jq ||| vQ 18 μ j)) μ) (by funext k; simp only [rows3, mset]; by_cases k1 : k = 9 <;> by_cases k2 : k = 8 <;> by_cases k3 : k = 7 <;> simp_all) rfl rfl (ih71 _ _ _ ⟨itr_nx hjq hv71.1 rfl, itr_nx hjq hv71.2.1 rfl, itr_nx hjq hv71.2.2 rfl⟩)
    · refine y_aload_n dX3_fillRows_24 rfl rfl ?_
      refine y_iload_n dX3_fillRows_25 rfl rfl ?_
      refine y_cV1 dX3_fillRows_26 meX4_poundsOf clX4 kd_18 wm_ml_X3_31 (kX4_poundsOf tw18 hj) ⟨Nat.le_of_ble_eq_true rfl, Nat.le_of_ble_eq_true rfl⟩ ⟨rfl, rfl⟩ (Nat.le_of_ble_eq_true rfl) (fun v26 μ26 hp26 => ?_)
      obtain ⟨rfl, he26⟩ := hp26
      replace he26 := he26.symm
      subst he26
      refine y_ri ?_
      refine y_goto 33 dX3_fillRows_29 (by decide) ?_
      refine y_istore dX3_fillRows_33 rfl (by decide) ?_
      refine y_iload dX3_fillRows_35 rfl ?_
      refine y_ifb_eq 49 dX3_fillRows_37 (by decide) (fun hq => absurd (h21.symm.trans hq) (by decide)) (fun _ => ?_)
      refine y_aload_n dX3_fillRows_40 rfl rfl ?_
      refine y_getr dX3_fillRows_41 0 clX4 kd_18 (by decide) wm_fl_X3_35 rfl rfl ?_
      refine y_iload_n dX3_fillRows_44 rfl rfl ?_
      refine y_iald dX3_fillRows_45 j kd_19 rfl (by first | assumption | decide | omega) (by decide) ?_
      refine y_goto 50 dX3_fillRows_46 (by decide) ?_
      refine y_istore dX3_fillRows_50 rfl (by decide) ?_
      refine y_iload dX3_fillRows_52 rfl ?_
      refine y_ifb_eq 65 dX3_fillRows_54 (by decide) (fun hq => absurd (h21.symm.trans hq) (by decide)) (fun _ => ?_)
      refine y_aload_n dX3_fillRows_57 rfl rfl ?_
      refine y_iload_n dX3_fillRows_58 rfl rfl ?_
      refine y_cV1 dX3_fillRows_59 meX4_partner clX4 kd_18 wm_ml_X3_36 (kX4_partner tw18 hj) ⟨Nat.le_of_ble_eq_true rfl, Nat.le_of_ble_eq_true rfl⟩ ⟨rfl, rfl⟩ (Nat.le_of_ble_eq_true rfl) (fun v59 μ59 hp59 => ?_)
      obtain ⟨rfl, he59⟩ := hp59
      replace he59 := he59.symm
      subst he59
      refine y_ri ?_
      refine y_goto 66 dX3_fillRows_62 (by decide) ?_
      refine y_istore dX3_fillRows_66 rfl (by decide) ?_
      refine y_iload_n dX3_fillRows_68 rfl rfl ?_
      refine y_istore dX3_fillRows_69 rfl (by decide) ?_
      have hb : bt (μ 18 7) j = true := (isP_n hj).symm.trans h21
      refine y_eq (lv2 := [some (.ref (G.2.1 6)), some (.ref (G.2.1 18)), some (.int (nI j)), some (.int (nI (2 ^ j))), some (.int (bI (isP (μ 18 7) (nI j)))), some (.int (vP 18 μ j)), some (.int (vS 18 μ j)), some (.int (vQ 18 μ j)), some (.int (nI (2 ^ j + 0)))]) rfl (by simp only [vP, vS, vQ, hb]; rfl) rfl ?_
      refine y_loop3 (fun (jq : Nat) (s1 : Nat → Int32) (s2 : Nat → Int32) (s3 : Nat → Int32) => [some (.ref (G.2.1 6)), some (.ref (G.2.1 18)), some (.int (nI j)), some (.int (nI (2 ^ j))), some (.int (bI (isP (μ 18 7) (nI j)))), some (.int (vP 18 μ j)), some (.int (vS 18 μ j)), some (.int (vQ 18 μ j)), some (.int (nI (2 ^ j + jq)))]) (fun (jq : Nat) (s1 : Nat → Int32) (s2 : Nat → Int32) (s3 : Nat → Int32) => rows3 s1 s2 s3 μ) (fun (jq : Nat) (s1 : Nat → Int32) (s2 : Nat → Int32) (s3 : Nat → Int32) => (itr (fun q r => upd r (2 ^ j + q) (r q + vP 18 μ j)) (2 ^ j - jq) jq s1 = itr (fun q r => upd r (2 ^ j + q) (r q + vP 18 μ j)) (2 ^ j) 0 r1) ∧ (itr (fun q r => upd r (2 ^ j + q) (r q + vS 18 μ j)) (2 ^ j - jq) jq s2 = itr (fun q r => upd r (2 ^ j + q) (r q + vS 18 μ j)) (2 ^ j) 0 r2) ∧ itr (fun q r => upd r (2 ^ j + q) (r q ||| vQ 18 μ j)) (2 ^ j - jq) jq s3 = itr (fun q r => upd r (2 ^ j + q) (r q ||| vQ 18 μ j)) (2 ^ j) 0 r3) (2 ^ j) (fun s1 s2 s3 hv71 => ?_) (fun jq s1 s2 s3 hjq hv71 ih71 => ?_) 0 (r1) (r2) (r3) (Nat.zero_le _) (⟨rfl, rfl, rfl⟩)
      · refine y_iload dX3_fillRows_71 rfl ?_
        refine y_iconst dX3_fillRows_73 ic_2 ?_
        refine y_iload_n dX3_fillRows_74 rfl rfl ?_
        refine y_imul dX3_fillRows_75 ?_
        rw [two_mul_nI]
        refine y_icmp_ge 142 dX3_fillRows_76 (by decide) (fun _ => ?_) (fun hq => absurd (Int32.le_refl _) hq)
        refine y_iinc (v := nI (j + 1)) dX3_fillRows_142 rfl (nI_i1 _) rfl (by decide) ?_
        refine y_goto 2 dX3_fillRows_145 (by decide) ?_
        exact y_drop 8 (y_drop 7 (y_drop 6 (y_drop 5 (y_drop 4 (y_drop 3 (ih2 _ _ _ ⟨itr_nx hj hv2.1 (itr_ex hv71.1), itr_nx hj hv2.2.1 (itr_ex hv71.2.1), itr_nx hj hv2.2.2 (itr_ex hv71.2.2)⟩))))))
      · refine y_iload dX3_fillRows_71 rfl ?_
        refine y_iconst dX3_fillRows_73 ic_2 ?_
        refine y_iload_n dX3_fillRows_74 rfl rfl ?_
        refine y_imul dX3_fillRows_75 ?_
        rw [two_mul_nI]
        refine y_icmp_ge 142 dX3_fillRows_76 (by decide) (fun hq => absurd hq (nI_ge (Nat.add_lt_add_left hjq _) (by have := (two_le j hj).1; omega))) (fun _ => ?_)
        refine y_aload_n dX3_fillRows_79 rfl rfl ?_
        refine y_getr dX3_fillRows_80 0 clX3 kd_6 (by decide) wm_fl_X3_9 rfl rfl ?_
        refine y_iload dX3_fillRows_83 rfl ?_
        refine y_aload_n dX3_fillRows_85 rfl rfl ?_
        refine y_getr dX3_fillRows_86 0 clX3 kd_6 (by decide) wm_fl_X3_9 rfl rfl ?_
        refine y_iload dX3_fillRows_89 rfl ?_
        refine y_iload_n dX3_fillRows_91 rfl rfl ?_
        refine y_isub dX3_fillRows_92 ?_
        refine y_iald dX3_fillRows_93 jq kd_7 (by rw [nI_sub (Nat.le_add_right _ _), Nat.add_sub_cancel_left]) (by have := (two_le j hj).1; omega) (by decide) ?_
        refine y_iload dX3_fillRows_94 rfl ?_
        refine y_iadd dX3_fillRows_96 ?_
        refine y_iast dX3_fillRows_97 (2 ^ j + jq) kd_7 rfl (by have := (two_le j hj).1; omega) (by decide) ?_
        refine y_aload_n dX3_fillRows_98 rfl rfl ?_
        refine y_getr dX3_fillRows_99 1 clX3 kd_6 (by decide) wm_fl_X3_15 rfl rfl ?_
        refine y_iload dX3_fillRows_102 rfl ?_
        refine y_aload_n dX3_fillRows_104 rfl rfl ?_
        refine y_getr dX3_fillRows_105 1 clX3 kd_6 (by decide) wm_fl_X3_15 rfl rfl ?_
        refine y_iload dX3_fillRows_108 rfl ?_
        refine y_iload_n dX3_fillRows_110 rfl rfl ?_
        refine y_isub dX3_fillRows_111 ?_
        refine y_iald dX3_fillRows_112 jq kd_8 (by rw [nI_sub (Nat.le_add_right _ _), Nat.add_sub_cancel_left]) (by have := (two_le j hj).1; omega) (by decide) ?_
        refine y_iload dX3_fillRows_113 rfl ?_
        refine y_iadd dX3_fillRows_115 ?_
        refine y_iast dX3_fillRows_116 (2 ^ j + jq) kd_8 rfl (by have := (two_le j hj).1; omega) (by decide) ?_
        refine y_aload_n dX3_fillRows_117 rfl rfl ?_
        refine y_getr dX3_fillRows_118 2 clX3 kd_6 (by decide) wm_fl_X3_18 rfl rfl ?_
        refine y_iload dX3_fillRows_121 rfl ?_
        refine y_aload_n dX3_fillRows_123 rfl rfl ?_
        refine y_getr dX3_fillRows_124 2 clX3 kd_6 (by decide) wm_fl_X3_18 rfl rfl ?_
        refine y_iload dX3_fillRows_127 rfl ?_
        refine y_iload_n dX3_fillRows_129 rfl rfl ?_
        refine y_isub dX3_fillRows_130 ?_
        refine y_iald dX3_fillRows_131 jq kd_9 (by rw [nI_sub (Nat.le_add_right _ _), Nat.add_sub_cancel_left]) (by have := (two_le j hj).1; omega) (by decide) ?_
        refine y_iload dX3_fillRows_132 rfl ?_
        refine y_ior dX3_fillRows_134 ?_
        refine y_iast dX3_fillRows_135 (2 ^ j + jq) kd_9 rfl (by have := (two_le j hj).1; omega) (by decide) ?_
        refine y_iinc (v := nI ((2 ^ j + jq) + 1)) dX3_fillRows_136 rfl (nI_i1 _) rfl (by decide) ?_
        refine y_goto 71 dX3_fillRows_139 (by decide) ?_
        exact y_eq (μ2 := rows3 (upd s1 (2 ^ j + jq) (s1 jq + vP 18 μ j)) (upd s2 (2 ^ j + jq) (s2 jq + vS 18 μ j)) (upd s3 (2 ^ j + jq) (s3 jq ||| vQ 18 μ j)) μ) (by funext k; simp only [rows3, mset]; by_cases k1 : k = 9 <;> by_cases k2 : k = 8 <;> by_cases k3 : k = 7 <;> simp_all) rfl rfl (ih71 _ _ _ ⟨itr_nx hjq hv71.1 rfl, itr_nx hjq hv71.2.1 rfl, itr_nx hjq hv71.2.2 rfl⟩)
