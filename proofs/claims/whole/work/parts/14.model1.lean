/-! the reference: persons -/
theorem lg_lt (x y : Int64) : lg_cmp x y < 0 ↔ x < y := by
  unfold lg_cmp
  split
  · rename_i h
    constructor
    · intro q; exact absurd q (by decide)
    · intro q; exact absurd h (Int64.lt_asymm q)
  · rename_i h
    split
    · rename_i h2
      subst h2
      constructor
      · intro q; exact absurd q (by decide)
      · intro q; exact absurd q (Int64.lt_irrefl)
    · rename_i h2
      constructor
      · intro _
        rcases Int64.lt_or_lt_of_ne h2 with q | q
        · exact q
        · exact absurd q h
      · intro _; decide
theorem lg_gt (x y : Int64) : 0 < lg_cmp x y ↔ y < x := by
  unfold lg_cmp
  split
  · rename_i h
    constructor
    · intro _; exact h
    · intro _; decide
  · rename_i h
    constructor
    · intro q; split at q <;> exact absurd q (by decide)
    · intro q; exact absurd q h
theorem in_lo {x : Int32} {y : Int64} : x.toInt64 < y ↔ x.toInt < y.toInt := by rw [Int64.lt_iff_toInt_lt, Int32.toInt_toInt64]
theorem in_hi {x : Int32} {y : Int64} : y < x.toInt64 ↔ y.toInt < x.toInt := by rw [Int64.lt_iff_toInt_lt, Int32.toInt_toInt64]

set_option maxRecDepth 100000 in
set_option maxHeartbeats 4000000 in
theorem kX8_in {l : Launch} {G : GT} {μ : MemT} {x : Int32} {a b : Int64} {A B : Int} (hA : a.toInt = A) (hB : b.toInt = B) : sw_Met l G yX8_in cX8_in 6 (some .boolean) (rmk 0 0) [.long x.toInt64, .long a, .long b] μ (fun v μ2 => v = some (.int (bI (inR x A B))) ∧ μ2 = μ) := by
  refine sw_Met.ofY (by decide) (Nat.le_of_ble_eq_true rfl) rfl ?_
  refine y_lload_n dX8_in_0 rfl rfl ?_
  refine y_lload_n dX8_in_1 rfl rfl ?_
  refine y_lcmp dX8_in_2 ?_
  refine y_if_lt 17 dX8_in_3 (by decide) (fun h3 => ?_) (fun h3 => ?_)
  · refine y_iconst dX8_in_17 ic_0 ?_
    refine y_zret dX8_in_18 rfl ?_
    refine ⟨e_b0 ?_, rfl⟩
    subst hA; subst hB
    simp only [lg_lt, lg_gt, in_lo, in_hi] at *
    grind [inR]
  · refine y_lload_n dX8_in_6 rfl rfl ?_
    refine y_lload dX8_in_7 rfl ?_
    refine y_lcmp dX8_in_9 ?_
    refine y_if_gt 17 dX8_in_10 (by decide) (fun h10 => ?_) (fun h10 => ?_)
    · refine y_iconst dX8_in_17 ic_0 ?_
      refine y_zret dX8_in_18 rfl ?_
      refine ⟨e_b0 ?_, rfl⟩
      subst hA; subst hB
      simp only [lg_lt, lg_gt, in_lo, in_hi] at *
      grind [inR]
    · refine y_iconst dX8_in_13 ic_1 ?_
      refine y_goto 18 dX8_in_14 (by decide) ?_
      refine y_zret dX8_in_18 rfl ?_
      refine ⟨e_b1 ?_, rfl⟩
      subst hA; subst hB
      simp only [lg_lt, lg_gt, in_lo, in_hi] at *
      grind [inR]

def cbN (s : Nat) : Nat := s &&& (s - 1)
set_option maxRecDepth 100000 in
theorem cb_ok : ∀ s, s < 256 → s ≠ 0 → cbN s < 256 ∧ pc (cbN s) + 1 = pc s := by decide +kernel
set_option maxRecDepth 100000 in
theorem pc_0 : ∀ s, s < 256 → pc s = 0 → s = 0 := by decide +kernel
theorem cb_I {s : Nat} (h0 : s ≠ 0) : nI s &&& (nI s - 1) = nI (cbN s) := by
  rw [show (1 : Int32) = nI 1 by decide, nI_sub (by omega), nI_and]
  rfl
def onI (x : Int32) : Int32 := nI (pc (cl x))

set_option maxRecDepth 100000 in
set_option maxHeartbeats 4000000 in
theorem kX8_ones {l : Launch} {G : GT} {μ : MemT} {s : Nat} (hs : s < 256) {x : Int32} (hx : x = nI s) : sw_Met l G yX8_ones cX8_ones 3 (some .int) (rmk 0 0) [.int x] μ (fun v μ2 => v = some (.int (onI x)) ∧ μ2 = μ) := by
  subst hx
  refine sw_Met.ofY (by decide) (Nat.le_of_ble_eq_true rfl) rfl ?_
  refine y_iconst (v := nI 0) dX8_ones_0 icn_0 ?_
  refine y_istore_n dX8_ones_1 rfl rfl (by decide) ?_
  refine y_iload_n dX8_ones_2 rfl rfl ?_
  refine y_istore_n dX8_ones_3 rfl rfl (by decide) ?_
  refine y_loop1 (fun (j : Nat) (c : Nat) => [some (.int (nI s)), some (.int (nI j)), some (.int (nI c))]) (fun (j : Nat) (c : Nat) => μ) (fun (j : Nat) (c : Nat) => c < 256 ∧ pc c + j = pc s) (pc s) (fun c hv4 => ?_) (fun j c hj hv4 ih4 => ?_) 0 (s) (Nat.zero_le _) (⟨hs, rfl⟩)
  · refine y_iload_n dX8_ones_4 rfl rfl ?_
    refine y_if_eq 20 dX8_ones_5 (by decide) (fun _ => ?_) (fun hq => absurd (by rw [pc_0 c hv4.1 (by omega)]; rfl) hq)
    refine y_iload_n dX8_ones_20 rfl rfl ?_
    refine y_iret dX8_ones_21 ?_
    exact ⟨by rw [onI, cl_n (by omega)], rfl⟩
  · refine y_iload_n dX8_ones_4 rfl rfl ?_
    refine y_if_eq 20 dX8_ones_5 (by decide) (fun hq => (by have h0 : c = 0 := (nI_eq (a := c) (b := 0) (by omega) (by decide)).mp hq; rw [h0] at hv4; have : pc 0 = 0 := rfl; omega)) (fun _ => ?_)
    refine y_iinc (v := nI (j + 1)) dX8_ones_8 rfl (nI_i1 _) rfl (by decide) ?_
    refine y_iload_n dX8_ones_11 rfl rfl ?_
    refine y_iload_n dX8_ones_12 rfl rfl ?_
    refine y_iconst dX8_ones_13 ic_1 ?_
    refine y_isub dX8_ones_14 ?_
    refine y_iand dX8_ones_15 ?_
    refine y_istore_n dX8_ones_16 rfl rfl (by decide) ?_
    refine y_goto 4 dX8_ones_17 (by decide) ?_
    have hc0 : c ≠ 0 := fun q => by rw [q] at hv4; have : pc 0 = 0 := rfl; omega
    refine y_eq (lv2 := [some (.int (nI s)), some (.int (nI (j + 1))), some (.int (nI (cbN c)))]) rfl (by rw [← cb_I hc0]; rfl) rfl (ih4 _ ?_)
    have := cb_ok c hv4.1 hc0
    exact ⟨this.1, by omega⟩

set_option maxRecDepth 100000 in
set_option maxHeartbeats 4000000 in
theorem kX8_size {l : Launch} {G : GT} {μ : MemT} {x : Int32} : sw_Met l G yX8_size cX8_size 1 (some .int) (rmk 0 0) [.int x] μ (fun v μ2 => v = some (.int (abI x)) ∧ μ2 = μ) := by
  refine sw_Met.ofY (by decide) (Nat.le_of_ble_eq_true rfl) rfl ?_
  refine y_iload_n dX8_size_0 rfl rfl ?_
  refine y_if_ge 9 dX8_size_1 (by decide) (fun h1 => ?_) (fun h1 => ?_)
  · refine y_iload_n dX8_size_9 rfl rfl ?_
    refine y_iret dX8_size_10 ?_
    exact ⟨by simp_all [-Int32.not_le, abI], rfl⟩
  · refine y_iload_n dX8_size_4 rfl rfl ?_
    refine y_ineg dX8_size_5 ?_
    refine y_goto 10 dX8_size_6 (by decide) ?_
    refine y_iret dX8_size_10 ?_
    exact ⟨by simp_all [-Int32.not_le, abI], rfl⟩

set_option maxRecDepth 100000 in
set_option maxHeartbeats 4000000 in
theorem kX8_isPerson {l : Launch} {G : GT} {μ : MemT} {x : Int32} : sw_Met l G yX8_isPerson cX8_isPerson 2 (some .boolean) (rmk 1 25) [.ref (G.2.1 58), .int x] μ (fun v μ2 => v = some (.int (bI (isP (μ 58 0) x))) ∧ μ2 = μ) := by
  refine sw_Met.ofY (by decide) (Nat.le_of_ble_eq_true rfl) rfl ?_
  refine y_iload_n dX8_isPerson_0 rfl rfl ?_
  refine y_i2l dX8_isPerson_1 ?_
  refine y_lconst dX8_isPerson_2 lc_0 ?_
  refine y_ldc2 dX8_isPerson_3 wm_cl_X8_75 ?_
  refine y_cS3 dX8_isPerson_6 meX8_in wm_ml_X8_77 (kX8_in (A := 0) (B := 7) rfl rfl) ⟨Nat.le_of_ble_eq_true rfl, Nat.le_of_ble_eq_true rfl⟩ ⟨rfl, rfl⟩ (Nat.le_of_ble_eq_true rfl) (fun v6 μ6 hp6 => ?_)
  obtain ⟨rfl, he6⟩ := hp6
  replace he6 := he6.symm
  subst he6
  refine y_ri ?_
  refine y_ifb_eq 28 dX8_isPerson_9 (by decide) (fun h9 => ?_) (fun h9 => ?_)
  · refine y_iconst dX8_isPerson_28 ic_0 ?_
    refine y_zret dX8_isPerson_29 rfl ?_
    refine ⟨e_b0 ?_, rfl⟩
    simp_all [isP, bitI]
  · refine y_aload_n dX8_isPerson_12 rfl rfl ?_
    refine y_geti dX8_isPerson_13 0 clX8 kd_58 (by decide) wm_fl_X8_81 rfl rfl ?_
    refine y_iload_n dX8_isPerson_16 rfl rfl ?_
    refine y_ishr dX8_isPerson_17 ?_
    refine y_iconst dX8_isPerson_18 ic_1 ?_
    refine y_iand dX8_isPerson_19 ?_
    refine y_iconst dX8_isPerson_20 ic_1 ?_
    refine y_icmp_ne 28 dX8_isPerson_21 (by decide) (fun h21 => ?_) (fun h21 => ?_)
    · refine y_iconst dX8_isPerson_28 ic_0 ?_
      refine y_zret dX8_isPerson_29 rfl ?_
      refine ⟨e_b0 ?_, rfl⟩
      simp_all [isP, bitI]
    · refine y_iconst dX8_isPerson_24 ic_1 ?_
      refine y_goto 29 dX8_isPerson_25 (by decide) ?_
      refine y_zret dX8_isPerson_29 rfl ?_
      refine ⟨e_b1 ?_, rfl⟩
      simp_all [isP, bitI]

set_option maxRecDepth 100000 in
set_option maxHeartbeats 4000000 in
theorem kX8_areTwo {l : Launch} {G : GT} {μ : MemT} {x y : Int32} : sw_Met l G yX8_areTwo cX8_areTwo 3 (some .boolean) (rmk 2 46) [.ref (G.2.1 58), .int x, .int y] μ (fun v μ2 => v = some (.int (bI (isP (μ 58 0) x && isP (μ 58 0) y && !decide (x = y)))) ∧ μ2 = μ) := by
  refine sw_Met.ofY (by decide) (Nat.le_of_ble_eq_true rfl) rfl ?_
  refine y_aload_n dX8_areTwo_0 rfl rfl ?_
  refine y_iload_n dX8_areTwo_1 rfl rfl ?_
  refine y_cV1 dX8_areTwo_2 meX8_isPerson clX8 kd_58 wm_ml_X8_84 (kX8_isPerson) ⟨Nat.le_of_ble_eq_true rfl, Nat.le_of_ble_eq_true rfl⟩ ⟨rfl, rfl⟩ (Nat.le_of_ble_eq_true rfl) (fun v2 μ2 hp2 => ?_)
  obtain ⟨rfl, he2⟩ := hp2
  replace he2 := he2.symm
  subst he2
  refine y_ri ?_
  refine y_ifb_eq 25 dX8_areTwo_5 (by decide) (fun h5 => ?_) (fun h5 => ?_)
  · refine y_iconst dX8_areTwo_25 ic_0 ?_
    refine y_zret dX8_areTwo_26 rfl ?_
    refine ⟨e_b0 ?_, rfl⟩
    simp [*]
  · refine y_aload_n dX8_areTwo_8 rfl rfl ?_
    refine y_iload_n dX8_areTwo_9 rfl rfl ?_
    refine y_cV1 dX8_areTwo_10 meX8_isPerson clX8 kd_58 wm_ml_X8_84 (kX8_isPerson) ⟨Nat.le_of_ble_eq_true rfl, Nat.le_of_ble_eq_true rfl⟩ ⟨rfl, rfl⟩ (Nat.le_of_ble_eq_true rfl) (fun v10 μ10 hp10 => ?_)
    obtain ⟨rfl, he10⟩ := hp10
    replace he10 := he10.symm
    subst he10
    refine y_ri ?_
    refine y_ifb_eq 25 dX8_areTwo_13 (by decide) (fun h13 => ?_) (fun h13 => ?_)
    · refine y_iconst dX8_areTwo_25 ic_0 ?_
      refine y_zret dX8_areTwo_26 rfl ?_
      refine ⟨e_b0 ?_, rfl⟩
      simp [*]
    · refine y_iload_n dX8_areTwo_16 rfl rfl ?_
      refine y_iload_n dX8_areTwo_17 rfl rfl ?_
      refine y_icmp_eq 25 dX8_areTwo_18 (by decide) (fun h18 => ?_) (fun h18 => ?_)
      · refine y_iconst dX8_areTwo_25 ic_0 ?_
        refine y_zret dX8_areTwo_26 rfl ?_
        refine ⟨e_b0 ?_, rfl⟩
        simp [*]
      · refine y_iconst dX8_areTwo_21 ic_1 ?_
        refine y_goto 26 dX8_areTwo_22 (by decide) ?_
        refine y_zret dX8_areTwo_26 rfl ?_
        refine ⟨e_b1 ?_, rfl⟩
        simp [*]

set_option maxRecDepth 100000 in
set_option maxHeartbeats 4000000 in
theorem kX8_pounds {l : Launch} {G : GT} {μ : MemT} {p : Nat} (hp : p < 8) : sw_Met l G yX8_pounds cX8_pounds 2 (some .int) (rmk 0 0) [.ref (G.2.1 58), .int (nI p)] μ (fun v μ2 => v = some (.int (wc (μ 58 1) (nI p) (μ 60 p))) ∧ μ2 = μ) := by
  refine sw_Met.ofY (by decide) (Nat.le_of_ble_eq_true rfl) rfl ?_
  refine y_aload_n dX8_pounds_0 rfl rfl ?_
  refine y_getr dX8_pounds_1 5 clX8 kd_58 (by decide) wm_fl_X8_13 rfl rfl ?_
  refine y_iload_n dX8_pounds_4 rfl rfl ?_
  refine y_iald dX8_pounds_5 p kd_60 rfl (by first | assumption | decide | omega) (by decide) ?_
  refine y_aload_n dX8_pounds_6 rfl rfl ?_
  refine y_geti dX8_pounds_7 1 clX8 kd_58 (by decide) wm_fl_X8_88 rfl rfl ?_
  refine y_iload_n dX8_pounds_10 rfl rfl ?_
  refine y_ishr dX8_pounds_11 ?_
  refine y_iconst dX8_pounds_12 ic_1 ?_
  refine y_iand dX8_pounds_13 ?_
  refine y_iconst dX8_pounds_14 ic_1 ?_
  refine y_icmp_ne 30 dX8_pounds_15 (by decide) (fun h15 => ?_) (fun h15 => ?_)
  · refine y_iconst dX8_pounds_30 ic_0 ?_
    refine y_isub dX8_pounds_31 ?_
    refine y_iret dX8_pounds_32 ?_
    exact ⟨by simp_all [wc, bitI], rfl⟩
  · refine y_aload_n dX8_pounds_18 rfl rfl ?_
    refine y_getr dX8_pounds_19 5 clX8 kd_58 (by decide) wm_fl_X8_13 rfl rfl ?_
    refine y_iload_n dX8_pounds_22 rfl rfl ?_
    refine y_iald dX8_pounds_23 p kd_60 rfl (by first | assumption | decide | omega) (by decide) ?_
    refine y_bipush dX8_pounds_24 ib_10 ?_
    refine y_idiv dX8_pounds_26 (by decide) ?_
    refine y_goto 31 dX8_pounds_27 (by decide) ?_
    refine y_isub dX8_pounds_31 ?_
    refine y_iret dX8_pounds_32 ?_
    exact ⟨by simp_all [wc, bitI], rfl⟩

def ptM (p : Nat) (sp : Nat → Int32) : Nat → Int32 := upd (if sp p < 0 then sp else upd sp (cl (sp p)) (-6)) p (-6)
def okM (sp : Nat → Int32) : Prop := ∀ p, p < 8 → sp p < 0 ∨ ∃ q, q < 8 ∧ sp p = nI q
theorem okM_ix {sp : Nat → Int32} {p : Nat} (h : okM sp) (hp : p < 8) (hn : ¬ sp p < 0) : sp p = nI (cl (sp p)) ∧ cl (sp p) < 8 := by
  rcases h p hp with q | ⟨q, h1, h2⟩
  · exact absurd q hn
  · rw [h2, cl_8 h1]; exact ⟨rfl, h1⟩
def mPerson (p s w d : Int32) (μ : MemT) : Int32 × MemT := if inR p 0 7 = false then (-1, μ) else if (inR s 1 200 && (inR w 1 400 && inR d (-9) 9)) = false then (-2, μ) else (onI (μ 58 0 ||| 1 <<< (nI (cl p) &&& 31)), mset (mset (mset (mset μ 59 (upd (μ 59) (cl p) s)) 60 (upd (μ 60) (cl p) w)) 61 (upd (μ 61) (cl p) d)) 58 (upd (upd (μ 58) 0 (μ 58 0 ||| 1 <<< (nI (cl p) &&& 31))) 1 (μ 58 1 &&& (1 <<< (nI (cl p) &&& 31) ^^^ -1))))
def mPart (p : Nat) (μ : MemT) : MemT := mset μ 62 (ptM p (μ 62))
def mLeave (p : Int32) (μ : MemT) : Int32 × MemT := if isP (μ 58 0) p then (onI (μ 58 0 &&& (1 <<< (nI (cl p) &&& 31) ^^^ -1)), mset (mPart (cl p) μ) 58 (upd (upd (μ 58) 0 (μ 58 0 &&& (1 <<< (nI (cl p) &&& 31) ^^^ -1))) 1 (μ 58 1 &&& (1 <<< (nI (cl p) &&& 31) ^^^ -1)))) else (-1, μ)
def marM (sp : Nat → Int32) : Int32 := itr (fun p s => if sp p ≤ nI p then s else s + 1) 8 0 0
def mJoin (p q : Nat) (B : Bool) (μ : MemT) : MemT := mset μ 62 (upd (upd (ptM p (μ 62)) p (if B then nI q else -6)) q (if B then nI p else -6))
def mMarry (p q : Int32) (B : Bool) (μ : MemT) : Int32 × MemT := if (isP (μ 58 0) p && isP (μ 58 0) q && !decide (p = q)) = false then (-1, μ) else if ¬ μ 62 (cl p) = q ∧ (B = false ∨ (0 ≤ μ 62 (cl p) ∨ 0 ≤ μ 62 (cl q))) then (-3, μ) else (marM (mJoin (cl p) (cl q) B μ 62), mJoin (cl p) (cl q) B μ)
def mLimit (x : Int32) (μ : MemT) : Int32 × MemT := if inR x 0 99 then (μ 58 2, mset μ 58 (upd (μ 58) 2 x)) else (-2, μ)
def mSay (k : Nat) (x : Int32) (μ : MemT) : Int32 × MemT := if inR x 33 126 then (if k = 60 then (-4, μ) else (nI (k + 1), mset (mset μ 66 (upd (μ 66) k x)) 58 (upd (μ 58) 13 (nI (k + 1))))) else (-2, μ)
def mWipe (μ : MemT) : Int32 × MemT := (μ 58 13, mset μ 58 (upd (μ 58) 13 0))
theorem or2_lt {t p : Nat} (ht : t < 256) (hp : p < 8) : t ||| 2 ^ p < 256 := Nat.or_lt_two_pow (n := 8) ht (Nat.pow_lt_pow_right (by decide) hp)
theorem or2_I {t p : Nat} (hp : p < 8) : nI t ||| 1 <<< (nI p &&& 31) = nI (t ||| 2 ^ p) := by rw [mk_shl p hp, nI_or]
theorem of2_I {t p : Nat} (ht : t < 256) (hp : p < 8) : nI t &&& (1 <<< (nI p &&& 31) ^^^ -1) = nI (offN t (2 ^ p)) ∧ offN t (2 ^ p) < 256 := by
  rw [mk_shl p hp]
  exact mk_off t ht (2 ^ p) (Nat.pow_lt_pow_right (n := 8) (by decide) hp)

set_option maxRecDepth 100000 in
set_option maxHeartbeats 4000000 in
theorem kX8_person {l : Launch} {G : GT} {μ : MemT} {t : Nat} (ht : t < 256) (hth : μ 58 0 = nI t) {x s w d : Int32} : sw_Met l G yX8_person cX8_person 5 (some .int) (rmk 1 25) [.ref (G.2.1 58), .int x, .int s, .int w, .int d] μ (fun v μ2 => v = some (.int (mPerson x s w d μ).1) ∧ μ2 = (mPerson x s w d μ).2) := by
  refine sw_Met.ofY (by decide) (Nat.le_of_ble_eq_true rfl) rfl ?_
  refine y_iload_n dX8_person_0 rfl rfl ?_
  refine y_i2l dX8_person_1 ?_
  refine y_lconst dX8_person_2 lc_0 ?_
  refine y_ldc2 dX8_person_3 wm_cl_X8_75 ?_
  refine y_cS3 dX8_person_6 meX8_in wm_ml_X8_77 (kX8_in (A := 0) (B := 7) rfl rfl) ⟨Nat.le_of_ble_eq_true rfl, Nat.le_of_ble_eq_true rfl⟩ ⟨rfl, rfl⟩ (Nat.le_of_ble_eq_true rfl) (fun v6 μ6 hp6 => ?_)
  obtain ⟨rfl, he6⟩ := hp6
  replace he6 := he6.symm
  subst he6
  refine y_ri ?_
  refine y_ifb_ne 14 dX8_person_9 (by decide) (fun h9 => ?_) (fun h9 => ?_)
  · obtain ⟨p, hp7, rfl⟩ := inR_ex (n := 7) h9
    have hp8 : p < 8 := by omega
    refine y_iload_n dX8_person_14 rfl rfl ?_
    refine y_i2l dX8_person_15 ?_
    refine y_lconst dX8_person_16 lc_1 ?_
    refine y_ldc2 dX8_person_17 wm_cl_X8_91 ?_
    refine y_cS3 dX8_person_20 meX8_in wm_ml_X8_77 (kX8_in (A := 1) (B := 200) rfl rfl) ⟨Nat.le_of_ble_eq_true rfl, Nat.le_of_ble_eq_true rfl⟩ ⟨rfl, rfl⟩ (Nat.le_of_ble_eq_true rfl) (fun v20 μ20 hp20 => ?_)
    obtain ⟨rfl, he20⟩ := hp20
    replace he20 := he20.symm
    subst he20
    refine y_ri ?_
    refine y_ifb_eq 53 dX8_person_23 (by decide) (fun h23 => ?_) (fun h23 => ?_)
    · refine y_bipush dX8_person_53 ib_m2 ?_
      refine y_iret dX8_person_55 ?_
      constructor <;> simp_all [mPerson]
    · refine y_iload_n dX8_person_26 rfl rfl ?_
      refine y_i2l dX8_person_27 ?_
      refine y_lconst dX8_person_28 lc_1 ?_
      refine y_ldc2 dX8_person_29 wm_cl_X8_93 ?_
      refine y_cS3 dX8_person_32 meX8_in wm_ml_X8_77 (kX8_in (A := 1) (B := 400) rfl rfl) ⟨Nat.le_of_ble_eq_true rfl, Nat.le_of_ble_eq_true rfl⟩ ⟨rfl, rfl⟩ (Nat.le_of_ble_eq_true rfl) (fun v32 μ32 hp32 => ?_)
      obtain ⟨rfl, he32⟩ := hp32
      replace he32 := he32.symm
      subst he32
      refine y_ri ?_
      refine y_ifb_eq 53 dX8_person_35 (by decide) (fun h35 => ?_) (fun h35 => ?_)
      · refine y_bipush dX8_person_53 ib_m2 ?_
        refine y_iret dX8_person_55 ?_
        constructor <;> simp_all [mPerson]
      · refine y_iload dX8_person_38 rfl ?_
        refine y_i2l dX8_person_40 ?_
        refine y_ldc2 dX8_person_41 wm_cl_X8_95 ?_
        refine y_ldc2 dX8_person_44 wm_cl_X8_97 ?_
        refine y_cS3 dX8_person_47 meX8_in wm_ml_X8_77 (kX8_in (A := -9) (B := 9) rfl rfl) ⟨Nat.le_of_ble_eq_true rfl, Nat.le_of_ble_eq_true rfl⟩ ⟨rfl, rfl⟩ (Nat.le_of_ble_eq_true rfl) (fun v47 μ47 hp47 => ?_)
        obtain ⟨rfl, he47⟩ := hp47
        replace he47 := he47.symm
        subst he47
        refine y_ri ?_
        refine y_ifb_ne 56 dX8_person_50 (by decide) (fun h50 => ?_) (fun h50 => ?_)
        · refine y_aload_n dX8_person_56 rfl rfl ?_
          refine y_getr dX8_person_57 4 clX8 kd_58 (by decide) wm_fl_X8_7 rfl rfl ?_
          refine y_iload_n dX8_person_60 rfl rfl ?_
          refine y_iload_n dX8_person_61 rfl rfl ?_
          refine y_iast dX8_person_62 p kd_59 rfl (by omega) (by decide) ?_
          refine y_aload_n dX8_person_63 rfl rfl ?_
          refine y_getr dX8_person_64 5 clX8 kd_58 (by decide) wm_fl_X8_13 rfl rfl ?_
          refine y_iload_n dX8_person_67 rfl rfl ?_
          refine y_iload_n dX8_person_68 rfl rfl ?_
          refine y_iast dX8_person_69 p kd_60 rfl (by omega) (by decide) ?_
          refine y_aload_n dX8_person_70 rfl rfl ?_
          refine y_getr dX8_person_71 6 clX8 kd_58 (by decide) wm_fl_X8_16 rfl rfl ?_
          refine y_iload_n dX8_person_74 rfl rfl ?_
          refine y_iload dX8_person_75 rfl ?_
          refine y_iast dX8_person_77 p kd_61 rfl (by omega) (by decide) ?_
          refine y_aload_n dX8_person_78 rfl rfl ?_
          refine y_dup dX8_person_79 rfl ?_
          refine y_geti dX8_person_80 0 clX8 kd_58 (by decide) wm_fl_X8_81 rfl rfl ?_
          refine y_iconst dX8_person_83 ic_1 ?_
          refine y_iload_n dX8_person_84 rfl rfl ?_
          refine y_ishl dX8_person_85 ?_
          refine y_ior dX8_person_86 ?_
          refine y_puti dX8_person_87 0 clX8 kd_58 (by decide) wm_fl_X8_81 rfl rfl rfl rfl (tyX8_ok 0 (by decide)) rfl rfl ?_
          refine y_aload_n dX8_person_90 rfl rfl ?_
          refine y_dup dX8_person_91 rfl ?_
          refine y_geti dX8_person_92 1 clX8 kd_58 (by decide) wm_fl_X8_88 rfl rfl ?_
          refine y_iconst dX8_person_95 ic_1 ?_
          refine y_iload_n dX8_person_96 rfl rfl ?_
          refine y_ishl dX8_person_97 ?_
          refine y_iconst dX8_person_98 ic_m1 ?_
          refine y_ixor dX8_person_99 ?_
          refine y_iand dX8_person_100 ?_
          refine y_puti dX8_person_101 1 clX8 kd_58 (by decide) wm_fl_X8_88 rfl rfl rfl rfl (tyX8_ok 1 (by decide)) rfl rfl ?_
          refine y_aload_n dX8_person_104 rfl rfl ?_
          refine y_geti dX8_person_105 0 clX8 kd_58 (by decide) wm_fl_X8_81 rfl rfl ?_
          refine y_cS1 dX8_person_108 meX8_ones wm_ml_X8_99 (kX8_ones (or2_lt ht hp8) ((congrArg (fun q => q ||| 1 <<< (nI p &&& 31)) hth).trans (or2_I hp8))) ⟨Nat.le_of_ble_eq_true rfl, Nat.le_of_ble_eq_true rfl⟩ ⟨rfl, rfl⟩ (Nat.le_of_ble_eq_true rfl) (fun v108 μ108 hp108 => ?_)
          obtain ⟨rfl, he108⟩ := hp108
          replace he108 := he108.symm
          subst he108
          refine y_ri ?_
          refine y_iret dX8_person_111 ?_
          constructor <;> simp_all [mPerson, cl_8, mset_mset, mset, upd]
        · refine y_bipush dX8_person_53 ib_m2 ?_
          refine y_iret dX8_person_55 ?_
          constructor <;> simp_all [mPerson]
  · refine y_iconst dX8_person_12 ic_m1 ?_
    refine y_iret dX8_person_13 ?_
    exact ⟨by simp [mPerson, h9], by simp [mPerson, h9]⟩

set_option maxRecDepth 100000 in
set_option maxHeartbeats 4000000 in
theorem kX8_part {l : Launch} {G : GT} {μ : MemT} {p : Nat} (hp : p < 8) (hok : okM (μ 62)) : sw_Met l G yX8_part cX8_part 2 none (rmk 0 0) [.ref (G.2.1 58), .int (nI p)] μ (fun v μ2 => v = none ∧ μ2 = mPart p μ) := by
  refine sw_Met.ofY (by decide) (Nat.le_of_ble_eq_true rfl) rfl ?_
  refine y_aload_n dX8_part_0 rfl rfl ?_
  refine y_getr dX8_part_1 7 clX8 kd_58 (by decide) wm_fl_X8_19 rfl rfl ?_
  refine y_iload_n dX8_part_4 rfl rfl ?_
  refine y_iald dX8_part_5 p kd_62 rfl (by first | assumption | decide | omega) (by decide) ?_
  refine y_if_lt 22 dX8_part_6 (by decide) (fun h6 => ?_) (fun h6 => ?_)
  · refine y_aload_n dX8_part_22 rfl rfl ?_
    refine y_getr dX8_part_23 7 clX8 kd_58 (by decide) wm_fl_X8_19 rfl rfl ?_
    refine y_iload_n dX8_part_26 rfl rfl ?_
    refine y_bipush dX8_part_27 ib_m6 ?_
    refine y_iast dX8_part_29 p kd_62 rfl (by first | assumption | decide | omega) (by decide) ?_
    refine y_vret dX8_part_30 ?_
    exact ⟨rfl, by simp_all [-Int32.not_lt, mPart, ptM, mset_mset, mset]⟩
  · refine y_aload_n dX8_part_9 rfl rfl ?_
    refine y_getr dX8_part_10 7 clX8 kd_58 (by decide) wm_fl_X8_19 rfl rfl ?_
    refine y_aload_n dX8_part_13 rfl rfl ?_
    refine y_getr dX8_part_14 7 clX8 kd_58 (by decide) wm_fl_X8_19 rfl rfl ?_
    refine y_iload_n dX8_part_17 rfl rfl ?_
    refine y_iald dX8_part_18 p kd_62 rfl (by first | assumption | decide | omega) (by decide) ?_
    refine y_bipush dX8_part_19 ib_m6 ?_
    refine y_iast dX8_part_21 (cl (μ 62 p)) kd_62 (okM_ix hok hp h6).1 (okM_ix hok hp h6).2 (by decide) ?_
    refine y_aload_n dX8_part_22 rfl rfl ?_
    refine y_getr dX8_part_23 7 clX8 kd_58 (by decide) wm_fl_X8_19 rfl rfl ?_
    refine y_iload_n dX8_part_26 rfl rfl ?_
    refine y_bipush dX8_part_27 ib_m6 ?_
    refine y_iast dX8_part_29 p kd_62 rfl (by first | assumption | decide | omega) (by decide) ?_
    refine y_vret dX8_part_30 ?_
    exact ⟨rfl, by simp_all [-Int32.not_lt, mPart, ptM, mset_mset, mset]⟩

set_option maxRecDepth 100000 in
set_option maxHeartbeats 4000000 in
theorem kX8_leave {l : Launch} {G : GT} {μ : MemT} {t : Nat} (ht : t < 256) (hth : μ 58 0 = nI t) (hok : okM (μ 62)) {x : Int32} : sw_Met l G yX8_leave cX8_leave 2 (some .int) (rmk 2 46) [.ref (G.2.1 58), .int x] μ (fun v μ2 => v = some (.int (mLeave x μ).1) ∧ μ2 = (mLeave x μ).2) := by
  refine sw_Met.ofY (by decide) (Nat.le_of_ble_eq_true rfl) rfl ?_
  refine y_aload_n dX8_leave_0 rfl rfl ?_
  refine y_iload_n dX8_leave_1 rfl rfl ?_
  refine y_cV1 dX8_leave_2 meX8_isPerson clX8 kd_58 wm_ml_X8_84 (kX8_isPerson) ⟨Nat.le_of_ble_eq_true rfl, Nat.le_of_ble_eq_true rfl⟩ ⟨rfl, rfl⟩ (Nat.le_of_ble_eq_true rfl) (fun v2 μ2 hp2 => ?_)
  obtain ⟨rfl, he2⟩ := hp2
  replace he2 := he2.symm
  subst he2
  refine y_ri ?_
  refine y_ifb_ne 10 dX8_leave_5 (by decide) (fun h5 => ?_) (fun h5 => ?_)
  · obtain ⟨p, hp8, rfl, hpb⟩ := isP_ex h5
    refine y_aload_n dX8_leave_10 rfl rfl ?_
    refine y_iload_n dX8_leave_11 rfl rfl ?_
    refine y_cV1 dX8_leave_12 meX8_part clX8 kd_58 wm_ml_X8_103 (kX8_part hp8 hok) ⟨Nat.le_of_ble_eq_true rfl, Nat.le_of_ble_eq_true rfl⟩ ⟨rfl, rfl⟩ (Nat.le_of_ble_eq_true rfl) (fun v12 μ12 hp12 => ?_)
    obtain ⟨rfl, he12⟩ := hp12
    replace he12 := he12.symm
    subst he12
    refine y_rv ?_
    refine y_aload_n dX8_leave_15 rfl rfl ?_
    refine y_dup dX8_leave_16 rfl ?_
    refine y_geti dX8_leave_17 0 clX8 kd_58 (by decide) wm_fl_X8_81 rfl rfl ?_
    refine y_iconst dX8_leave_20 ic_1 ?_
    refine y_iload_n dX8_leave_21 rfl rfl ?_
    refine y_ishl dX8_leave_22 ?_
    refine y_iconst dX8_leave_23 ic_m1 ?_
    refine y_ixor dX8_leave_24 ?_
    refine y_iand dX8_leave_25 ?_
    refine y_puti dX8_leave_26 0 clX8 kd_58 (by decide) wm_fl_X8_81 rfl rfl rfl rfl (tyX8_ok 0 (by decide)) rfl rfl ?_
    refine y_aload_n dX8_leave_29 rfl rfl ?_
    refine y_dup dX8_leave_30 rfl ?_
    refine y_geti dX8_leave_31 1 clX8 kd_58 (by decide) wm_fl_X8_88 rfl rfl ?_
    refine y_iconst dX8_leave_34 ic_1 ?_
    refine y_iload_n dX8_leave_35 rfl rfl ?_
    refine y_ishl dX8_leave_36 ?_
    refine y_iconst dX8_leave_37 ic_m1 ?_
    refine y_ixor dX8_leave_38 ?_
    refine y_iand dX8_leave_39 ?_
    refine y_puti dX8_leave_40 1 clX8 kd_58 (by decide) wm_fl_X8_88 rfl rfl rfl rfl (tyX8_ok 1 (by decide)) rfl rfl ?_
    refine y_aload_n dX8_leave_43 rfl rfl ?_
    refine y_geti dX8_leave_44 0 clX8 kd_58 (by decide) wm_fl_X8_81 rfl rfl ?_
    refine y_cS1 dX8_leave_47 meX8_ones wm_ml_X8_99 (kX8_ones (of2_I ht hp8).2 ((congrArg (fun q => q &&& (1 <<< (nI p &&& 31) ^^^ -1)) hth).trans (of2_I ht hp8).1)) ⟨Nat.le_of_ble_eq_true rfl, Nat.le_of_ble_eq_true rfl⟩ ⟨rfl, rfl⟩ (Nat.le_of_ble_eq_true rfl) (fun v47 μ47 hp47 => ?_)
    obtain ⟨rfl, he47⟩ := hp47
    replace he47 := he47.symm
    subst he47
    refine y_ri ?_
    refine y_iret dX8_leave_50 ?_
    constructor <;> simp_all [mLeave, cl_8, isP_n, mPart, mset_mset, mset, upd]
  · refine y_iconst dX8_leave_8 ic_m1 ?_
    refine y_iret dX8_leave_9 ?_
    constructor <;> simp_all [mLeave, cl_8, isP_n, mPart, mset_mset, mset, upd]

set_option maxRecDepth 100000 in
set_option maxHeartbeats 4000000 in
theorem kX8_marriages {l : Launch} {G : GT} {μ : MemT}  : sw_Met l G yX8_marriages cX8_marriages 3 (some .int) (rmk 0 0) [.ref (G.2.1 58)] μ (fun v μ2 => v = some (.int (marM (μ 62))) ∧ μ2 = μ) := by
  refine sw_Met.ofY (by decide) (Nat.le_of_ble_eq_true rfl) rfl ?_
  refine y_iconst dX8_marriages_0 ic_0 ?_
  refine y_istore_n dX8_marriages_1 rfl rfl (by decide) ?_
  refine y_iconst (v := nI 0) dX8_marriages_2 icn_0 ?_
  refine y_istore_n dX8_marriages_3 rfl rfl (by decide) ?_
  refine y_loop1 (fun (j : Nat) (a : Int32) => [some (.ref (G.2.1 58)), some (.int a), some (.int (nI j))]) (fun (j : Nat) (a : Int32) => μ) (fun (j : Nat) (a : Int32) => itr (fun p s => if μ 62 p ≤ nI p then s else s + 1) (8 - j) j a = itr (fun p s => if μ 62 p ≤ nI p then s else s + 1) 8 0 (0)) 8 (fun a hv4 => ?_) (fun j a hj hv4 ih4 => ?_) 0 (0) (Nat.zero_le _) (rfl)
  · refine y_iload_n dX8_marriages_4 rfl rfl ?_
    refine y_bipush dX8_marriages_5 ib_8 ?_
    refine y_icmp_ge 34 dX8_marriages_7 (by decide) (fun _ => ?_) (fun hq => absurd (by decide) hq)
    refine y_iload_n dX8_marriages_34 rfl rfl ?_
    refine y_iret dX8_marriages_35 ?_
    exact ⟨by rw [itr_ex hv4]; rfl, rfl⟩
  · refine y_iload_n dX8_marriages_4 rfl rfl ?_
    refine y_bipush dX8_marriages_5 ib_8 ?_
    refine y_icmp_ge 34 dX8_marriages_7 (by decide) (fun hq => absurd hq (nI_ge (b := 8) hj (by decide))) (fun _ => ?_)
    refine y_iload_n dX8_marriages_10 rfl rfl ?_
    refine y_aload_n dX8_marriages_11 rfl rfl ?_
    refine y_getr dX8_marriages_12 7 clX8 kd_58 (by decide) wm_fl_X8_19 rfl rfl ?_
    refine y_iload_n dX8_marriages_15 rfl rfl ?_
    refine y_iald dX8_marriages_16 j kd_62 rfl (by first | assumption | decide | omega) (by decide) ?_
    refine y_iload_n dX8_marriages_17 rfl rfl ?_
    refine y_icmp_le 25 dX8_marriages_18 (by decide) (fun h18 => ?_) (fun h18 => ?_)
    · refine y_iconst dX8_marriages_25 ic_0 ?_
      refine y_iadd dX8_marriages_26 ?_
      refine y_istore_n dX8_marriages_27 rfl rfl (by decide) ?_
      refine y_iinc (v := nI (j + 1)) dX8_marriages_28 rfl (nI_i1 _) rfl (by decide) ?_
      refine y_goto 4 dX8_marriages_31 (by decide) ?_
      exact ih4 _ (itr_nx hj hv4 (by clear ih4 hv4; simp_all [-Int32.not_le]))
    · refine y_iconst dX8_marriages_21 ic_1 ?_
      refine y_goto 26 dX8_marriages_22 (by decide) ?_
      refine y_iadd dX8_marriages_26 ?_
      refine y_istore_n dX8_marriages_27 rfl rfl (by decide) ?_
      refine y_iinc (v := nI (j + 1)) dX8_marriages_28 rfl (nI_i1 _) rfl (by decide) ?_
      refine y_goto 4 dX8_marriages_31 (by decide) ?_
      exact ih4 _ (itr_nx hj hv4 (by clear ih4 hv4; simp_all [-Int32.not_le]))

set_option maxRecDepth 100000 in
set_option maxHeartbeats 4000000 in
theorem kX8_marry {l : Launch} {G : GT} {μ : MemT} (hok : okM (μ 62)) {x y : Int32} {B : Bool} : sw_Met l G yX8_marry cX8_marry 6 (some .int) (rmk 3 68) [.ref (G.2.1 58), .int x, .int y, .int (bI B)] μ (fun v μ2 => v = some (.int (mMarry x y B μ).1) ∧ μ2 = (mMarry x y B μ).2) := by
  refine sw_Met.ofY (by decide) (Nat.le_of_ble_eq_true rfl) rfl ?_
  refine y_aload_n dX8_marry_0 rfl rfl ?_
  refine y_iload_n dX8_marry_1 rfl rfl ?_
  refine y_iload_n dX8_marry_2 rfl rfl ?_
  refine y_cV2 dX8_marry_3 meX8_areTwo clX8 kd_58 wm_ml_X8_107 (kX8_areTwo) ⟨Nat.le_of_ble_eq_true rfl, Nat.le_of_ble_eq_true rfl⟩ ⟨rfl, rfl⟩ (Nat.le_of_ble_eq_true rfl) (fun v3 μ3 hp3 => ?_)
  obtain ⟨rfl, he3⟩ := hp3
  replace he3 := he3.symm
  subst he3
  refine y_ri ?_
  refine y_ifb_ne 11 dX8_marry_6 (by decide) (fun h6 => ?_) (fun h6 => ?_)
  · simp only [Bool.and_eq_true, Bool.not_eq_true', decide_eq_false_iff_not] at h6
    obtain ⟨⟨hx1, hx2⟩, hx3⟩ := h6
    obtain ⟨p, hp8, rfl, hpb⟩ := isP_ex hx1
    obtain ⟨q, hq8, rfl, hqb⟩ := isP_ex hx2
    refine y_aload_n dX8_marry_11 rfl rfl ?_
    refine y_getr dX8_marry_12 7 clX8 kd_58 (by decide) wm_fl_X8_19 rfl rfl ?_
    refine y_iload_n dX8_marry_15 rfl rfl ?_
    refine y_iald dX8_marry_16 p kd_62 rfl (by first | assumption | decide | omega) (by decide) ?_
    refine y_iload_n dX8_marry_17 rfl rfl ?_
    refine y_icmp_ne 25 dX8_marry_18 (by decide) (fun h18 => ?_) (fun h18 => ?_)
    · refine y_iconst dX8_marry_25 ic_0 ?_
      refine y_istore dX8_marry_26 rfl (by decide) ?_
      refine y_aload_n dX8_marry_28 rfl rfl ?_
      refine y_getr dX8_marry_29 7 clX8 kd_58 (by decide) wm_fl_X8_19 rfl rfl ?_
      refine y_iload_n dX8_marry_32 rfl rfl ?_
      refine y_iald dX8_marry_33 p kd_62 rfl (by first | assumption | decide | omega) (by decide) ?_
      refine y_if_ge 50 dX8_marry_34 (by decide) (fun h34 => ?_) (fun h34 => ?_)
      · refine y_iconst dX8_marry_50 ic_0 ?_
        refine y_istore dX8_marry_51 rfl (by decide) ?_
        refine y_iload dX8_marry_53 rfl ?_
        refine y_if_ne 70 dX8_marry_55 (by decide) (fun hq => absurd hq (by decide)) (fun _ => ?_)
        refine y_iload_n dX8_marry_58 rfl rfl ?_
        refine y_ifb_eq 67 dX8_marry_59 (by decide) (fun h59 => ?_) (fun h59 => ?_)
        · refine y_bipush dX8_marry_67 ib_m3 ?_
          refine y_iret dX8_marry_69 ?_
          constructor <;> simp_all [-Int32.not_lt, -Int32.not_le, mMarry, mJoin, mPart, cl_8, isP_n, mset_mset, mset]
        · refine y_iload dX8_marry_62 rfl ?_
          refine y_if_ne 70 dX8_marry_64 (by decide) (fun hq => absurd hq (by decide)) (fun _ => ?_)
          refine y_bipush dX8_marry_67 ib_m3 ?_
          refine y_iret dX8_marry_69 ?_
          constructor <;> simp_all [-Int32.not_lt, -Int32.not_le, mMarry, mJoin, mPart, cl_8, isP_n, mset_mset, mset]
      · refine y_aload_n dX8_marry_37 rfl rfl ?_
        refine y_getr dX8_marry_38 7 clX8 kd_58 (by decide) wm_fl_X8_19 rfl rfl ?_
        refine y_iload_n dX8_marry_41 rfl rfl ?_
        refine y_iald dX8_marry_42 q kd_62 rfl (by first | assumption | decide | omega) (by decide) ?_
        refine y_if_ge 50 dX8_marry_43 (by decide) (fun h43 => ?_) (fun h43 => ?_)
        · refine y_iconst dX8_marry_50 ic_0 ?_
          refine y_istore dX8_marry_51 rfl (by decide) ?_
          refine y_iload dX8_marry_53 rfl ?_
          refine y_if_ne 70 dX8_marry_55 (by decide) (fun hq => absurd hq (by decide)) (fun _ => ?_)
          refine y_iload_n dX8_marry_58 rfl rfl ?_
          refine y_ifb_eq 67 dX8_marry_59 (by decide) (fun h59 => ?_) (fun h59 => ?_)
          · refine y_bipush dX8_marry_67 ib_m3 ?_
            refine y_iret dX8_marry_69 ?_
            constructor <;> simp_all [-Int32.not_lt, -Int32.not_le, mMarry, mJoin, mPart, cl_8, isP_n, mset_mset, mset]
          · refine y_iload dX8_marry_62 rfl ?_
            refine y_if_ne 70 dX8_marry_64 (by decide) (fun hq => absurd hq (by decide)) (fun _ => ?_)
            refine y_bipush dX8_marry_67 ib_m3 ?_
            refine y_iret dX8_marry_69 ?_
            constructor <;> simp_all [-Int32.not_lt, -Int32.not_le, mMarry, mJoin, mPart, cl_8, isP_n, mset_mset, mset]
        · refine y_iconst dX8_marry_46 ic_1 ?_
          refine y_goto 51 dX8_marry_47 (by decide) ?_
          refine y_istore dX8_marry_51 rfl (by decide) ?_
          refine y_iload dX8_marry_53 rfl ?_
          refine y_if_ne 70 dX8_marry_55 (by decide) (fun hq => absurd hq (by decide)) (fun _ => ?_)
          refine y_iload_n dX8_marry_58 rfl rfl ?_
          refine y_ifb_eq 67 dX8_marry_59 (by decide) (fun h59 => ?_) (fun h59 => ?_)
          · refine y_bipush dX8_marry_67 ib_m3 ?_
            refine y_iret dX8_marry_69 ?_
            constructor <;> simp_all [-Int32.not_lt, -Int32.not_le, mMarry, mJoin, mPart, cl_8, isP_n, mset_mset, mset]
          · refine y_iload dX8_marry_62 rfl ?_
            refine y_if_ne 70 dX8_marry_64 (by decide) (fun _ => ?_) (fun hq => absurd hq (by decide))
            refine y_aload_n dX8_marry_70 rfl rfl ?_
            refine y_iload_n dX8_marry_71 rfl rfl ?_
            refine y_cV1 dX8_marry_72 meX8_part clX8 kd_58 wm_ml_X8_103 (kX8_part hp8 hok) ⟨Nat.le_of_ble_eq_true rfl, Nat.le_of_ble_eq_true rfl⟩ ⟨rfl, rfl⟩ (Nat.le_of_ble_eq_true rfl) (fun v72 μ72 hp72 => ?_)
            obtain ⟨rfl, he72⟩ := hp72
            replace he72 := he72.symm
            subst he72
            refine y_rv ?_
            refine y_aload_n dX8_marry_75 rfl rfl ?_
            refine y_getr dX8_marry_76 7 clX8 kd_58 (by decide) wm_fl_X8_19 rfl rfl ?_
            refine y_iload_n dX8_marry_79 rfl rfl ?_
            refine y_iload_n dX8_marry_80 rfl rfl ?_
            refine y_ifb_eq 88 dX8_marry_81 (by decide) (fun hq => absurd (h59.symm.trans hq) (by decide)) (fun _ => ?_)
            refine y_iload_n dX8_marry_84 rfl rfl ?_
            refine y_goto 90 dX8_marry_85 (by decide) ?_
            refine y_iast dX8_marry_90 p kd_62 rfl (by first | assumption | decide | omega) (by decide) ?_
            refine y_aload_n dX8_marry_91 rfl rfl ?_
            refine y_getr dX8_marry_92 7 clX8 kd_58 (by decide) wm_fl_X8_19 rfl rfl ?_
            refine y_iload_n dX8_marry_95 rfl rfl ?_
            refine y_iload_n dX8_marry_96 rfl rfl ?_
            refine y_ifb_eq 104 dX8_marry_97 (by decide) (fun hq => absurd (h59.symm.trans hq) (by decide)) (fun _ => ?_)
            refine y_iload_n dX8_marry_100 rfl rfl ?_
            refine y_goto 106 dX8_marry_101 (by decide) ?_
            refine y_iast dX8_marry_106 q kd_62 rfl (by first | assumption | decide | omega) (by decide) ?_
            refine y_aload_n dX8_marry_107 rfl rfl ?_
            refine y_cV0 dX8_marry_108 meX8_marriages clX8 kd_58 wm_ml_X8_111 (kX8_marriages) ⟨Nat.le_of_ble_eq_true rfl, Nat.le_of_ble_eq_true rfl⟩ ⟨rfl, rfl⟩ (Nat.le_of_ble_eq_true rfl) (fun v108 μ108 hp108 => ?_)
            obtain ⟨rfl, he108⟩ := hp108
            replace he108 := he108.symm
            subst he108
            refine y_ri ?_
            refine y_iret dX8_marry_111 ?_
            constructor <;> simp_all [-Int32.not_lt, -Int32.not_le, mMarry, mJoin, mPart, cl_8, isP_n, mset_mset, mset]
    · refine y_iconst dX8_marry_21 ic_1 ?_
      refine y_goto 26 dX8_marry_22 (by decide) ?_
      refine y_istore dX8_marry_26 rfl (by decide) ?_
      refine y_aload_n dX8_marry_28 rfl rfl ?_
      refine y_getr dX8_marry_29 7 clX8 kd_58 (by decide) wm_fl_X8_19 rfl rfl ?_
      refine y_iload_n dX8_marry_32 rfl rfl ?_
      refine y_iald dX8_marry_33 p kd_62 rfl (by first | assumption | decide | omega) (by decide) ?_
      refine y_if_ge 50 dX8_marry_34 (by decide) (fun h34 => ?_) (fun h34 => ?_)
      · refine y_iconst dX8_marry_50 ic_0 ?_
        refine y_istore dX8_marry_51 rfl (by decide) ?_
        refine y_iload dX8_marry_53 rfl ?_
        refine y_if_ne 70 dX8_marry_55 (by decide) (fun _ => ?_) (fun hq => absurd hq (by decide))
        refine y_aload_n dX8_marry_70 rfl rfl ?_
        refine y_iload_n dX8_marry_71 rfl rfl ?_
        refine y_cV1 dX8_marry_72 meX8_part clX8 kd_58 wm_ml_X8_103 (kX8_part hp8 hok) ⟨Nat.le_of_ble_eq_true rfl, Nat.le_of_ble_eq_true rfl⟩ ⟨rfl, rfl⟩ (Nat.le_of_ble_eq_true rfl) (fun v72 μ72 hp72 => ?_)
        obtain ⟨rfl, he72⟩ := hp72
        replace he72 := he72.symm
        subst he72
        refine y_rv ?_
        refine y_aload_n dX8_marry_75 rfl rfl ?_
        refine y_getr dX8_marry_76 7 clX8 kd_58 (by decide) wm_fl_X8_19 rfl rfl ?_
        refine y_iload_n dX8_marry_79 rfl rfl ?_
        refine y_iload_n dX8_marry_80 rfl rfl ?_
        refine y_ifb_eq 88 dX8_marry_81 (by decide) (fun h81 => ?_) (fun h81 => ?_)
        · refine y_bipush dX8_marry_88 ib_m6 ?_
          refine y_iast dX8_marry_90 p kd_62 rfl (by first | assumption | decide | omega) (by decide) ?_
          refine y_aload_n dX8_marry_91 rfl rfl ?_
          refine y_getr dX8_marry_92 7 clX8 kd_58 (by decide) wm_fl_X8_19 rfl rfl ?_
          refine y_iload_n dX8_marry_95 rfl rfl ?_
          refine y_iload_n dX8_marry_96 rfl rfl ?_
          refine y_ifb_eq 104 dX8_marry_97 (by decide) (fun _ => ?_) (fun hq => absurd (h81.symm.trans hq) (by decide))
          refine y_bipush dX8_marry_104 ib_m6 ?_
          refine y_iast dX8_marry_106 q kd_62 rfl (by first | assumption | decide | omega) (by decide) ?_
          refine y_aload_n dX8_marry_107 rfl rfl ?_
          refine y_cV0 dX8_marry_108 meX8_marriages clX8 kd_58 wm_ml_X8_111 (kX8_marriages) ⟨Nat.le_of_ble_eq_true rfl, Nat.le_of_ble_eq_true rfl⟩ ⟨rfl, rfl⟩ (Nat.le_of_ble_eq_true rfl) (fun v108 μ108 hp108 => ?_)
          obtain ⟨rfl, he108⟩ := hp108
          replace he108 := he108.symm
          subst he108
          refine y_ri ?_
          refine y_iret dX8_marry_111 ?_
          constructor <;> simp_all [-Int32.not_lt, -Int32.not_le, mMarry, mJoin, mPart, cl_8, isP_n, mset_mset, mset]
        · refine y_iload_n dX8_marry_84 rfl rfl ?_
          refine y_goto 90 dX8_marry_85 (by decide) ?_
          refine y_iast dX8_marry_90 p kd_62 rfl (by first | assumption | decide | omega) (by decide) ?_
          refine y_aload_n dX8_marry_91 rfl rfl ?_
          refine y_getr dX8_marry_92 7 clX8 kd_58 (by decide) wm_fl_X8_19 rfl rfl ?_
          refine y_iload_n dX8_marry_95 rfl rfl ?_
          refine y_iload_n dX8_marry_96 rfl rfl ?_
          refine y_ifb_eq 104 dX8_marry_97 (by decide) (fun hq => absurd (h81.symm.trans hq) (by decide)) (fun _ => ?_)
          refine y_iload_n dX8_marry_100 rfl rfl ?_
          refine y_goto 106 dX8_marry_101 (by decide) ?_
          refine y_iast dX8_marry_106 q kd_62 rfl (by first | assumption | decide | omega) (by decide) ?_
          refine y_aload_n dX8_marry_107 rfl rfl ?_
          refine y_cV0 dX8_marry_108 meX8_marriages clX8 kd_58 wm_ml_X8_111 (kX8_marriages) ⟨Nat.le_of_ble_eq_true rfl, Nat.le_of_ble_eq_true rfl⟩ ⟨rfl, rfl⟩ (Nat.le_of_ble_eq_true rfl) (fun v108 μ108 hp108 => ?_)
          obtain ⟨rfl, he108⟩ := hp108
          replace he108 := he108.symm
          subst he108
          refine y_ri ?_
          refine y_iret dX8_marry_111 ?_
          constructor <;> simp_all [-Int32.not_lt, -Int32.not_le, mMarry, mJoin, mPart, cl_8, isP_n, mset_mset, mset]
      · refine y_aload_n dX8_marry_37 rfl rfl ?_
        refine y_getr dX8_marry_38 7 clX8 kd_58 (by decide) wm_fl_X8_19 rfl rfl ?_
        refine y_iload_n dX8_marry_41 rfl rfl ?_
        refine y_iald dX8_marry_42 q kd_62 rfl (by first | assumption | decide | omega) (by decide) ?_
        refine y_if_ge 50 dX8_marry_43 (by decide) (fun h43 => ?_) (fun h43 => ?_)
        · refine y_iconst dX8_marry_50 ic_0 ?_
          refine y_istore dX8_marry_51 rfl (by decide) ?_
          refine y_iload dX8_marry_53 rfl ?_
          refine y_if_ne 70 dX8_marry_55 (by decide) (fun _ => ?_) (fun hq => absurd hq (by decide))
          refine y_aload_n dX8_marry_70 rfl rfl ?_
          refine y_iload_n dX8_marry_71 rfl rfl ?_
          refine y_cV1 dX8_marry_72 meX8_part clX8 kd_58 wm_ml_X8_103 (kX8_part hp8 hok) ⟨Nat.le_of_ble_eq_true rfl, Nat.le_of_ble_eq_true rfl⟩ ⟨rfl, rfl⟩ (Nat.le_of_ble_eq_true rfl) (fun v72 μ72 hp72 => ?_)
          obtain ⟨rfl, he72⟩ := hp72
          replace he72 := he72.symm
          subst he72
          refine y_rv ?_
          refine y_aload_n dX8_marry_75 rfl rfl ?_
          refine y_getr dX8_marry_76 7 clX8 kd_58 (by decide) wm_fl_X8_19 rfl rfl ?_
          refine y_iload_n dX8_marry_79 rfl rfl ?_
          refine y_iload_n dX8_marry_80 rfl rfl ?_
          refine y_ifb_eq 88 dX8_marry_81 (by decide) (fun h81 => ?_) (fun h81 => ?_)
          · refine y_bipush dX8_marry_88 ib_m6 ?_
            refine y_iast dX8_marry_90 p kd_62 rfl (by first | assumption | decide | omega) (by decide) ?_
            refine y_aload_n dX8_marry_91 rfl rfl ?_
            refine y_getr dX8_marry_92 7 clX8 kd_58 (by decide) wm_fl_X8_19 rfl rfl ?_
            refine y_iload_n dX8_marry_95 rfl rfl ?_
            refine y_iload_n dX8_marry_96 rfl rfl ?_
            refine y_ifb_eq 104 dX8_marry_97 (by decide) (fun _ => ?_) (fun hq => absurd (h81.symm.trans hq) (by decide))
            refine y_bipush dX8_marry_104 ib_m6 ?_
            refine y_iast dX8_marry_106 q kd_62 rfl (by first | assumption | decide | omega) (by decide) ?_
            refine y_aload_n dX8_marry_107 rfl rfl ?_
            refine y_cV0 dX8_marry_108 meX8_marriages clX8 kd_58 wm_ml_X8_111 (kX8_marriages) ⟨Nat.le_of_ble_eq_true rfl, Nat.le_of_ble_eq_true rfl⟩ ⟨rfl, rfl⟩ (Nat.le_of_ble_eq_true rfl) (fun v108 μ108 hp108 => ?_)
            obtain ⟨rfl, he108⟩ := hp108
            replace he108 := he108.symm
            subst he108
            refine y_ri ?_
            refine y_iret dX8_marry_111 ?_
            constructor <;> simp_all [-Int32.not_lt, -Int32.not_le, mMarry, mJoin, mPart, cl_8, isP_n, mset_mset, mset]
          · refine y_iload_n dX8_marry_84 rfl rfl ?_
            refine y_goto 90 dX8_marry_85 (by decide) ?_
            refine y_iast dX8_marry_90 p kd_62 rfl (by first | assumption | decide | omega) (by decide) ?_
            refine y_aload_n dX8_marry_91 rfl rfl ?_
            refine y_getr dX8_marry_92 7 clX8 kd_58 (by decide) wm_fl_X8_19 rfl rfl ?_
            refine y_iload_n dX8_marry_95 rfl rfl ?_
            refine y_iload_n dX8_marry_96 rfl rfl ?_
            refine y_ifb_eq 104 dX8_marry_97 (by decide) (fun hq => absurd (h81.symm.trans hq) (by decide)) (fun _ => ?_)
            refine y_iload_n dX8_marry_100 rfl rfl ?_
            refine y_goto 106 dX8_marry_101 (by decide) ?_
            refine y_iast dX8_marry_106 q kd_62 rfl (by first | assumption | decide | omega) (by decide) ?_
            refine y_aload_n dX8_marry_107 rfl rfl ?_
            refine y_cV0 dX8_marry_108 meX8_marriages clX8 kd_58 wm_ml_X8_111 (kX8_marriages) ⟨Nat.le_of_ble_eq_true rfl, Nat.le_of_ble_eq_true rfl⟩ ⟨rfl, rfl⟩ (Nat.le_of_ble_eq_true rfl) (fun v108 μ108 hp108 => ?_)
            obtain ⟨rfl, he108⟩ := hp108
            replace he108 := he108.symm
            subst he108
            refine y_ri ?_
            refine y_iret dX8_marry_111 ?_
            constructor <;> simp_all [-Int32.not_lt, -Int32.not_le, mMarry, mJoin, mPart, cl_8, isP_n, mset_mset, mset]
        · refine y_iconst dX8_marry_46 ic_1 ?_
          refine y_goto 51 dX8_marry_47 (by decide) ?_
          refine y_istore dX8_marry_51 rfl (by decide) ?_
          refine y_iload dX8_marry_53 rfl ?_
          refine y_if_ne 70 dX8_marry_55 (by decide) (fun _ => ?_) (fun hq => absurd hq (by decide))
          refine y_aload_n dX8_marry_70 rfl rfl ?_
          refine y_iload_n dX8_marry_71 rfl rfl ?_
          refine y_cV1 dX8_marry_72 meX8_part clX8 kd_58 wm_ml_X8_103 (kX8_part hp8 hok) ⟨Nat.le_of_ble_eq_true rfl, Nat.le_of_ble_eq_true rfl⟩ ⟨rfl, rfl⟩ (Nat.le_of_ble_eq_true rfl) (fun v72 μ72 hp72 => ?_)
          obtain ⟨rfl, he72⟩ := hp72
          replace he72 := he72.symm
          subst he72
          refine y_rv ?_
          refine y_aload_n dX8_marry_75 rfl rfl ?_
          refine y_getr dX8_marry_76 7 clX8 kd_58 (by decide) wm_fl_X8_19 rfl rfl ?_
          refine y_iload_n dX8_marry_79 rfl rfl ?_
          refine y_iload_n dX8_marry_80 rfl rfl ?_
          refine y_ifb_eq 88 dX8_marry_81 (by decide) (fun h81 => ?_) (fun h81 => ?_)
          · refine y_bipush dX8_marry_88 ib_m6 ?_
            refine y_iast dX8_marry_90 p kd_62 rfl (by first | assumption | decide | omega) (by decide) ?_
            refine y_aload_n dX8_marry_91 rfl rfl ?_
            refine y_getr dX8_marry_92 7 clX8 kd_58 (by decide) wm_fl_X8_19 rfl rfl ?_
            refine y_iload_n dX8_marry_95 rfl rfl ?_
            refine y_iload_n dX8_marry_96 rfl rfl ?_
            refine y_ifb_eq 104 dX8_marry_97 (by decide) (fun _ => ?_) (fun hq => absurd (h81.symm.trans hq) (by decide))
            refine y_bipush dX8_marry_104 ib_m6 ?_
            refine y_iast dX8_marry_106 q kd_62 rfl (by first | assumption | decide | omega) (by decide) ?_
            refine y_aload_n dX8_marry_107 rfl rfl ?_
            refine y_cV0 dX8_marry_108 meX8_marriages clX8 kd_58 wm_ml_X8_111 (kX8_marriages) ⟨Nat.le_of_ble_eq_true rfl, Nat.le_of_ble_eq_true rfl⟩ ⟨rfl, rfl⟩ (Nat.le_of_ble_eq_true rfl) (fun v108 μ108 hp108 => ?_)
            obtain ⟨rfl, he108⟩ := hp108
            replace he108 := he108.symm
            subst he108
            refine y_ri ?_
            refine y_iret dX8_marry_111 ?_
            constructor <;> simp_all [-Int32.not_lt, -Int32.not_le, mMarry, mJoin, mPart, cl_8, isP_n, mset_mset, mset]
          · refine y_iload_n dX8_marry_84 rfl rfl ?_
            refine y_goto 90 dX8_marry_85 (by decide) ?_
            refine y_iast dX8_marry_90 p kd_62 rfl (by first | assumption | decide | omega) (by decide) ?_
            refine y_aload_n dX8_marry_91 rfl rfl ?_
            refine y_getr dX8_marry_92 7 clX8 kd_58 (by decide) wm_fl_X8_19 rfl rfl ?_
            refine y_iload_n dX8_marry_95 rfl rfl ?_
            refine y_iload_n dX8_marry_96 rfl rfl ?_
            refine y_ifb_eq 104 dX8_marry_97 (by decide) (fun hq => absurd (h81.symm.trans hq) (by decide)) (fun _ => ?_)
            refine y_iload_n dX8_marry_100 rfl rfl ?_
            refine y_goto 106 dX8_marry_101 (by decide) ?_
            refine y_iast dX8_marry_106 q kd_62 rfl (by first | assumption | decide | omega) (by decide) ?_
            refine y_aload_n dX8_marry_107 rfl rfl ?_
            refine y_cV0 dX8_marry_108 meX8_marriages clX8 kd_58 wm_ml_X8_111 (kX8_marriages) ⟨Nat.le_of_ble_eq_true rfl, Nat.le_of_ble_eq_true rfl⟩ ⟨rfl, rfl⟩ (Nat.le_of_ble_eq_true rfl) (fun v108 μ108 hp108 => ?_)
            obtain ⟨rfl, he108⟩ := hp108
            replace he108 := he108.symm
            subst he108
            refine y_ri ?_
            refine y_iret dX8_marry_111 ?_
            constructor <;> simp_all [-Int32.not_lt, -Int32.not_le, mMarry, mJoin, mPart, cl_8, isP_n, mset_mset, mset]
  · refine y_iconst dX8_marry_9 ic_m1 ?_
    refine y_iret dX8_marry_10 ?_
    exact ⟨by rw [mMarry, if_pos h6], by rw [mMarry, if_pos h6]⟩

set_option maxRecDepth 100000 in
set_option maxHeartbeats 4000000 in
theorem kX8_limit {l : Launch} {G : GT} {μ : MemT} {x : Int32} : sw_Met l G yX8_limit cX8_limit 3 (some .int) (rmk 1 25) [.ref (G.2.1 58), .int x] μ (fun v μ2 => v = some (.int (mLimit x μ).1) ∧ μ2 = (mLimit x μ).2) := by
  refine sw_Met.ofY (by decide) (Nat.le_of_ble_eq_true rfl) rfl ?_
  refine y_iload_n dX8_limit_0 rfl rfl ?_
  refine y_i2l dX8_limit_1 ?_
  refine y_lconst dX8_limit_2 lc_0 ?_
  refine y_ldc2 dX8_limit_3 wm_cl_X8_115 ?_
  refine y_cS3 dX8_limit_6 meX8_in wm_ml_X8_77 (kX8_in (A := 0) (B := 99) rfl rfl) ⟨Nat.le_of_ble_eq_true rfl, Nat.le_of_ble_eq_true rfl⟩ ⟨rfl, rfl⟩ (Nat.le_of_ble_eq_true rfl) (fun v6 μ6 hp6 => ?_)
  obtain ⟨rfl, he6⟩ := hp6
  replace he6 := he6.symm
  subst he6
  refine y_ri ?_
  refine y_ifb_ne 15 dX8_limit_9 (by decide) (fun h9 => ?_) (fun h9 => ?_)
  · refine y_aload_n dX8_limit_15 rfl rfl ?_
    refine y_geti dX8_limit_16 2 clX8 kd_58 (by decide) wm_fl_X8_71 rfl rfl ?_
    refine y_istore_n dX8_limit_19 rfl rfl (by decide) ?_
    refine y_aload_n dX8_limit_20 rfl rfl ?_
    refine y_iload_n dX8_limit_21 rfl rfl ?_
    refine y_puti dX8_limit_22 2 clX8 kd_58 (by decide) wm_fl_X8_71 rfl rfl rfl rfl (tyX8_ok 2 (by decide)) rfl rfl ?_
    refine y_iload_n dX8_limit_25 rfl rfl ?_
    refine y_iret dX8_limit_26 ?_
    constructor <;> simp_all [mLimit]
  · refine y_bipush dX8_limit_12 ib_m2 ?_
    refine y_iret dX8_limit_14 ?_
    constructor <;> simp_all [mLimit]

set_option maxRecDepth 100000 in
set_option maxHeartbeats 4000000 in
theorem kX8_say {l : Launch} {G : GT} {μ : MemT} {x : Int32} {k : Nat} (hk : k ≤ 60) (hs : μ 58 13 = nI k) : sw_Met l G yX8_say cX8_say 2 (some .int) (rmk 1 25) [.ref (G.2.1 58), .int x] μ (fun v μ2 => v = some (.int (mSay k x μ).1) ∧ μ2 = (mSay k x μ).2) := by
  refine sw_Met.ofY (by decide) (Nat.le_of_ble_eq_true rfl) rfl ?_
  refine y_iload_n dX8_say_0 rfl rfl ?_
  refine y_i2l dX8_say_1 ?_
  refine y_ldc2 dX8_say_2 wm_cl_X8_117 ?_
  refine y_ldc2 dX8_say_5 wm_cl_X8_119 ?_
  refine y_cS3 dX8_say_8 meX8_in wm_ml_X8_77 (kX8_in (A := 33) (B := 126) rfl rfl) ⟨Nat.le_of_ble_eq_true rfl, Nat.le_of_ble_eq_true rfl⟩ ⟨rfl, rfl⟩ (Nat.le_of_ble_eq_true rfl) (fun v8 μ8 hp8 => ?_)
  obtain ⟨rfl, he8⟩ := hp8
  replace he8 := he8.symm
  subst he8
  refine y_ri ?_
  refine y_ifb_ne 17 dX8_say_11 (by decide) (fun h11 => ?_) (fun h11 => ?_)
  · refine y_aload_n dX8_say_17 rfl rfl ?_
    refine y_geti dX8_say_18 13 clX8 kd_58 (by decide) wm_fl_X8_121 rfl rfl ?_
    refine y_bipush dX8_say_21 ib_60 ?_
    refine y_icmp_ne 29 dX8_say_23 (by decide) (fun h23 => ?_) (fun h23 => ?_)
    · have hk2 : k ≠ 60 := fun q => h23 (by rw [hs, q]; rfl)
      refine y_aload_n dX8_say_29 rfl rfl ?_
      refine y_getr dX8_say_30 12 clX8 kd_58 (by decide) wm_fl_X8_31 rfl rfl ?_
      refine y_aload_n dX8_say_33 rfl rfl ?_
      refine y_geti dX8_say_34 13 clX8 kd_58 (by decide) wm_fl_X8_121 rfl rfl ?_
      refine y_iload_n dX8_say_37 rfl rfl ?_
      refine y_iast dX8_say_38 k kd_66 hs (by omega) (by decide) ?_
      refine y_aload_n dX8_say_39 rfl rfl ?_
      refine y_dup dX8_say_40 rfl ?_
      refine y_geti dX8_say_41 13 clX8 kd_58 (by decide) wm_fl_X8_121 rfl rfl ?_
      refine y_iconst dX8_say_44 ic_1 ?_
      refine y_iadd dX8_say_45 ?_
      refine y_puti dX8_say_46 13 clX8 kd_58 (by decide) wm_fl_X8_121 rfl rfl rfl rfl (tyX8_ok 13 (by decide)) rfl rfl ?_
      refine y_aload_n dX8_say_49 rfl rfl ?_
      refine y_geti dX8_say_50 13 clX8 kd_58 (by decide) wm_fl_X8_121 rfl rfl ?_
      refine y_iret dX8_say_53 ?_
      constructor <;> simp_all [mSay, mset_mset, mset, upd, nI_1]
    · have hk2 : k = 60 := by rw [hs] at h23; exact (nI_eq (b := 60) (by omega) (by decide)).mp h23
      refine y_bipush dX8_say_26 ib_m4 ?_
      refine y_iret dX8_say_28 ?_
      constructor <;> simp_all [mSay, mset_mset, mset, upd, nI_1]
  · refine y_bipush dX8_say_14 ib_m2 ?_
    refine y_iret dX8_say_16 ?_
    constructor <;> simp_all [mSay, mset_mset, mset, upd, nI_1]

set_option maxRecDepth 100000 in
set_option maxHeartbeats 4000000 in
theorem kX8_wipe {l : Launch} {G : GT} {μ : MemT}  : sw_Met l G yX8_wipe cX8_wipe 2 (some .int) (rmk 0 0) [.ref (G.2.1 58)] μ (fun v μ2 => v = some (.int (mWipe μ).1) ∧ μ2 = (mWipe μ).2) := by
  refine sw_Met.ofY (by decide) (Nat.le_of_ble_eq_true rfl) rfl ?_
  refine y_aload_n dX8_wipe_0 rfl rfl ?_
  refine y_geti dX8_wipe_1 13 clX8 kd_58 (by decide) wm_fl_X8_121 rfl rfl ?_
  refine y_istore_n dX8_wipe_4 rfl rfl (by decide) ?_
  refine y_aload_n dX8_wipe_5 rfl rfl ?_
  refine y_iconst dX8_wipe_6 ic_0 ?_
  refine y_puti dX8_wipe_7 13 clX8 kd_58 (by decide) wm_fl_X8_121 rfl rfl rfl rfl (tyX8_ok 13 (by decide)) rfl rfl ?_
  refine y_iload_n dX8_wipe_10 rfl rfl ?_
  refine y_iret dX8_wipe_11 ?_
  exact ⟨rfl, rfl⟩

/-- the acts as they are read: how many, what each is, who by the goods, who across, who twice -/
abbrev PsT : Type := Nat × (Nat → Int32) × (Nat → Int32) × (Nat → Int32) × (Nat → Int32)
def putPs (w : PsT) (μ : MemT) : MemT := mset (mset (mset (mset (mset μ 58 (upd (μ 58) 18 (nI w.1))) 67 w.2.1) 68 w.2.2.1) 69 w.2.2.2.1) 70 w.2.2.2.2
def bitL (x : Int32) : Int32 := 1 <<< (x - 65 &&& 31)
def psSit (x : Int32) (w : PsT) : PsT := (w.1, w.2.1, w.2.2.1, w.2.2.2.1, upd w.2.2.2.2 w.1 (w.2.2.2.2 w.1 ||| ((w.2.2.1 w.1 ||| w.2.2.2.1 w.1) &&& bitL x)))
def psNearIn (x : Int32) (w : PsT) : PsT := ((psSit x w).1, (psSit x w).2.1, upd w.2.2.1 w.1 (w.2.2.1 w.1 ||| bitL x), (psSit x w).2.2.2.1, (psSit x w).2.2.2.2)
def psAcrossIn (x : Int32) (w : PsT) : PsT := ((psSit x w).1, (psSit x w).2.1, w.2.2.1, upd w.2.2.2.1 w.1 (w.2.2.2.1 w.1 ||| bitL x), (psSit x w).2.2.2.2)
def psNear (x : Int32) (w : PsT) : Int32 × PsT := if x = 124 then (2, w) else if isL x then (1, psNearIn x w) else (-6, w)
def psAcross (d x : Int32) (w : PsT) : Int32 × PsT := if d = 3 ∧ x = 59 then (0, (w.1 + 1, w.2)) else if isL x then (3, psAcrossIn x w) else (-6, w)
def psCold (x : Int32) (w : PsT) : Int32 × PsT := if isL x then (0, (w.1 + 1, w.2.1, w.2.2.1, upd w.2.2.2.1 w.1 (bitL x), w.2.2.2.2)) else (-6, w)
def kindC (x : Int32) : Int32 := if x = 46 then 1 else if x = 42 then 2 else if x = 94 then 3 else 0
def psNew (x : Int32) (w : PsT) : PsT := (w.1, upd w.2.1 w.1 (kindC x), upd w.2.2.1 w.1 0, upd w.2.2.2.1 w.1 0, upd w.2.2.2.2 w.1 0)
def psBegin (x : Int32) (w : PsT) : Int32 × PsT := if kindC x = 0 then psNear x (psNew x w) else if x = 94 then (4, psNew x w) else (0, (w.1 + 1, (psNew x w).2))
def psStep (d x : Int32) (w : PsT) : Int32 × PsT := if d = 0 then psBegin x w else if d = 1 then psNear x w else if d = 4 then psCold x w else psAcross d x w
def getPs (a : Nat) (μ : MemT) : PsT := (a, μ 67, μ 68, μ 69, μ 70)
theorem putPs_get {a : Nat} {μ : MemT} (h : μ 58 18 = nI a) : putPs (getPs a μ) μ = μ := by
  unfold putPs getPs
  rw [← h, upd_id, mset_same μ 58, mset_same μ 67, mset_same μ 68, mset_same μ 69, mset_same μ 70]
theorem putPs_putPs (w z : PsT) (μ : MemT) : putPs w (putPs z μ) = putPs w μ := by
  funext k
  simp only [putPs, mset]
  by_cases h1 : k = 70
  · simp [h1]
  by_cases h2 : k = 69
  · simp [h2]
  by_cases h3 : k = 68
  · simp [h3]
  by_cases h4 : k = 67
  · simp [h4]
  by_cases h5 : k = 58
  · simp [h5, upd_upd]
  simp [h1, h2, h3, h4, h5]
theorem putPs_58 (w : PsT) (μ : MemT) : putPs w μ 58 18 = nI w.1 := by simp [putPs, mset, upd]
theorem putPs_a (w : PsT) (μ : MemT) : getPs w.1 (putPs w μ) = w := rfl
theorem putPs_ne (w : PsT) (μ : MemT) {k : Nat} (h1 : k ≠ 58) (h2 : k ≠ 67) (h3 : k ≠ 68) (h4 : k ≠ 69) (h5 : k ≠ 70) : putPs w μ k = μ k := by simp [putPs, mset, h1, h2, h3, h4, h5]
theorem putPs_f (w : PsT) (μ : MemT) {i : Nat} (h : i ≠ 18) : putPs w μ 58 i = μ 58 i := by simp [putPs, mset, upd, h]
theorem psEq {w z : PsT} {μ μ2 : MemT} (h : μ2 = μ) (hw : w = z) : putPs w μ2 = putPs z μ := by rw [h, hw]

set_option maxRecDepth 100000 in
set_option maxHeartbeats 4000000 in
theorem kX8_isLetter {l : Launch} {G : GT} {μ : MemT} {x : Int32} : sw_Met l G yX8_isLetter cX8_isLetter 1 (some .boolean) (rmk 1 25) [.int x] μ (fun v μ2 => v = some (.int (bI (isL x))) ∧ μ2 = μ) := by
  refine sw_Met.ofY (by decide) (Nat.le_of_ble_eq_true rfl) rfl ?_
  refine y_iload_n dX8_isLetter_0 rfl rfl ?_
  refine y_i2l dX8_isLetter_1 ?_
  refine y_ldc2 dX8_isLetter_2 wm_cl_X8_130 ?_
  refine y_ldc2 dX8_isLetter_5 wm_cl_X8_132 ?_
  refine y_cS3 dX8_isLetter_8 meX8_in wm_ml_X8_77 (kX8_in (A := 65) (B := 72) rfl rfl) ⟨Nat.le_of_ble_eq_true rfl, Nat.le_of_ble_eq_true rfl⟩ ⟨rfl, rfl⟩ (Nat.le_of_ble_eq_true rfl) (fun v8 μ8 hp8 => ?_)
  obtain ⟨rfl, he8⟩ := hp8
  replace he8 := he8.symm
  subst he8
  refine y_ri ?_
  refine y_zret dX8_isLetter_11 (bI_nar _) ?_
  exact ⟨rfl, rfl⟩

theorem ps70 (w : PsT) (r : Nat → Int32) (μ : MemT) : mset (putPs w μ) 70 r = putPs (w.1, w.2.1, w.2.2.1, w.2.2.2.1, r) μ := by
  unfold putPs
  rw [mset_mset]
theorem mset_comm (μ : MemT) {j k : Nat} (r s : Nat → Int32) (h : j ≠ k) : mset (mset μ j r) k s = mset (mset μ k s) j r := by
  funext q
  simp only [mset]
  by_cases h1 : q = j
  · by_cases h2 : q = k
    · exact absurd (h1.symm.trans h2) h
    · subst h1; simp [h]
  · simp [h1]
theorem ps69 (w : PsT) (r : Nat → Int32) (μ : MemT) : mset (putPs w μ) 69 r = putPs (w.1, w.2.1, w.2.2.1, r, w.2.2.2.2) μ := by
  unfold putPs
  rw [mset_comm _ _ _ (by decide : 70 ≠ 69), mset_mset]
theorem ps68 (w : PsT) (r : Nat → Int32) (μ : MemT) : mset (putPs w μ) 68 r = putPs (w.1, w.2.1, r, w.2.2.2.1, w.2.2.2.2) μ := by
  unfold putPs
  rw [mset_comm _ _ _ (by decide : 70 ≠ 68), mset_comm _ _ _ (by decide : 69 ≠ 68), mset_mset]
theorem ps67 (w : PsT) (r : Nat → Int32) (μ : MemT) : mset (putPs w μ) 67 r = putPs (w.1, r, w.2.2.1, w.2.2.2.1, w.2.2.2.2) μ := by
  unfold putPs
  rw [mset_comm _ _ _ (by decide : 70 ≠ 67), mset_comm _ _ _ (by decide : 69 ≠ 67), mset_comm _ _ _ (by decide : 68 ≠ 67), mset_mset]
theorem ps58 (w : PsT) (b : Nat) (μ : MemT) : mset (putPs w μ) 58 (upd (putPs w μ 58) 18 (nI b)) = putPs (b, w.2.1, w.2.2.1, w.2.2.2.1, w.2.2.2.2) μ := by
  have e : putPs w μ 58 = upd (μ 58) 18 (nI w.1) := by simp [putPs, mset]
  rw [e, upd_upd]
  unfold putPs
  rw [mset_comm _ _ _ (by decide : 70 ≠ 58), mset_comm _ _ _ (by decide : 69 ≠ 58), mset_comm _ _ _ (by decide : 68 ≠ 58), mset_comm _ _ _ (by decide : 67 ≠ 58), mset_mset]
theorem psSit_1 (x : Int32) (w : PsT) : (psSit x w).1 = w.1 := rfl
theorem p67 (w : PsT) (μ : MemT) : putPs w μ 67 = w.2.1 := rfl
theorem p68 (w : PsT) (μ : MemT) : putPs w μ 68 = w.2.2.1 := rfl
theorem p69 (w : PsT) (μ : MemT) : putPs w μ 69 = w.2.2.2.1 := rfl
theorem p70 (w : PsT) (μ : MemT) : putPs w μ 70 = w.2.2.2.2 := rfl

set_option maxRecDepth 100000 in
set_option maxHeartbeats 4000000 in
theorem kX8_sit {l : Launch} {G : GT} {μ : MemT} {w : PsT} (hw : w.1 < 60) {x : Int32} : sw_Met l G yX8_sit cX8_sit 3 none (rmk 0 0) [.ref (G.2.1 58), .int x] (putPs w μ) (fun v μ2 => v = none ∧ μ2 = putPs (psSit x w) μ) := by
  refine sw_Met.ofY (by decide) (Nat.le_of_ble_eq_true rfl) rfl ?_
  refine y_iconst dX8_sit_0 ic_1 ?_
  refine y_iload_n dX8_sit_1 rfl rfl ?_
  refine y_bipush dX8_sit_2 ib_65 ?_
  refine y_isub dX8_sit_4 ?_
  refine y_ishl dX8_sit_5 ?_
  refine y_istore_n dX8_sit_6 rfl rfl (by decide) ?_
  refine y_aload_n dX8_sit_7 rfl rfl ?_
  refine y_getr dX8_sit_8 17 clX8 kd_58 (by decide) wm_fl_X8_43 rfl rfl ?_
  refine y_aload_n dX8_sit_11 rfl rfl ?_
  refine y_geti dX8_sit_12 18 clX8 kd_58 (by decide) wm_fl_X8_124 rfl rfl ?_
  refine y_dup2 dX8_sit_15 rfl rfl ?_
  refine y_iald dX8_sit_16 w.1 kd_70 (by simp [psSit_1, ps70, ps69, ps68, ps67, ps58, p67, p68, p69, p70, putPs_58, nI_1]) hw (by decide) ?_
  refine y_aload_n dX8_sit_17 rfl rfl ?_
  refine y_getr dX8_sit_18 15 clX8 kd_58 (by decide) wm_fl_X8_37 rfl rfl ?_
  refine y_aload_n dX8_sit_21 rfl rfl ?_
  refine y_geti dX8_sit_22 18 clX8 kd_58 (by decide) wm_fl_X8_124 rfl rfl ?_
  refine y_iald dX8_sit_25 w.1 kd_68 (by simp [psSit_1, ps70, ps69, ps68, ps67, ps58, p67, p68, p69, p70, putPs_58, nI_1]) hw (by decide) ?_
  refine y_aload_n dX8_sit_26 rfl rfl ?_
  refine y_getr dX8_sit_27 16 clX8 kd_58 (by decide) wm_fl_X8_40 rfl rfl ?_
  refine y_aload_n dX8_sit_30 rfl rfl ?_
  refine y_geti dX8_sit_31 18 clX8 kd_58 (by decide) wm_fl_X8_124 rfl rfl ?_
  refine y_iald dX8_sit_34 w.1 kd_69 (by simp [psSit_1, ps70, ps69, ps68, ps67, ps58, p67, p68, p69, p70, putPs_58, nI_1]) hw (by decide) ?_
  refine y_ior dX8_sit_35 ?_
  refine y_iload_n dX8_sit_36 rfl rfl ?_
  refine y_iand dX8_sit_37 ?_
  refine y_ior dX8_sit_38 ?_
  refine y_iast dX8_sit_39 w.1 kd_70 (by simp [psSit_1, ps70, ps69, ps68, ps67, ps58, p67, p68, p69, p70, putPs_58, nI_1]) hw (by decide) ?_
  refine y_vret dX8_sit_40 ?_
  refine ⟨?_, ?_⟩ <;> simp_all [psSit, bitL, psSit_1, ps70, ps69, ps68, ps67, ps58, p67, p68, p69, p70, putPs_58, nI_1]

set_option maxRecDepth 100000 in
set_option maxHeartbeats 4000000 in
theorem kX8_readNear {l : Launch} {G : GT} {μ : MemT} {w : PsT} (hw : w.1 < 60) {x : Int32} : sw_Met l G yX8_readNear cX8_readNear 2 (some .int) (rmk 2 45) [.ref (G.2.1 58), .int x] (putPs w μ) (fun v μ2 => v = some (.int (psNear x w).1) ∧ μ2 = putPs (psNear x w).2 μ) := by
  refine sw_Met.ofY (by decide) (Nat.le_of_ble_eq_true rfl) rfl ?_
  refine y_iload_n dX8_readNear_0 rfl rfl ?_
  refine y_bipush dX8_readNear_1 ib_124 ?_
  refine y_icmp_ne 8 dX8_readNear_3 (by decide) (fun h3 => ?_) (fun h3 => ?_)
  · refine y_iload_n dX8_readNear_8 rfl rfl ?_
    refine y_cS1 dX8_readNear_9 meX8_isLetter wm_ml_X8_134 (kX8_isLetter) ⟨Nat.le_of_ble_eq_true rfl, Nat.le_of_ble_eq_true rfl⟩ ⟨rfl, rfl⟩ (Nat.le_of_ble_eq_true rfl) (fun v9 μ9 hp9 => ?_)
    obtain ⟨rfl, he9⟩ := hp9
    replace he9 := he9.symm
    subst he9
    refine y_ri ?_
    refine y_ifb_ne 18 dX8_readNear_12 (by decide) (fun h12 => ?_) (fun h12 => ?_)
    · refine y_aload_n dX8_readNear_18 rfl rfl ?_
      refine y_iload_n dX8_readNear_19 rfl rfl ?_
      refine y_cV1 dX8_readNear_20 meX8_sit clX8 kd_58 wm_ml_X8_137 (kX8_sit hw) ⟨Nat.le_of_ble_eq_true rfl, Nat.le_of_ble_eq_true rfl⟩ ⟨rfl, rfl⟩ (Nat.le_of_ble_eq_true rfl) (fun v20 μ20 hp20 => ?_)
      obtain ⟨rfl, he20⟩ := hp20
      replace he20 := he20.symm
      subst he20
      refine y_rv ?_
      refine y_aload_n dX8_readNear_23 rfl rfl ?_
      refine y_getr dX8_readNear_24 15 clX8 kd_58 (by decide) wm_fl_X8_37 rfl rfl ?_
      refine y_aload_n dX8_readNear_27 rfl rfl ?_
      refine y_geti dX8_readNear_28 18 clX8 kd_58 (by decide) wm_fl_X8_124 rfl rfl ?_
      refine y_dup2 dX8_readNear_31 rfl rfl ?_
      refine y_iald dX8_readNear_32 w.1 kd_68 (by simp [psSit_1, ps70, ps69, ps68, ps67, ps58, p67, p68, p69, p70, putPs_58, nI_1]) hw (by decide) ?_
      refine y_iconst dX8_readNear_33 ic_1 ?_
      refine y_iload_n dX8_readNear_34 rfl rfl ?_
      refine y_bipush dX8_readNear_35 ib_65 ?_
      refine y_isub dX8_readNear_37 ?_
      refine y_ishl dX8_readNear_38 ?_
      refine y_ior dX8_readNear_39 ?_
      refine y_iast dX8_readNear_40 w.1 kd_68 (by simp [psSit_1, ps70, ps69, ps68, ps67, ps58, p67, p68, p69, p70, putPs_58, nI_1]) hw (by decide) ?_
      refine y_iconst dX8_readNear_41 ic_1 ?_
      refine y_iret dX8_readNear_42 ?_
      refine ⟨?_, ?_⟩ <;> simp_all [psNear, psNearIn, psSit, bitL, psSit_1, ps70, ps69, ps68, ps67, ps58, p67, p68, p69, p70, putPs_58, nI_1]
    · refine y_bipush dX8_readNear_15 ib_m6 ?_
      refine y_iret dX8_readNear_17 ?_
      refine ⟨?_, ?_⟩ <;> simp_all [psNear, psNearIn, psSit, bitL, psSit_1, ps70, ps69, ps68, ps67, ps58, p67, p68, p69, p70, putPs_58, nI_1]
  · refine y_iconst dX8_readNear_6 ic_2 ?_
    refine y_iret dX8_readNear_7 ?_
    refine ⟨?_, ?_⟩ <;> simp_all [psNear, psNearIn, psSit, bitL, psSit_1, ps70, ps69, ps68, ps67, ps58, p67, p68, p69, p70, putPs_58, nI_1]

set_option maxRecDepth 100000 in
set_option maxHeartbeats 4000000 in
theorem kX8_readAcross {l : Launch} {G : GT} {μ : MemT} {w : PsT} (hw : w.1 < 60) {d x : Int32} : sw_Met l G yX8_readAcross cX8_readAcross 3 (some .int) (rmk 2 45) [.ref (G.2.1 58), .int d, .int x] (putPs w μ) (fun v μ2 => v = some (.int (psAcross d x w).1) ∧ μ2 = putPs (psAcross d x w).2 μ) := by
  refine sw_Met.ofY (by decide) (Nat.le_of_ble_eq_true rfl) rfl ?_
  refine y_iload_n dX8_readAcross_0 rfl rfl ?_
  refine y_iconst dX8_readAcross_1 ic_3 ?_
  refine y_icmp_ne 23 dX8_readAcross_2 (by decide) (fun h2 => ?_) (fun h2 => ?_)
  · refine y_iload_n dX8_readAcross_23 rfl rfl ?_
    refine y_cS1 dX8_readAcross_24 meX8_isLetter wm_ml_X8_134 (kX8_isLetter) ⟨Nat.le_of_ble_eq_true rfl, Nat.le_of_ble_eq_true rfl⟩ ⟨rfl, rfl⟩ (Nat.le_of_ble_eq_true rfl) (fun v24 μ24 hp24 => ?_)
    obtain ⟨rfl, he24⟩ := hp24
    replace he24 := he24.symm
    subst he24
    refine y_ri ?_
    refine y_ifb_ne 33 dX8_readAcross_27 (by decide) (fun h27 => ?_) (fun h27 => ?_)
    · refine y_aload_n dX8_readAcross_33 rfl rfl ?_
      refine y_iload_n dX8_readAcross_34 rfl rfl ?_
      refine y_cV1 dX8_readAcross_35 meX8_sit clX8 kd_58 wm_ml_X8_137 (kX8_sit hw) ⟨Nat.le_of_ble_eq_true rfl, Nat.le_of_ble_eq_true rfl⟩ ⟨rfl, rfl⟩ (Nat.le_of_ble_eq_true rfl) (fun v35 μ35 hp35 => ?_)
      obtain ⟨rfl, he35⟩ := hp35
      replace he35 := he35.symm
      subst he35
      refine y_rv ?_
      refine y_aload_n dX8_readAcross_38 rfl rfl ?_
      refine y_getr dX8_readAcross_39 16 clX8 kd_58 (by decide) wm_fl_X8_40 rfl rfl ?_
      refine y_aload_n dX8_readAcross_42 rfl rfl ?_
      refine y_geti dX8_readAcross_43 18 clX8 kd_58 (by decide) wm_fl_X8_124 rfl rfl ?_
      refine y_dup2 dX8_readAcross_46 rfl rfl ?_
      refine y_iald dX8_readAcross_47 w.1 kd_69 (by simp [psSit_1, ps70, ps69, ps68, ps67, ps58, p67, p68, p69, p70, putPs_58, nI_1]) hw (by decide) ?_
      refine y_iconst dX8_readAcross_48 ic_1 ?_
      refine y_iload_n dX8_readAcross_49 rfl rfl ?_
      refine y_bipush dX8_readAcross_50 ib_65 ?_
      refine y_isub dX8_readAcross_52 ?_
      refine y_ishl dX8_readAcross_53 ?_
      refine y_ior dX8_readAcross_54 ?_
      refine y_iast dX8_readAcross_55 w.1 kd_69 (by simp [psSit_1, ps70, ps69, ps68, ps67, ps58, p67, p68, p69, p70, putPs_58, nI_1]) hw (by decide) ?_
      refine y_iconst dX8_readAcross_56 ic_3 ?_
      refine y_iret dX8_readAcross_57 ?_
      refine ⟨?_, ?_⟩ <;> simp_all [psAcross, psAcrossIn, psSit, bitL, psSit_1, ps70, ps69, ps68, ps67, ps58, p67, p68, p69, p70, putPs_58, nI_1]
    · refine y_bipush dX8_readAcross_30 ib_m6 ?_
      refine y_iret dX8_readAcross_32 ?_
      refine ⟨?_, ?_⟩ <;> simp_all [psAcross, psAcrossIn, psSit, bitL, psSit_1, ps70, ps69, ps68, ps67, ps58, p67, p68, p69, p70, putPs_58, nI_1]
  · refine y_iload_n dX8_readAcross_5 rfl rfl ?_
    refine y_bipush dX8_readAcross_6 ib_59 ?_
    refine y_icmp_ne 23 dX8_readAcross_8 (by decide) (fun h8 => ?_) (fun h8 => ?_)
    · refine y_iload_n dX8_readAcross_23 rfl rfl ?_
      refine y_cS1 dX8_readAcross_24 meX8_isLetter wm_ml_X8_134 (kX8_isLetter) ⟨Nat.le_of_ble_eq_true rfl, Nat.le_of_ble_eq_true rfl⟩ ⟨rfl, rfl⟩ (Nat.le_of_ble_eq_true rfl) (fun v24 μ24 hp24 => ?_)
      obtain ⟨rfl, he24⟩ := hp24
      replace he24 := he24.symm
      subst he24
      refine y_ri ?_
      refine y_ifb_ne 33 dX8_readAcross_27 (by decide) (fun h27 => ?_) (fun h27 => ?_)
      · refine y_aload_n dX8_readAcross_33 rfl rfl ?_
        refine y_iload_n dX8_readAcross_34 rfl rfl ?_
        refine y_cV1 dX8_readAcross_35 meX8_sit clX8 kd_58 wm_ml_X8_137 (kX8_sit hw) ⟨Nat.le_of_ble_eq_true rfl, Nat.le_of_ble_eq_true rfl⟩ ⟨rfl, rfl⟩ (Nat.le_of_ble_eq_true rfl) (fun v35 μ35 hp35 => ?_)
        obtain ⟨rfl, he35⟩ := hp35
        replace he35 := he35.symm
        subst he35
        refine y_rv ?_
        refine y_aload_n dX8_readAcross_38 rfl rfl ?_
        refine y_getr dX8_readAcross_39 16 clX8 kd_58 (by decide) wm_fl_X8_40 rfl rfl ?_
        refine y_aload_n dX8_readAcross_42 rfl rfl ?_
        refine y_geti dX8_readAcross_43 18 clX8 kd_58 (by decide) wm_fl_X8_124 rfl rfl ?_
        refine y_dup2 dX8_readAcross_46 rfl rfl ?_
        refine y_iald dX8_readAcross_47 w.1 kd_69 (by simp [psSit_1, ps70, ps69, ps68, ps67, ps58, p67, p68, p69, p70, putPs_58, nI_1]) hw (by decide) ?_
        refine y_iconst dX8_readAcross_48 ic_1 ?_
        refine y_iload_n dX8_readAcross_49 rfl rfl ?_
        refine y_bipush dX8_readAcross_50 ib_65 ?_
        refine y_isub dX8_readAcross_52 ?_
        refine y_ishl dX8_readAcross_53 ?_
        refine y_ior dX8_readAcross_54 ?_
        refine y_iast dX8_readAcross_55 w.1 kd_69 (by simp [psSit_1, ps70, ps69, ps68, ps67, ps58, p67, p68, p69, p70, putPs_58, nI_1]) hw (by decide) ?_
        refine y_iconst dX8_readAcross_56 ic_3 ?_
        refine y_iret dX8_readAcross_57 ?_
        refine ⟨?_, ?_⟩ <;> simp_all [psAcross, psAcrossIn, psSit, bitL, psSit_1, ps70, ps69, ps68, ps67, ps58, p67, p68, p69, p70, putPs_58, nI_1]
      · refine y_bipush dX8_readAcross_30 ib_m6 ?_
        refine y_iret dX8_readAcross_32 ?_
        refine ⟨?_, ?_⟩ <;> simp_all [psAcross, psAcrossIn, psSit, bitL, psSit_1, ps70, ps69, ps68, ps67, ps58, p67, p68, p69, p70, putPs_58, nI_1]
    · refine y_aload_n dX8_readAcross_11 rfl rfl ?_
      refine y_dup dX8_readAcross_12 rfl ?_
      refine y_geti dX8_readAcross_13 18 clX8 kd_58 (by decide) wm_fl_X8_124 rfl rfl ?_
      refine y_iconst dX8_readAcross_16 ic_1 ?_
      refine y_iadd dX8_readAcross_17 ?_
      refine y_puti dX8_readAcross_18 18 clX8 kd_58 (by decide) wm_fl_X8_124 rfl rfl rfl rfl (tyX8_ok 18 (by decide)) rfl rfl ?_
      refine y_iconst dX8_readAcross_21 ic_0 ?_
      refine y_iret dX8_readAcross_22 ?_
      refine ⟨?_, ?_⟩ <;> simp_all [psAcross, psAcrossIn, psSit, bitL, psSit_1, ps70, ps69, ps68, ps67, ps58, p67, p68, p69, p70, putPs_58, nI_1]

set_option maxRecDepth 100000 in
set_option maxHeartbeats 4000000 in
theorem kX8_readCold {l : Launch} {G : GT} {μ : MemT} {w : PsT} (hw : w.1 < 60) {x : Int32} : sw_Met l G yX8_readCold cX8_readCold 2 (some .int) (rmk 2 45) [.ref (G.2.1 58), .int x] (putPs w μ) (fun v μ2 => v = some (.int (psCold x w).1) ∧ μ2 = putPs (psCold x w).2 μ) := by
  refine sw_Met.ofY (by decide) (Nat.le_of_ble_eq_true rfl) rfl ?_
  refine y_iload_n dX8_readCold_0 rfl rfl ?_
  refine y_cS1 dX8_readCold_1 meX8_isLetter wm_ml_X8_134 (kX8_isLetter) ⟨Nat.le_of_ble_eq_true rfl, Nat.le_of_ble_eq_true rfl⟩ ⟨rfl, rfl⟩ (Nat.le_of_ble_eq_true rfl) (fun v1 μ1 hp1 => ?_)
  obtain ⟨rfl, he1⟩ := hp1
  replace he1 := he1.symm
  subst he1
  refine y_ri ?_
  refine y_ifb_ne 10 dX8_readCold_4 (by decide) (fun h4 => ?_) (fun h4 => ?_)
  · refine y_aload_n dX8_readCold_10 rfl rfl ?_
    refine y_getr dX8_readCold_11 16 clX8 kd_58 (by decide) wm_fl_X8_40 rfl rfl ?_
    refine y_aload_n dX8_readCold_14 rfl rfl ?_
    refine y_geti dX8_readCold_15 18 clX8 kd_58 (by decide) wm_fl_X8_124 rfl rfl ?_
    refine y_iconst dX8_readCold_18 ic_1 ?_
    refine y_iload_n dX8_readCold_19 rfl rfl ?_
    refine y_bipush dX8_readCold_20 ib_65 ?_
    refine y_isub dX8_readCold_22 ?_
    refine y_ishl dX8_readCold_23 ?_
    refine y_iast dX8_readCold_24 w.1 kd_69 (by simp [psSit_1, ps70, ps69, ps68, ps67, ps58, p67, p68, p69, p70, putPs_58, nI_1]) hw (by decide) ?_
    refine y_aload_n dX8_readCold_25 rfl rfl ?_
    refine y_dup dX8_readCold_26 rfl ?_
    refine y_geti dX8_readCold_27 18 clX8 kd_58 (by decide) wm_fl_X8_124 rfl rfl ?_
    refine y_iconst dX8_readCold_30 ic_1 ?_
    refine y_iadd dX8_readCold_31 ?_
    refine y_puti dX8_readCold_32 18 clX8 kd_58 (by decide) wm_fl_X8_124 rfl rfl rfl rfl (tyX8_ok 18 (by decide)) rfl rfl ?_
    refine y_iconst dX8_readCold_35 ic_0 ?_
    refine y_iret dX8_readCold_36 ?_
    refine ⟨?_, ?_⟩ <;> simp_all [psCold, bitL, psSit_1, ps70, ps69, ps68, ps67, ps58, p67, p68, p69, p70, putPs_58, nI_1]
  · refine y_bipush dX8_readCold_7 ib_m6 ?_
    refine y_iret dX8_readCold_9 ?_
    refine ⟨?_, ?_⟩ <;> simp_all [psCold, bitL, psSit_1, ps70, ps69, ps68, ps67, ps58, p67, p68, p69, p70, putPs_58, nI_1]

set_option maxRecDepth 100000 in
set_option maxHeartbeats 4000000 in
theorem kX8_beginAct {l : Launch} {G : GT} {μ : MemT} {w : PsT} (hw : w.1 < 60) {x : Int32} : sw_Met l G yX8_beginAct cX8_beginAct 2 (some .int) (rmk 3 66) [.ref (G.2.1 58), .int x] (putPs w μ) (fun v μ2 => v = some (.int (psBegin x w).1) ∧ μ2 = putPs (psBegin x w).2 μ) := by
  refine sw_Met.ofY (by decide) (Nat.le_of_ble_eq_true rfl) rfl ?_
  refine y_aload_n dX8_beginAct_0 rfl rfl ?_
  refine y_getr dX8_beginAct_1 14 clX8 kd_58 (by decide) wm_fl_X8_34 rfl rfl ?_
  refine y_aload_n dX8_beginAct_4 rfl rfl ?_
  refine y_geti dX8_beginAct_5 18 clX8 kd_58 (by decide) wm_fl_X8_124 rfl rfl ?_
  refine y_iload_n dX8_beginAct_8 rfl rfl ?_
  refine y_bipush dX8_beginAct_9 ib_46 ?_
  refine y_icmp_ne 18 dX8_beginAct_11 (by decide) (fun h11 => ?_) (fun h11 => ?_)
  · refine y_iload_n dX8_beginAct_18 rfl rfl ?_
    refine y_bipush dX8_beginAct_19 ib_42 ?_
    refine y_icmp_ne 28 dX8_beginAct_21 (by decide) (fun h21 => ?_) (fun h21 => ?_)
    · refine y_iload_n dX8_beginAct_28 rfl rfl ?_
      refine y_bipush dX8_beginAct_29 ib_94 ?_
      refine y_icmp_ne 38 dX8_beginAct_31 (by decide) (fun h31 => ?_) (fun h31 => ?_)
      · refine y_iconst dX8_beginAct_38 ic_0 ?_
        refine y_iast dX8_beginAct_39 w.1 kd_67 (by simp [psSit_1, ps70, ps69, ps68, ps67, ps58, p67, p68, p69, p70, putPs_58, nI_1]) hw (by decide) ?_
        refine y_aload_n dX8_beginAct_40 rfl rfl ?_
        refine y_getr dX8_beginAct_41 15 clX8 kd_58 (by decide) wm_fl_X8_37 rfl rfl ?_
        refine y_aload_n dX8_beginAct_44 rfl rfl ?_
        refine y_geti dX8_beginAct_45 18 clX8 kd_58 (by decide) wm_fl_X8_124 rfl rfl ?_
        refine y_iconst dX8_beginAct_48 ic_0 ?_
        refine y_iast dX8_beginAct_49 w.1 kd_68 (by simp [psSit_1, ps70, ps69, ps68, ps67, ps58, p67, p68, p69, p70, putPs_58, nI_1]) hw (by decide) ?_
        refine y_aload_n dX8_beginAct_50 rfl rfl ?_
        refine y_getr dX8_beginAct_51 16 clX8 kd_58 (by decide) wm_fl_X8_40 rfl rfl ?_
        refine y_aload_n dX8_beginAct_54 rfl rfl ?_
        refine y_geti dX8_beginAct_55 18 clX8 kd_58 (by decide) wm_fl_X8_124 rfl rfl ?_
        refine y_iconst dX8_beginAct_58 ic_0 ?_
        refine y_iast dX8_beginAct_59 w.1 kd_69 (by simp [psSit_1, ps70, ps69, ps68, ps67, ps58, p67, p68, p69, p70, putPs_58, nI_1]) hw (by decide) ?_
        refine y_aload_n dX8_beginAct_60 rfl rfl ?_
        refine y_getr dX8_beginAct_61 17 clX8 kd_58 (by decide) wm_fl_X8_43 rfl rfl ?_
        refine y_aload_n dX8_beginAct_64 rfl rfl ?_
        refine y_geti dX8_beginAct_65 18 clX8 kd_58 (by decide) wm_fl_X8_124 rfl rfl ?_
        refine y_iconst dX8_beginAct_68 ic_0 ?_
        refine y_iast dX8_beginAct_69 w.1 kd_70 (by simp [psSit_1, ps70, ps69, ps68, ps67, ps58, p67, p68, p69, p70, putPs_58, nI_1]) hw (by decide) ?_
        refine y_aload_n dX8_beginAct_70 rfl rfl ?_
        refine y_getr dX8_beginAct_71 14 clX8 kd_58 (by decide) wm_fl_X8_34 rfl rfl ?_
        refine y_aload_n dX8_beginAct_74 rfl rfl ?_
        refine y_geti dX8_beginAct_75 18 clX8 kd_58 (by decide) wm_fl_X8_124 rfl rfl ?_
        refine y_iald dX8_beginAct_78 w.1 kd_67 (by simp [psSit_1, ps70, ps69, ps68, ps67, ps58, p67, p68, p69, p70, putPs_58, nI_1]) hw (by decide) ?_
        refine y_if_ne 88 dX8_beginAct_79 (by decide) (fun h79 => ?_) (fun h79 => ?_)
        · refine y_aload_n dX8_beginAct_88 rfl rfl ?_
          refine y_dup dX8_beginAct_89 rfl ?_
          refine y_geti dX8_beginAct_90 18 clX8 kd_58 (by decide) wm_fl_X8_124 rfl rfl ?_
          refine y_iload_n dX8_beginAct_93 rfl rfl ?_
          refine y_bipush dX8_beginAct_94 ib_94 ?_
          refine y_icmp_ne 103 dX8_beginAct_96 (by decide) (fun h96 => ?_) (fun h96 => ?_)
          · refine y_iconst dX8_beginAct_103 ic_1 ?_
            refine y_iadd dX8_beginAct_104 ?_
            refine y_puti dX8_beginAct_105 18 clX8 kd_58 (by decide) wm_fl_X8_124 rfl rfl rfl rfl (tyX8_ok 18 (by decide)) rfl rfl ?_
            refine y_iload_n dX8_beginAct_108 rfl rfl ?_
            refine y_bipush dX8_beginAct_109 ib_94 ?_
            refine y_icmp_ne 118 dX8_beginAct_111 (by decide) (fun h111 => ?_) (fun h111 => ?_)
            · refine y_iconst dX8_beginAct_118 ic_0 ?_
              refine y_iret dX8_beginAct_119 ?_
              refine ⟨?_, ?_⟩ <;> simp_all [psBegin, psNew, kindC, upd_self, psSit_1, ps70, ps69, ps68, ps67, ps58, p67, p68, p69, p70, putPs_58, nI_1]
            · refine y_iconst dX8_beginAct_114 ic_4 ?_
              refine y_goto 119 dX8_beginAct_115 (by decide) ?_
              refine y_iret dX8_beginAct_119 ?_
              refine ⟨?_, ?_⟩ <;> simp_all [psBegin, psNew, kindC, upd_self, psSit_1, ps70, ps69, ps68, ps67, ps58, p67, p68, p69, p70, putPs_58, nI_1]
          · refine y_iconst dX8_beginAct_99 ic_0 ?_
            refine y_goto 104 dX8_beginAct_100 (by decide) ?_
            refine y_iadd dX8_beginAct_104 ?_
            refine y_puti dX8_beginAct_105 18 clX8 kd_58 (by decide) wm_fl_X8_124 rfl rfl rfl rfl (tyX8_ok 18 (by decide)) rfl rfl ?_
            refine y_iload_n dX8_beginAct_108 rfl rfl ?_
            refine y_bipush dX8_beginAct_109 ib_94 ?_
            refine y_icmp_ne 118 dX8_beginAct_111 (by decide) (fun h111 => ?_) (fun h111 => ?_)
            · refine y_iconst dX8_beginAct_118 ic_0 ?_
              refine y_iret dX8_beginAct_119 ?_
              refine ⟨?_, ?_⟩ <;> simp_all [psBegin, psNew, kindC, upd_self, psSit_1, ps70, ps69, ps68, ps67, ps58, p67, p68, p69, p70, putPs_58, nI_1]
            · refine y_iconst dX8_beginAct_114 ic_4 ?_
              refine y_goto 119 dX8_beginAct_115 (by decide) ?_
              refine y_iret dX8_beginAct_119 ?_
              refine ⟨?_, ?_⟩ <;> simp_all [psBegin, psNew, kindC, upd_self, psSit_1, ps70, ps69, ps68, ps67, ps58, p67, p68, p69, p70, putPs_58, nI_1]
        · refine y_aload_n dX8_beginAct_82 rfl rfl ?_
          refine y_iload_n dX8_beginAct_83 rfl rfl ?_
          simp only [ps70, ps69, ps68, ps67, p67, p68, p69, p70, putPs_58]
          refine y_cV1 dX8_beginAct_84 meX8_readNear clX8 kd_58 wm_ml_X8_127 (kX8_readNear (by exact hw)) ⟨Nat.le_of_ble_eq_true rfl, Nat.le_of_ble_eq_true rfl⟩ ⟨rfl, rfl⟩ (Nat.le_of_ble_eq_true rfl) (fun v84 μ84 hp84 => ?_)
          obtain ⟨rfl, he84⟩ := hp84
          replace he84 := he84.symm
          subst he84
          refine y_ri ?_
          refine y_iret dX8_beginAct_87 ?_
          refine ⟨?_, ?_⟩ <;> simp_all [psBegin, psNew, kindC, upd_self, psSit_1, ps70, ps69, ps68, ps67, ps58, p67, p68, p69, p70, putPs_58, nI_1]
      · refine y_iconst dX8_beginAct_34 ic_3 ?_
        refine y_goto 39 dX8_beginAct_35 (by decide) ?_
        refine y_iast dX8_beginAct_39 w.1 kd_67 (by simp [psSit_1, ps70, ps69, ps68, ps67, ps58, p67, p68, p69, p70, putPs_58, nI_1]) hw (by decide) ?_
        refine y_aload_n dX8_beginAct_40 rfl rfl ?_
        refine y_getr dX8_beginAct_41 15 clX8 kd_58 (by decide) wm_fl_X8_37 rfl rfl ?_
        refine y_aload_n dX8_beginAct_44 rfl rfl ?_
        refine y_geti dX8_beginAct_45 18 clX8 kd_58 (by decide) wm_fl_X8_124 rfl rfl ?_
        refine y_iconst dX8_beginAct_48 ic_0 ?_
        refine y_iast dX8_beginAct_49 w.1 kd_68 (by simp [psSit_1, ps70, ps69, ps68, ps67, ps58, p67, p68, p69, p70, putPs_58, nI_1]) hw (by decide) ?_
        refine y_aload_n dX8_beginAct_50 rfl rfl ?_
        refine y_getr dX8_beginAct_51 16 clX8 kd_58 (by decide) wm_fl_X8_40 rfl rfl ?_
        refine y_aload_n dX8_beginAct_54 rfl rfl ?_
        refine y_geti dX8_beginAct_55 18 clX8 kd_58 (by decide) wm_fl_X8_124 rfl rfl ?_
        refine y_iconst dX8_beginAct_58 ic_0 ?_
        refine y_iast dX8_beginAct_59 w.1 kd_69 (by simp [psSit_1, ps70, ps69, ps68, ps67, ps58, p67, p68, p69, p70, putPs_58, nI_1]) hw (by decide) ?_
        refine y_aload_n dX8_beginAct_60 rfl rfl ?_
        refine y_getr dX8_beginAct_61 17 clX8 kd_58 (by decide) wm_fl_X8_43 rfl rfl ?_
        refine y_aload_n dX8_beginAct_64 rfl rfl ?_
        refine y_geti dX8_beginAct_65 18 clX8 kd_58 (by decide) wm_fl_X8_124 rfl rfl ?_
        refine y_iconst dX8_beginAct_68 ic_0 ?_
        refine y_iast dX8_beginAct_69 w.1 kd_70 (by simp [psSit_1, ps70, ps69, ps68, ps67, ps58, p67, p68, p69, p70, putPs_58, nI_1]) hw (by decide) ?_
        refine y_aload_n dX8_beginAct_70 rfl rfl ?_
        refine y_getr dX8_beginAct_71 14 clX8 kd_58 (by decide) wm_fl_X8_34 rfl rfl ?_
        refine y_aload_n dX8_beginAct_74 rfl rfl ?_
        refine y_geti dX8_beginAct_75 18 clX8 kd_58 (by decide) wm_fl_X8_124 rfl rfl ?_
        refine y_iald dX8_beginAct_78 w.1 kd_67 (by simp [psSit_1, ps70, ps69, ps68, ps67, ps58, p67, p68, p69, p70, putPs_58, nI_1]) hw (by decide) ?_
        refine y_if_ne 88 dX8_beginAct_79 (by decide) (fun h79 => ?_) (fun h79 => ?_)
        · refine y_aload_n dX8_beginAct_88 rfl rfl ?_
          refine y_dup dX8_beginAct_89 rfl ?_
          refine y_geti dX8_beginAct_90 18 clX8 kd_58 (by decide) wm_fl_X8_124 rfl rfl ?_
          refine y_iload_n dX8_beginAct_93 rfl rfl ?_
          refine y_bipush dX8_beginAct_94 ib_94 ?_
          refine y_icmp_ne 103 dX8_beginAct_96 (by decide) (fun h96 => ?_) (fun h96 => ?_)
          · refine y_iconst dX8_beginAct_103 ic_1 ?_
            refine y_iadd dX8_beginAct_104 ?_
            refine y_puti dX8_beginAct_105 18 clX8 kd_58 (by decide) wm_fl_X8_124 rfl rfl rfl rfl (tyX8_ok 18 (by decide)) rfl rfl ?_
            refine y_iload_n dX8_beginAct_108 rfl rfl ?_
            refine y_bipush dX8_beginAct_109 ib_94 ?_
            refine y_icmp_ne 118 dX8_beginAct_111 (by decide) (fun h111 => ?_) (fun h111 => ?_)
            · refine y_iconst dX8_beginAct_118 ic_0 ?_
              refine y_iret dX8_beginAct_119 ?_
              refine ⟨?_, ?_⟩ <;> simp_all [psBegin, psNew, kindC, upd_self, psSit_1, ps70, ps69, ps68, ps67, ps58, p67, p68, p69, p70, putPs_58, nI_1]
            · refine y_iconst dX8_beginAct_114 ic_4 ?_
              refine y_goto 119 dX8_beginAct_115 (by decide) ?_
              refine y_iret dX8_beginAct_119 ?_
              refine ⟨?_, ?_⟩ <;> simp_all [psBegin, psNew, kindC, upd_self, psSit_1, ps70, ps69, ps68, ps67, ps58, p67, p68, p69, p70, putPs_58, nI_1]
          · refine y_iconst dX8_beginAct_99 ic_0 ?_
            refine y_goto 104 dX8_beginAct_100 (by decide) ?_
            refine y_iadd dX8_beginAct_104 ?_
            refine y_puti dX8_beginAct_105 18 clX8 kd_58 (by decide) wm_fl_X8_124 rfl rfl rfl rfl (tyX8_ok 18 (by decide)) rfl rfl ?_
            refine y_iload_n dX8_beginAct_108 rfl rfl ?_
            refine y_bipush dX8_beginAct_109 ib_94 ?_
            refine y_icmp_ne 118 dX8_beginAct_111 (by decide) (fun h111 => ?_) (fun h111 => ?_)
            · refine y_iconst dX8_beginAct_118 ic_0 ?_
              refine y_iret dX8_beginAct_119 ?_
              refine ⟨?_, ?_⟩ <;> simp_all [psBegin, psNew, kindC, upd_self, psSit_1, ps70, ps69, ps68, ps67, ps58, p67, p68, p69, p70, putPs_58, nI_1]
            · refine y_iconst dX8_beginAct_114 ic_4 ?_
              refine y_goto 119 dX8_beginAct_115 (by decide) ?_
              refine y_iret dX8_beginAct_119 ?_
              refine ⟨?_, ?_⟩ <;> simp_all [psBegin, psNew, kindC, upd_self, psSit_1, ps70, ps69, ps68, ps67, ps58, p67, p68, p69, p70, putPs_58, nI_1]
        · refine y_aload_n dX8_beginAct_82 rfl rfl ?_
          refine y_iload_n dX8_beginAct_83 rfl rfl ?_
          simp only [ps70, ps69, ps68, ps67, p67, p68, p69, p70, putPs_58]
          refine y_cV1 dX8_beginAct_84 meX8_readNear clX8 kd_58 wm_ml_X8_127 (kX8_readNear (by exact hw)) ⟨Nat.le_of_ble_eq_true rfl, Nat.le_of_ble_eq_true rfl⟩ ⟨rfl, rfl⟩ (Nat.le_of_ble_eq_true rfl) (fun v84 μ84 hp84 => ?_)
          obtain ⟨rfl, he84⟩ := hp84
          replace he84 := he84.symm
          subst he84
          refine y_ri ?_
          refine y_iret dX8_beginAct_87 ?_
          refine ⟨?_, ?_⟩ <;> simp_all [psBegin, psNew, kindC, upd_self, psSit_1, ps70, ps69, ps68, ps67, ps58, p67, p68, p69, p70, putPs_58, nI_1]
    · refine y_iconst dX8_beginAct_24 ic_2 ?_
      refine y_goto 39 dX8_beginAct_25 (by decide) ?_
      refine y_iast dX8_beginAct_39 w.1 kd_67 (by simp [psSit_1, ps70, ps69, ps68, ps67, ps58, p67, p68, p69, p70, putPs_58, nI_1]) hw (by decide) ?_
      refine y_aload_n dX8_beginAct_40 rfl rfl ?_
      refine y_getr dX8_beginAct_41 15 clX8 kd_58 (by decide) wm_fl_X8_37 rfl rfl ?_
      refine y_aload_n dX8_beginAct_44 rfl rfl ?_
      refine y_geti dX8_beginAct_45 18 clX8 kd_58 (by decide) wm_fl_X8_124 rfl rfl ?_
      refine y_iconst dX8_beginAct_48 ic_0 ?_
      refine y_iast dX8_beginAct_49 w.1 kd_68 (by simp [psSit_1, ps70, ps69, ps68, ps67, ps58, p67, p68, p69, p70, putPs_58, nI_1]) hw (by decide) ?_
      refine y_aload_n dX8_beginAct_50 rfl rfl ?_
      refine y_getr dX8_beginAct_51 16 clX8 kd_58 (by decide) wm_fl_X8_40 rfl rfl ?_
      refine y_aload_n dX8_beginAct_54 rfl rfl ?_
      refine y_geti dX8_beginAct_55 18 clX8 kd_58 (by decide) wm_fl_X8_124 rfl rfl ?_
      refine y_iconst dX8_beginAct_58 ic_0 ?_
      refine y_iast dX8_beginAct_59 w.1 kd_69 (by simp [psSit_1, ps70, ps69, ps68, ps67, ps58, p67, p68, p69, p70, putPs_58, nI_1]) hw (by decide) ?_
      refine y_aload_n dX8_beginAct_60 rfl rfl ?_
      refine y_getr dX8_beginAct_61 17 clX8 kd_58 (by decide) wm_fl_X8_43 rfl rfl ?_
      refine y_aload_n dX8_beginAct_64 rfl rfl ?_
      refine y_geti dX8_beginAct_65 18 clX8 kd_58 (by decide) wm_fl_X8_124 rfl rfl ?_
      refine y_iconst dX8_beginAct_68 ic_0 ?_
      refine y_iast dX8_beginAct_69 w.1 kd_70 (by simp [psSit_1, ps70, ps69, ps68, ps67, ps58, p67, p68, p69, p70, putPs_58, nI_1]) hw (by decide) ?_
      refine y_aload_n dX8_beginAct_70 rfl rfl ?_
      refine y_getr dX8_beginAct_71 14 clX8 kd_58 (by decide) wm_fl_X8_34 rfl rfl ?_
      refine y_aload_n dX8_beginAct_74 rfl rfl ?_
      refine y_geti dX8_beginAct_75 18 clX8 kd_58 (by decide) wm_fl_X8_124 rfl rfl ?_
      refine y_iald dX8_beginAct_78 w.1 kd_67 (by simp [psSit_1, ps70, ps69, ps68, ps67, ps58, p67, p68, p69, p70, putPs_58, nI_1]) hw (by decide) ?_
      refine y_if_ne 88 dX8_beginAct_79 (by decide) (fun h79 => ?_) (fun h79 => ?_)
      · refine y_aload_n dX8_beginAct_88 rfl rfl ?_
        refine y_dup dX8_beginAct_89 rfl ?_
        refine y_geti dX8_beginAct_90 18 clX8 kd_58 (by decide) wm_fl_X8_124 rfl rfl ?_
        refine y_iload_n dX8_beginAct_93 rfl rfl ?_
        refine y_bipush dX8_beginAct_94 ib_94 ?_
        refine y_icmp_ne 103 dX8_beginAct_96 (by decide) (fun h96 => ?_) (fun h96 => ?_)
        · refine y_iconst dX8_beginAct_103 ic_1 ?_
          refine y_iadd dX8_beginAct_104 ?_
          refine y_puti dX8_beginAct_105 18 clX8 kd_58 (by decide) wm_fl_X8_124 rfl rfl rfl rfl (tyX8_ok 18 (by decide)) rfl rfl ?_
          refine y_iload_n dX8_beginAct_108 rfl rfl ?_
          refine y_bipush dX8_beginAct_109 ib_94 ?_
          refine y_icmp_ne 118 dX8_beginAct_111 (by decide) (fun h111 => ?_) (fun h111 => ?_)
          · refine y_iconst dX8_beginAct_118 ic_0 ?_
            refine y_iret dX8_beginAct_119 ?_
            refine ⟨?_, ?_⟩ <;> simp_all [psBegin, psNew, kindC, upd_self, psSit_1, ps70, ps69, ps68, ps67, ps58, p67, p68, p69, p70, putPs_58, nI_1]
          · refine y_iconst dX8_beginAct_114 ic_4 ?_
            refine y_goto 119 dX8_beginAct_115 (by decide) ?_
            refine y_iret dX8_beginAct_119 ?_
            refine ⟨?_, ?_⟩ <;> simp_all [psBegin, psNew, kindC, upd_self, psSit_1, ps70, ps69, ps68, ps67, ps58, p67, p68, p69, p70, putPs_58, nI_1]
        · refine y_iconst dX8_beginAct_99 ic_0 ?_
          refine y_goto 104 dX8_beginAct_100 (by decide) ?_
          refine y_iadd dX8_beginAct_104 ?_
          refine y_puti dX8_beginAct_105 18 clX8 kd_58 (by decide) wm_fl_X8_124 rfl rfl rfl rfl (tyX8_ok 18 (by decide)) rfl rfl ?_
          refine y_iload_n dX8_beginAct_108 rfl rfl ?_
          refine y_bipush dX8_beginAct_109 ib_94 ?_
          refine y_icmp_ne 118 dX8_beginAct_111 (by decide) (fun h111 => ?_) (fun h111 => ?_)
          · refine y_iconst dX8_beginAct_118 ic_0 ?_
            refine y_iret dX8_beginAct_119 ?_
            refine ⟨?_, ?_⟩ <;> simp_all [psBegin, psNew, kindC, upd_self, psSit_1, ps70, ps69, ps68, ps67, ps58, p67, p68, p69, p70, putPs_58, nI_1]
          · refine y_iconst dX8_beginAct_114 ic_4 ?_
            refine y_goto 119 dX8_beginAct_115 (by decide) ?_
            refine y_iret dX8_beginAct_119 ?_
            refine ⟨?_, ?_⟩ <;> simp_all [psBegin, psNew, kindC, upd_self, psSit_1, ps70, ps69, ps68, ps67, ps58, p67, p68, p69, p70, putPs_58, nI_1]
      · refine y_aload_n dX8_beginAct_82 rfl rfl ?_
        refine y_iload_n dX8_beginAct_83 rfl rfl ?_
        simp only [ps70, ps69, ps68, ps67, p67, p68, p69, p70, putPs_58]
        refine y_cV1 dX8_beginAct_84 meX8_readNear clX8 kd_58 wm_ml_X8_127 (kX8_readNear (by exact hw)) ⟨Nat.le_of_ble_eq_true rfl, Nat.le_of_ble_eq_true rfl⟩ ⟨rfl, rfl⟩ (Nat.le_of_ble_eq_true rfl) (fun v84 μ84 hp84 => ?_)
        obtain ⟨rfl, he84⟩ := hp84
        replace he84 := he84.symm
        subst he84
        refine y_ri ?_
        refine y_iret dX8_beginAct_87 ?_
        refine ⟨?_, ?_⟩ <;> simp_all [psBegin, psNew, kindC, upd_self, psSit_1, ps70, ps69, ps68, ps67, ps58, p67, p68, p69, p70, putPs_58, nI_1]
  · refine y_iconst dX8_beginAct_14 ic_1 ?_
    refine y_goto 39 dX8_beginAct_15 (by decide) ?_
    refine y_iast dX8_beginAct_39 w.1 kd_67 (by simp [psSit_1, ps70, ps69, ps68, ps67, ps58, p67, p68, p69, p70, putPs_58, nI_1]) hw (by decide) ?_
    refine y_aload_n dX8_beginAct_40 rfl rfl ?_
    refine y_getr dX8_beginAct_41 15 clX8 kd_58 (by decide) wm_fl_X8_37 rfl rfl ?_
    refine y_aload_n dX8_beginAct_44 rfl rfl ?_
    refine y_geti dX8_beginAct_45 18 clX8 kd_58 (by decide) wm_fl_X8_124 rfl rfl ?_
    refine y_iconst dX8_beginAct_48 ic_0 ?_
    refine y_iast dX8_beginAct_49 w.1 kd_68 (by simp [psSit_1, ps70, ps69, ps68, ps67, ps58, p67, p68, p69, p70, putPs_58, nI_1]) hw (by decide) ?_
    refine y_aload_n dX8_beginAct_50 rfl rfl ?_
    refine y_getr dX8_beginAct_51 16 clX8 kd_58 (by decide) wm_fl_X8_40 rfl rfl ?_
    refine y_aload_n dX8_beginAct_54 rfl rfl ?_
    refine y_geti dX8_beginAct_55 18 clX8 kd_58 (by decide) wm_fl_X8_124 rfl rfl ?_
    refine y_iconst dX8_beginAct_58 ic_0 ?_
    refine y_iast dX8_beginAct_59 w.1 kd_69 (by simp [psSit_1, ps70, ps69, ps68, ps67, ps58, p67, p68, p69, p70, putPs_58, nI_1]) hw (by decide) ?_
    refine y_aload_n dX8_beginAct_60 rfl rfl ?_
    refine y_getr dX8_beginAct_61 17 clX8 kd_58 (by decide) wm_fl_X8_43 rfl rfl ?_
    refine y_aload_n dX8_beginAct_64 rfl rfl ?_
    refine y_geti dX8_beginAct_65 18 clX8 kd_58 (by decide) wm_fl_X8_124 rfl rfl ?_
    refine y_iconst dX8_beginAct_68 ic_0 ?_
    refine y_iast dX8_beginAct_69 w.1 kd_70 (by simp [psSit_1, ps70, ps69, ps68, ps67, ps58, p67, p68, p69, p70, putPs_58, nI_1]) hw (by decide) ?_
    refine y_aload_n dX8_beginAct_70 rfl rfl ?_
    refine y_getr dX8_beginAct_71 14 clX8 kd_58 (by decide) wm_fl_X8_34 rfl rfl ?_
    refine y_aload_n dX8_beginAct_74 rfl rfl ?_
    refine y_geti dX8_beginAct_75 18 clX8 kd_58 (by decide) wm_fl_X8_124 rfl rfl ?_
    refine y_iald dX8_beginAct_78 w.1 kd_67 (by simp [psSit_1, ps70, ps69, ps68, ps67, ps58, p67, p68, p69, p70, putPs_58, nI_1]) hw (by decide) ?_
    refine y_if_ne 88 dX8_beginAct_79 (by decide) (fun h79 => ?_) (fun h79 => ?_)
    · refine y_aload_n dX8_beginAct_88 rfl rfl ?_
      refine y_dup dX8_beginAct_89 rfl ?_
      refine y_geti dX8_beginAct_90 18 clX8 kd_58 (by decide) wm_fl_X8_124 rfl rfl ?_
      refine y_iload_n dX8_beginAct_93 rfl rfl ?_
      refine y_bipush dX8_beginAct_94 ib_94 ?_
      refine y_icmp_ne 103 dX8_beginAct_96 (by decide) (fun h96 => ?_) (fun h96 => ?_)
      · refine y_iconst dX8_beginAct_103 ic_1 ?_
        refine y_iadd dX8_beginAct_104 ?_
        refine y_puti dX8_beginAct_105 18 clX8 kd_58 (by decide) wm_fl_X8_124 rfl rfl rfl rfl (tyX8_ok 18 (by decide)) rfl rfl ?_
        refine y_iload_n dX8_beginAct_108 rfl rfl ?_
        refine y_bipush dX8_beginAct_109 ib_94 ?_
        refine y_icmp_ne 118 dX8_beginAct_111 (by decide) (fun h111 => ?_) (fun h111 => ?_)
        · refine y_iconst dX8_beginAct_118 ic_0 ?_
          refine y_iret dX8_beginAct_119 ?_
          refine ⟨?_, ?_⟩ <;> simp_all [psBegin, psNew, kindC, upd_self, psSit_1, ps70, ps69, ps68, ps67, ps58, p67, p68, p69, p70, putPs_58, nI_1]
        · refine y_iconst dX8_beginAct_114 ic_4 ?_
          refine y_goto 119 dX8_beginAct_115 (by decide) ?_
          refine y_iret dX8_beginAct_119 ?_
          refine ⟨?_, ?_⟩ <;> simp_all [psBegin, psNew, kindC, upd_self, psSit_1, ps70, ps69, ps68, ps67, ps58, p67, p68, p69, p70, putPs_58, nI_1]
      · refine y_iconst dX8_beginAct_99 ic_0 ?_
        refine y_goto 104 dX8_beginAct_100 (by decide) ?_
        refine y_iadd dX8_beginAct_104 ?_
        refine y_puti dX8_beginAct_105 18 clX8 kd_58 (by decide) wm_fl_X8_124 rfl rfl rfl rfl (tyX8_ok 18 (by decide)) rfl rfl ?_
        refine y_iload_n dX8_beginAct_108 rfl rfl ?_
        refine y_bipush dX8_beginAct_109 ib_94 ?_
        refine y_icmp_ne 118 dX8_beginAct_111 (by decide) (fun h111 => ?_) (fun h111 => ?_)
        · refine y_iconst dX8_beginAct_118 ic_0 ?_
          refine y_iret dX8_beginAct_119 ?_
          refine ⟨?_, ?_⟩ <;> simp_all [psBegin, psNew, kindC, upd_self, psSit_1, ps70, ps69, ps68, ps67, ps58, p67, p68, p69, p70, putPs_58, nI_1]
        · refine y_iconst dX8_beginAct_114 ic_4 ?_
          refine y_goto 119 dX8_beginAct_115 (by decide) ?_
          refine y_iret dX8_beginAct_119 ?_
          refine ⟨?_, ?_⟩ <;> simp_all [psBegin, psNew, kindC, upd_self, psSit_1, ps70, ps69, ps68, ps67, ps58, p67, p68, p69, p70, putPs_58, nI_1]
    · refine y_aload_n dX8_beginAct_82 rfl rfl ?_
      refine y_iload_n dX8_beginAct_83 rfl rfl ?_
      simp only [ps70, ps69, ps68, ps67, p67, p68, p69, p70, putPs_58]
      refine y_cV1 dX8_beginAct_84 meX8_readNear clX8 kd_58 wm_ml_X8_127 (kX8_readNear (by exact hw)) ⟨Nat.le_of_ble_eq_true rfl, Nat.le_of_ble_eq_true rfl⟩ ⟨rfl, rfl⟩ (Nat.le_of_ble_eq_true rfl) (fun v84 μ84 hp84 => ?_)
      obtain ⟨rfl, he84⟩ := hp84
      replace he84 := he84.symm
      subst he84
      refine y_ri ?_
      refine y_iret dX8_beginAct_87 ?_
      refine ⟨?_, ?_⟩ <;> simp_all [psBegin, psNew, kindC, upd_self, psSit_1, ps70, ps69, ps68, ps67, ps58, p67, p68, p69, p70, putPs_58, nI_1]
