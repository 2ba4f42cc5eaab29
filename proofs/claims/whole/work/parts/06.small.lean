/-! numbers between bounds, bits, persons -/
def inR (x : Int32) (a b : Int) : Bool := decide (a ≤ x.toInt ∧ x.toInt ≤ b)
def bitI (t x : Int32) : Bool := decide ((t >>> (x &&& 31)) &&& 1 = 1)
def isP (t x : Int32) : Bool := inR x 0 7 && bitI t x
def bt (t : Int32) (p : Nat) : Bool := bitI t (nI p)
theorem le_toInt {x y : Int32} : x ≤ y ↔ x.toInt ≤ y.toInt := Int32.le_iff_toInt_le
theorem lt_toInt {x y : Int32} : x < y ↔ x.toInt < y.toInt := Int32.lt_iff_toInt_lt
theorem ti_0 : (0 : Int32).toInt = 0 := rfl
theorem ti_7 : (7 : Int32).toInt = 7 := rfl
theorem ti_8 : (8 : Int32).toInt = 8 := rfl
theorem e_b0 {B : Bool} (h : B = false) : some (Value.int 0) = some (Value.int (bI B)) := by rw [h]; rfl
theorem e_b1 {B : Bool} (h : B = true) : some (Value.int 1) = some (Value.int (bI B)) := by rw [h]; rfl
theorem inR_t {x : Int32} {a b : Int} (h1 : a ≤ x.toInt) (h2 : x.toInt ≤ b) : inR x a b = true := decide_eq_true ⟨h1, h2⟩
theorem inR_f1 {x : Int32} {a b : Int} (h1 : x.toInt < a) : inR x a b = false := decide_eq_false (fun q => by omega)
theorem inR_f2 {x : Int32} {a b : Int} (h1 : b < x.toInt) : inR x a b = false := decide_eq_false (fun q => by omega)
theorem isP_n {t : Int32} {p : Nat} (hp : p < 8) : isP t (nI p) = bt t p := by
  have h := nI_toInt (n := p) (by omega)
  unfold isP bt
  rw [inR_t (by rw [h]; omega) (by rw [h]; omega)]
  rfl
theorem isP_nI {t x : Int32} (h : isP t x = true) : x = nI x.toNatClampNeg ∧ x.toNatClampNeg < 8 := by
  unfold isP inR at h
  have h1 : 0 ≤ x.toInt ∧ x.toInt ≤ 7 := of_decide_eq_true (Bool.and_eq_true_iff.mp h).1
  obtain ⟨j, hj, rfl⟩ := nI_of (x := x) (by rw [lt_toInt, ti_0]; omega)
  rw [nI_clamp hj]
  have := nI_toInt hj
  exact ⟨rfl, by omega⟩
theorem isP_ex {t x : Int32} (h : isP t x = true) : ∃ p : Nat, p < 8 ∧ x = nI p ∧ bt t p = true := by
  obtain ⟨h1, h2⟩ := isP_nI h
  refine ⟨x.toNatClampNeg, h2, h1, ?_⟩
  rw [← isP_n h2, ← h1]
  exact h

set_option maxRecDepth 100000 in
set_option maxHeartbeats 4000000 in
theorem kX7_within {l : Launch} {G : GT} {μ : MemT} {x a b : Int32} : sw_Met l G yX7_within cX7_within 3 (some .boolean) (rmk 0 0) [.int x, .int a, .int b] μ (fun v μ2 => v = some (.int (bI (inR x a.toInt b.toInt))) ∧ μ2 = μ) := by
  refine sw_Met.ofY (by decide) (Nat.le_of_ble_eq_true rfl) rfl ?_
  refine y_iload_n dX7_within_0 rfl rfl ?_
  refine y_iload_n dX7_within_1 rfl rfl ?_
  refine y_icmp_gt 14 dX7_within_2 (by decide) (fun h2 => ?_) (fun h2 => ?_)
  · refine y_iconst dX7_within_14 ic_0 ?_
    refine y_zret dX7_within_15 rfl ?_
    refine ⟨e_b0 ?_, rfl⟩
    grind [inR, le_toInt, lt_toInt]
  · refine y_iload_n dX7_within_5 rfl rfl ?_
    refine y_iload_n dX7_within_6 rfl rfl ?_
    refine y_icmp_gt 14 dX7_within_7 (by decide) (fun h7 => ?_) (fun h7 => ?_)
    · refine y_iconst dX7_within_14 ic_0 ?_
      refine y_zret dX7_within_15 rfl ?_
      refine ⟨e_b0 ?_, rfl⟩
      grind [inR, le_toInt, lt_toInt]
    · refine y_iconst dX7_within_10 ic_1 ?_
      refine y_goto 15 dX7_within_11 (by decide) ?_
      refine y_zret dX7_within_15 rfl ?_
      refine ⟨e_b1 ?_, rfl⟩
      grind [inR, le_toInt, lt_toInt]

set_option maxRecDepth 100000 in
set_option maxHeartbeats 4000000 in
theorem kX7_holds {l : Launch} {G : GT} {μ : MemT} {t x : Int32} : sw_Met l G yX7_holds cX7_holds 2 (some .boolean) (rmk 0 0) [.int t, .int x] μ (fun v μ2 => v = some (.int (bI (isP t x))) ∧ μ2 = μ) := by
  refine sw_Met.ofY (by decide) (Nat.le_of_ble_eq_true rfl) rfl ?_
  refine y_iload_n dX7_holds_0 rfl rfl ?_
  refine y_if_lt 23 dX7_holds_1 (by decide) (fun h1 => ?_) (fun h1 => ?_)
  · refine y_iconst dX7_holds_23 ic_0 ?_
    refine y_zret dX7_holds_24 rfl ?_
    refine ⟨e_b0 ?_, rfl⟩
    grind [isP, bitI, inR, le_toInt, lt_toInt, ti_0, ti_8]
  · refine y_iload_n dX7_holds_4 rfl rfl ?_
    refine y_bipush dX7_holds_5 ib_8 ?_
    refine y_icmp_ge 23 dX7_holds_7 (by decide) (fun h7 => ?_) (fun h7 => ?_)
    · refine y_iconst dX7_holds_23 ic_0 ?_
      refine y_zret dX7_holds_24 rfl ?_
      refine ⟨e_b0 ?_, rfl⟩
      grind [isP, bitI, inR, le_toInt, lt_toInt, ti_0, ti_8]
    · refine y_iload_n dX7_holds_10 rfl rfl ?_
      refine y_iload_n dX7_holds_11 rfl rfl ?_
      refine y_ishr dX7_holds_12 ?_
      refine y_iconst dX7_holds_13 ic_1 ?_
      refine y_iand dX7_holds_14 ?_
      refine y_iconst dX7_holds_15 ic_1 ?_
      refine y_icmp_ne 23 dX7_holds_16 (by decide) (fun h16 => ?_) (fun h16 => ?_)
      · refine y_iconst dX7_holds_23 ic_0 ?_
        refine y_zret dX7_holds_24 rfl ?_
        refine ⟨e_b0 ?_, rfl⟩
        grind [isP, bitI, inR, le_toInt, lt_toInt, ti_0, ti_8]
      · refine y_iconst dX7_holds_19 ic_1 ?_
        refine y_goto 24 dX7_holds_20 (by decide) ?_
        refine y_zret dX7_holds_24 rfl ?_
        refine ⟨e_b1 ?_, rfl⟩
        grind [isP, bitI, inR, le_toInt, lt_toInt, ti_0, ti_8]

def balI (x y : Int32) : Int32 := if x < y then 0 else if x = y then 1 else 2
def nxtI (s w : Int32) : Int32 := (s - w) &&& w
def shU (x y : Int32) : Int32 := (x.toUInt32 >>> (y.toUInt32 &&& Int32.toUInt32 31)).toInt32
def bc1 (x : Int32) : Int32 := x - (shU x 1 &&& 1431655765)
def bc2 (x : Int32) : Int32 := (x &&& 858993459) + (shU x 2 &&& 858993459)
def bc3 (x : Int32) : Int32 := (x + shU x 4) &&& 252645135
def bc4 (x : Int32) : Int32 := x + shU x 8
def bc5 (x : Int32) : Int32 := x + shU x 16
def bcI (x : Int32) : Int32 := bc5 (bc4 (bc3 (bc2 (bc1 x)))) &&& 63

set_option maxRecDepth 100000 in
set_option maxHeartbeats 4000000 in
theorem kX7_balance {l : Launch} {G : GT} {μ : MemT} {x y : Int32} : sw_Met l G yX7_balance cX7_balance 2 (some .int) (rmk 0 0) [.int x, .int y] μ (fun v μ2 => v = some (.int (balI x y)) ∧ μ2 = μ) := by
  refine sw_Met.ofY (by decide) (Nat.le_of_ble_eq_true rfl) rfl ?_
  refine y_iload_n dX7_balance_0 rfl rfl ?_
  refine y_iload_n dX7_balance_1 rfl rfl ?_
  refine y_icmp_ge 9 dX7_balance_2 (by decide) (fun h2 => ?_) (fun h2 => ?_)
  · refine y_iload_n dX7_balance_9 rfl rfl ?_
    refine y_iload_n dX7_balance_10 rfl rfl ?_
    refine y_icmp_ne 18 dX7_balance_11 (by decide) (fun h11 => ?_) (fun h11 => ?_)
    · refine y_iconst dX7_balance_18 ic_2 ?_
      refine y_iret dX7_balance_19 ?_
      exact ⟨by simp [balI, *], rfl⟩
    · refine y_iconst dX7_balance_14 ic_1 ?_
      refine y_goto 19 dX7_balance_15 (by decide) ?_
      refine y_iret dX7_balance_19 ?_
      exact ⟨by simp [balI, *], rfl⟩
  · refine y_iconst dX7_balance_5 ic_0 ?_
    refine y_goto 19 dX7_balance_6 (by decide) ?_
    refine y_iret dX7_balance_19 ?_
    exact ⟨by simp [balI, *], rfl⟩

set_option maxRecDepth 100000 in
set_option maxHeartbeats 4000000 in
theorem kX7_nextSubset {l : Launch} {G : GT} {μ : MemT} {x y : Int32} : sw_Met l G yX7_nextSubset cX7_nextSubset 2 (some .int) (rmk 0 0) [.int x, .int y] μ (fun v μ2 => v = some (.int (nxtI x y)) ∧ μ2 = μ) := by
  refine sw_Met.ofY (by decide) (Nat.le_of_ble_eq_true rfl) rfl ?_
  refine y_iload_n dX7_nextSubset_0 rfl rfl ?_
  refine y_iload_n dX7_nextSubset_1 rfl rfl ?_
  refine y_isub dX7_nextSubset_2 ?_
  refine y_iload_n dX7_nextSubset_3 rfl rfl ?_
  refine y_iand dX7_nextSubset_4 ?_
  refine y_iret dX7_nextSubset_5 ?_
  exact ⟨rfl, rfl⟩

set_option maxRecDepth 100000 in
set_option maxHeartbeats 4000000 in
theorem kJ6_bitCount_0f7a4 {l : Launch} {G : GT} {μ : MemT} {x : Int32} : sw_Met l G yJ6_bitCount_0f7a4 cJ6_bitCount_0f7a4 1 (some .int) (rmk 0 0) [.int x] μ (fun v μ2 => v = some (.int (bcI x)) ∧ μ2 = μ) := by
  refine sw_Met.ofY (by decide) (Nat.le_of_ble_eq_true rfl) rfl ?_
  refine y_iload_n dJ6_bitCount_0f7a4_0 rfl rfl ?_
  refine y_iload_n dJ6_bitCount_0f7a4_1 rfl rfl ?_
  refine y_iconst dJ6_bitCount_0f7a4_2 ic_1 ?_
  refine y_iushr dJ6_bitCount_0f7a4_3 ?_
  refine y_ldcw dJ6_bitCount_0f7a4_4 wm_ck_J6_265 ?_
  refine y_iand dJ6_bitCount_0f7a4_7 ?_
  refine y_isub dJ6_bitCount_0f7a4_8 ?_
  refine y_istore_n dJ6_bitCount_0f7a4_9 rfl rfl (by decide) ?_
  refine y_iload_n dJ6_bitCount_0f7a4_10 rfl rfl ?_
  refine y_ldcw dJ6_bitCount_0f7a4_11 wm_ck_J6_266 ?_
  refine y_iand dJ6_bitCount_0f7a4_14 ?_
  refine y_iload_n dJ6_bitCount_0f7a4_15 rfl rfl ?_
  refine y_iconst dJ6_bitCount_0f7a4_16 ic_2 ?_
  refine y_iushr dJ6_bitCount_0f7a4_17 ?_
  refine y_ldcw dJ6_bitCount_0f7a4_18 wm_ck_J6_266 ?_
  refine y_iand dJ6_bitCount_0f7a4_21 ?_
  refine y_iadd dJ6_bitCount_0f7a4_22 ?_
  refine y_istore_n dJ6_bitCount_0f7a4_23 rfl rfl (by decide) ?_
  refine y_iload_n dJ6_bitCount_0f7a4_24 rfl rfl ?_
  refine y_iload_n dJ6_bitCount_0f7a4_25 rfl rfl ?_
  refine y_iconst dJ6_bitCount_0f7a4_26 ic_4 ?_
  refine y_iushr dJ6_bitCount_0f7a4_27 ?_
  refine y_iadd dJ6_bitCount_0f7a4_28 ?_
  refine y_ldcw dJ6_bitCount_0f7a4_29 wm_ck_J6_267 ?_
  refine y_iand dJ6_bitCount_0f7a4_32 ?_
  refine y_istore_n dJ6_bitCount_0f7a4_33 rfl rfl (by decide) ?_
  refine y_iload_n dJ6_bitCount_0f7a4_34 rfl rfl ?_
  refine y_iload_n dJ6_bitCount_0f7a4_35 rfl rfl ?_
  refine y_bipush dJ6_bitCount_0f7a4_36 ib_8 ?_
  refine y_iushr dJ6_bitCount_0f7a4_38 ?_
  refine y_iadd dJ6_bitCount_0f7a4_39 ?_
  refine y_istore_n dJ6_bitCount_0f7a4_40 rfl rfl (by decide) ?_
  refine y_iload_n dJ6_bitCount_0f7a4_41 rfl rfl ?_
  refine y_iload_n dJ6_bitCount_0f7a4_42 rfl rfl ?_
  refine y_bipush dJ6_bitCount_0f7a4_43 ib_16 ?_
  refine y_iushr dJ6_bitCount_0f7a4_45 ?_
  refine y_iadd dJ6_bitCount_0f7a4_46 ?_
  refine y_istore_n dJ6_bitCount_0f7a4_47 rfl rfl (by decide) ?_
  refine y_iload_n dJ6_bitCount_0f7a4_48 rfl rfl ?_
  refine y_bipush dJ6_bitCount_0f7a4_49 ib_63 ?_
  refine y_iand dJ6_bitCount_0f7a4_51 ?_
  refine y_iret dJ6_bitCount_0f7a4_52 ?_
  exact ⟨rfl, rfl⟩

set_option maxRecDepth 100000 in
set_option maxHeartbeats 4000000 in
theorem kX7_subsetsOf {l : Launch} {G : GT} {μ : MemT} {x : Int32} : sw_Met l G yX7_subsetsOf cX7_subsetsOf 1 (some .int) (rmk 1 20) [.int x] μ (fun v μ2 => v = some (.int (1 <<< (bcI (x &&& 255) &&& 31))) ∧ μ2 = μ) := by
  refine sw_Met.ofY (by decide) (Nat.le_of_ble_eq_true rfl) rfl ?_
  refine y_iconst dX7_subsetsOf_0 ic_1 ?_
  refine y_iload_n dX7_subsetsOf_1 rfl rfl ?_
  refine y_sipush dX7_subsetsOf_2 is_255 ?_
  refine y_iand dX7_subsetsOf_5 ?_
  refine y_cS1 dX7_subsetsOf_6 meJ6_bitCount_0f7a4 wm_ml_X7_277 (kJ6_bitCount_0f7a4) ⟨Nat.le_of_ble_eq_true rfl, Nat.le_of_ble_eq_true rfl⟩ ⟨rfl, rfl⟩ (Nat.le_of_ble_eq_true rfl) (fun v6 μ6 hp6 => ?_)
  obtain ⟨rfl, rfl⟩ := hp6
  refine y_ri ?_
  refine y_ishl dX7_subsetsOf_9 ?_
  refine y_iret dX7_subsetsOf_10 ?_
  exact ⟨rfl, rfl⟩

set_option maxRecDepth 100000 in
set_option maxHeartbeats 4000000 in
theorem kX4_has {l : Launch} {G : GT} {b : Nat} (hT : isTw b) {μ : MemT} {x : Int32} : sw_Met l G yX4_has cX4_has 2 (some .boolean) (rmk 0 0) [.ref (G.2.1 b), .int x] μ (fun v μ2 => v = some (.int (bI (isP (μ b 7) x))) ∧ μ2 = μ) := by
  refine sw_Met.ofY (by decide) (Nat.le_of_ble_eq_true rfl) rfl ?_
  refine y_iload_n dX4_has_0 rfl rfl ?_
  refine y_if_lt 26 dX4_has_1 (by decide) (fun h1 => ?_) (fun h1 => ?_)
  · refine y_iconst dX4_has_26 ic_0 ?_
    refine y_zret dX4_has_27 rfl ?_
    refine ⟨e_b0 ?_, rfl⟩
    grind [isP, bitI, inR, le_toInt, lt_toInt, ti_0, ti_8]
  · refine y_iload_n dX4_has_4 rfl rfl ?_
    refine y_bipush dX4_has_5 ib_8 ?_
    refine y_icmp_ge 26 dX4_has_7 (by decide) (fun h7 => ?_) (fun h7 => ?_)
    · refine y_iconst dX4_has_26 ic_0 ?_
      refine y_zret dX4_has_27 rfl ?_
      refine ⟨e_b0 ?_, rfl⟩
      grind [isP, bitI, inR, le_toInt, lt_toInt, ti_0, ti_8]
    · refine y_aload_n dX4_has_10 rfl rfl ?_
      refine y_geti dX4_has_11 7 clX4 (tw_0 hT) (by decide) wm_fl_X4_49 rfl rfl ?_
      refine y_iload_n dX4_has_14 rfl rfl ?_
      refine y_ishr dX4_has_15 ?_
      refine y_iconst dX4_has_16 ic_1 ?_
      refine y_iand dX4_has_17 ?_
      refine y_iconst dX4_has_18 ic_1 ?_
      refine y_icmp_ne 26 dX4_has_19 (by decide) (fun h19 => ?_) (fun h19 => ?_)
      · refine y_iconst dX4_has_26 ic_0 ?_
        refine y_zret dX4_has_27 rfl ?_
        refine ⟨e_b0 ?_, rfl⟩
        grind [isP, bitI, inR, le_toInt, lt_toInt, ti_0, ti_8]
      · refine y_iconst dX4_has_22 ic_1 ?_
        refine y_goto 27 dX4_has_23 (by decide) ?_
        refine y_zret dX4_has_27 rfl ?_
        refine ⟨e_b1 ?_, rfl⟩
        grind [isP, bitI, inR, le_toInt, lt_toInt, ti_0, ti_8]

set_option maxRecDepth 100000 in
set_option maxHeartbeats 4000000 in
theorem kX4_hasTwo {l : Launch} {G : GT} {b : Nat} (hT : isTw b) {μ : MemT} {x y : Int32} : sw_Met l G yX4_hasTwo cX4_hasTwo 3 (some .boolean) (rmk 1 21) [.ref (G.2.1 b), .int x, .int y] μ (fun v μ2 => v = some (.int (bI (isP (μ b 7) x && isP (μ b 7) y && !decide (x = y)))) ∧ μ2 = μ) := by
  refine sw_Met.ofY (by decide) (Nat.le_of_ble_eq_true rfl) rfl ?_
  refine y_aload_n dX4_hasTwo_0 rfl rfl ?_
  refine y_iload_n dX4_hasTwo_1 rfl rfl ?_
  refine y_cV1 dX4_hasTwo_2 meX4_has clX4 (tw_0 hT) wm_ml_X4_61 (kX4_has hT) ⟨Nat.le_of_ble_eq_true rfl, Nat.le_of_ble_eq_true rfl⟩ ⟨rfl, rfl⟩ (Nat.le_of_ble_eq_true rfl) (fun v2 μ2 hp2 => ?_)
  obtain ⟨rfl, rfl⟩ := hp2
  refine y_ri ?_
  refine y_ifb_eq 25 dX4_hasTwo_5 (by decide) (fun h5 => ?_) (fun h5 => ?_)
  · refine y_iconst dX4_hasTwo_25 ic_0 ?_
    refine y_zret dX4_hasTwo_26 rfl ?_
    refine ⟨e_b0 ?_, rfl⟩
    simp [*]
  · refine y_aload_n dX4_hasTwo_8 rfl rfl ?_
    refine y_iload_n dX4_hasTwo_9 rfl rfl ?_
    refine y_cV1 dX4_hasTwo_10 meX4_has clX4 (tw_0 hT) wm_ml_X4_61 (kX4_has hT) ⟨Nat.le_of_ble_eq_true rfl, Nat.le_of_ble_eq_true rfl⟩ ⟨rfl, rfl⟩ (Nat.le_of_ble_eq_true rfl) (fun v10 μ10 hp10 => ?_)
    obtain ⟨rfl, rfl⟩ := hp10
    refine y_ri ?_
    refine y_ifb_eq 25 dX4_hasTwo_13 (by decide) (fun h13 => ?_) (fun h13 => ?_)
    · refine y_iconst dX4_hasTwo_25 ic_0 ?_
      refine y_zret dX4_hasTwo_26 rfl ?_
      refine ⟨e_b0 ?_, rfl⟩
      simp [*]
    · refine y_iload_n dX4_hasTwo_16 rfl rfl ?_
      refine y_iload_n dX4_hasTwo_17 rfl rfl ?_
      refine y_icmp_eq 25 dX4_hasTwo_18 (by decide) (fun h18 => ?_) (fun h18 => ?_)
      · refine y_iconst dX4_hasTwo_25 ic_0 ?_
        refine y_zret dX4_hasTwo_26 rfl ?_
        refine ⟨e_b0 ?_, rfl⟩
        simp [*]
      · refine y_iconst dX4_hasTwo_21 ic_1 ?_
        refine y_goto 26 dX4_hasTwo_22 (by decide) ?_
        refine y_zret dX4_hasTwo_26 rfl ?_
        refine ⟨e_b1 ?_, rfl⟩
        simp [*]

set_option maxRecDepth 100000 in
set_option maxHeartbeats 4000000 in
theorem kX4_hasAll {l : Launch} {G : GT} {b : Nat} (hT : isTw b) {μ : MemT} {x : Int32} : sw_Met l G yX4_hasAll cX4_hasAll 2 (some .boolean) (rmk 0 0) [.ref (G.2.1 b), .int x] μ (fun v μ2 => v = some (.int (bI (decide (x &&& (μ b 7 ^^^ -1) = 0)))) ∧ μ2 = μ) := by
  refine sw_Met.ofY (by decide) (Nat.le_of_ble_eq_true rfl) rfl ?_
  refine y_iload_n dX4_hasAll_0 rfl rfl ?_
  refine y_aload_n dX4_hasAll_1 rfl rfl ?_
  refine y_geti dX4_hasAll_2 7 clX4 (tw_0 hT) (by decide) wm_fl_X4_49 rfl rfl ?_
  refine y_iconst dX4_hasAll_5 ic_m1 ?_
  refine y_ixor dX4_hasAll_6 ?_
  refine y_iand dX4_hasAll_7 ?_
  refine y_if_ne 15 dX4_hasAll_8 (by decide) (fun h8 => ?_) (fun h8 => ?_)
  · refine y_iconst dX4_hasAll_15 ic_0 ?_
    refine y_zret dX4_hasAll_16 rfl ?_
    refine ⟨e_b0 ?_, rfl⟩
    simp [*]
  · refine y_iconst dX4_hasAll_11 ic_1 ?_
    refine y_goto 16 dX4_hasAll_12 (by decide) ?_
    refine y_zret dX4_hasAll_16 rfl ?_
    refine ⟨e_b1 ?_, rfl⟩
    simp [*]

set_option maxRecDepth 100000 in
set_option maxHeartbeats 4000000 in
theorem kX4_headcount {l : Launch} {G : GT} {b : Nat} (hT : isTw b) {μ : MemT}  : sw_Met l G yX4_headcount cX4_headcount 1 (some .int) (rmk 1 20) [.ref (G.2.1 b)] μ (fun v μ2 => v = some (.int (bcI (μ b 7))) ∧ μ2 = μ) := by
  refine sw_Met.ofY (by decide) (Nat.le_of_ble_eq_true rfl) rfl ?_
  refine y_aload_n dX4_headcount_0 rfl rfl ?_
  refine y_geti dX4_headcount_1 7 clX4 (tw_0 hT) (by decide) wm_fl_X4_49 rfl rfl ?_
  refine y_cS1 dX4_headcount_4 meJ6_bitCount_0f7a4 wm_ml_X4_65 (kJ6_bitCount_0f7a4) ⟨Nat.le_of_ble_eq_true rfl, Nat.le_of_ble_eq_true rfl⟩ ⟨rfl, rfl⟩ (Nat.le_of_ble_eq_true rfl) (fun v4 μ4 hp4 => ?_)
  obtain ⟨rfl, rfl⟩ := hp4
  refine y_ri ?_
  refine y_iret dX4_headcount_7 ?_
  exact ⟨rfl, rfl⟩

def wc (colds x w : Int32) : Int32 := if bitI colds x then w - w / 10 else w

set_option maxRecDepth 100000 in
set_option maxHeartbeats 4000000 in
theorem kX4_withCold {l : Launch} {G : GT} {b : Nat} (hT : isTw b) {μ : MemT} {x w : Int32} : sw_Met l G yX4_withCold cX4_withCold 3 (some .int) (rmk 0 0) [.ref (G.2.1 b), .int x, .int w] μ (fun v μ2 => v = some (.int (wc (μ b 8) x w)) ∧ μ2 = μ) := by
  refine sw_Met.ofY (by decide) (Nat.le_of_ble_eq_true rfl) rfl ?_
  refine y_aload_n dX4_withCold_0 rfl rfl ?_
  refine y_geti dX4_withCold_1 8 clX4 (tw_0 hT) (by decide) wm_fl_X4_52 rfl rfl ?_
  refine y_iload_n dX4_withCold_4 rfl rfl ?_
  refine y_ishr dX4_withCold_5 ?_
  refine y_iconst dX4_withCold_6 ic_1 ?_
  refine y_iand dX4_withCold_7 ?_
  refine y_iconst dX4_withCold_8 ic_1 ?_
  refine y_icmp_ne 21 dX4_withCold_9 (by decide) (fun h9 => ?_) (fun h9 => ?_)
  · refine y_iload_n dX4_withCold_21 rfl rfl ?_
    refine y_iret dX4_withCold_22 ?_
    exact ⟨by simp [wc, bitI, *], rfl⟩
  · refine y_iload_n dX4_withCold_12 rfl rfl ?_
    refine y_iload_n dX4_withCold_13 rfl rfl ?_
    refine y_bipush dX4_withCold_14 ib_10 ?_
    refine y_idiv dX4_withCold_16 (by decide) ?_
    refine y_isub dX4_withCold_17 ?_
    refine y_goto 22 dX4_withCold_18 (by decide) ?_
    refine y_iret dX4_withCold_22 ?_
    exact ⟨by simp [wc, bitI, *], rfl⟩

set_option maxRecDepth 100000 in
set_option maxHeartbeats 4000000 in
theorem kX4_poundsOf {l : Launch} {G : GT} {b : Nat} (hT : isTw b) {μ : MemT} {p : Nat} (hp : p < 8) : sw_Met l G yX4_poundsOf cX4_poundsOf 2 (some .int) (rmk 1 22) [.ref (G.2.1 b), .int (nI p)] μ (fun v μ2 => v = some (.int (wc (μ b 8) (nI p) (μ (b + 2) p))) ∧ μ2 = μ) := by
  refine sw_Met.ofY (by decide) (Nat.le_of_ble_eq_true rfl) rfl ?_
  refine y_aload_n dX4_poundsOf_0 rfl rfl ?_
  refine y_iload_n dX4_poundsOf_1 rfl rfl ?_
  refine y_aload_n dX4_poundsOf_2 rfl rfl ?_
  refine y_getr dX4_poundsOf_3 1 clX4 (tw_0 hT) (by decide) wm_fl_X4_15 rfl rfl ?_
  refine y_iload_n dX4_poundsOf_6 rfl rfl ?_
  refine y_iald dX4_poundsOf_7 p (tw_2 hT) rfl (by first | assumption | decide | omega) (by decide) ?_
  refine y_cV2 dX4_poundsOf_8 meX4_withCold clX4 (tw_0 hT) wm_ml_X4_79 (kX4_withCold hT) ⟨Nat.le_of_ble_eq_true rfl, Nat.le_of_ble_eq_true rfl⟩ ⟨rfl, rfl⟩ (Nat.le_of_ble_eq_true rfl) (fun v8 μ8 hp8 => ?_)
  obtain ⟨rfl, rfl⟩ := hp8
  refine y_ri ?_
  refine y_iret dX4_poundsOf_11 ?_
  exact ⟨rfl, rfl⟩

set_option maxRecDepth 100000 in
set_option maxHeartbeats 4000000 in
theorem kX4_areMarried {l : Launch} {G : GT} {b : Nat} (hT : isTw b) {μ : MemT} {p : Nat} (hp : p < 8) {y : Int32} : sw_Met l G yX4_areMarried cX4_areMarried 3 (some .boolean) (rmk 0 0) [.ref (G.2.1 b), .int (nI p), .int y] μ (fun v μ2 => v = some (.int (bI (decide (μ (b + 4) p = y)))) ∧ μ2 = μ) := by
  refine sw_Met.ofY (by decide) (Nat.le_of_ble_eq_true rfl) rfl ?_
  refine y_aload_n dX4_areMarried_0 rfl rfl ?_
  refine y_getr dX4_areMarried_1 3 clX4 (tw_0 hT) (by decide) wm_fl_X4_21 rfl rfl ?_
  refine y_iload_n dX4_areMarried_4 rfl rfl ?_
  refine y_iald dX4_areMarried_5 p (tw_4 hT) rfl (by first | assumption | decide | omega) (by decide) ?_
  refine y_iload_n dX4_areMarried_6 rfl rfl ?_
  refine y_icmp_ne 14 dX4_areMarried_7 (by decide) (fun h7 => ?_) (fun h7 => ?_)
  · refine y_iconst dX4_areMarried_14 ic_0 ?_
    refine y_zret dX4_areMarried_15 rfl ?_
    refine ⟨e_b0 ?_, rfl⟩
    simp [*]
  · refine y_iconst dX4_areMarried_10 ic_1 ?_
    refine y_goto 15 dX4_areMarried_11 (by decide) ?_
    refine y_zret dX4_areMarried_15 rfl ?_
    refine ⟨e_b1 ?_, rfl⟩
    simp [*]

set_option maxRecDepth 100000 in
set_option maxHeartbeats 4000000 in
theorem kX4_mayMarry {l : Launch} {G : GT} {b : Nat} (hT : isTw b) {μ : MemT} {p : Nat} (hp : p < 8) {q : Nat} (hq : q < 8) : sw_Met l G yX4_mayMarry cX4_mayMarry 3 (some .boolean) (rmk 1 22) [.ref (G.2.1 b), .int (nI p), .int (nI q)] μ (fun v μ2 => v = some (.int (bI (decide (μ (b + 4) p = nI q) || (decide (μ (b + 4) p = -6) && decide (μ (b + 4) q = -6))))) ∧ μ2 = μ) := by
  refine sw_Met.ofY (by decide) (Nat.le_of_ble_eq_true rfl) rfl ?_
  refine y_aload_n dX4_mayMarry_0 rfl rfl ?_
  refine y_iload_n dX4_mayMarry_1 rfl rfl ?_
  refine y_iload_n dX4_mayMarry_2 rfl rfl ?_
  refine y_cV2 dX4_mayMarry_3 meX4_areMarried clX4 (tw_0 hT) wm_ml_X4_75 (kX4_areMarried hT (by first | assumption | omega)) ⟨Nat.le_of_ble_eq_true rfl, Nat.le_of_ble_eq_true rfl⟩ ⟨rfl, rfl⟩ (Nat.le_of_ble_eq_true rfl) (fun v3 μ3 hp3 => ?_)
  obtain ⟨rfl, rfl⟩ := hp3
  refine y_ri ?_
  refine y_ifb_ne 31 dX4_mayMarry_6 (by decide) (fun h6 => ?_) (fun h6 => ?_)
  · refine y_iconst dX4_mayMarry_31 ic_1 ?_
    refine y_goto 36 dX4_mayMarry_32 (by decide) ?_
    refine y_zret dX4_mayMarry_36 rfl ?_
    refine ⟨e_b1 ?_, rfl⟩
    simp_all
  · refine y_aload_n dX4_mayMarry_9 rfl rfl ?_
    refine y_getr dX4_mayMarry_10 3 clX4 (tw_0 hT) (by decide) wm_fl_X4_21 rfl rfl ?_
    refine y_iload_n dX4_mayMarry_13 rfl rfl ?_
    refine y_iald dX4_mayMarry_14 p (tw_4 hT) rfl (by first | assumption | decide | omega) (by decide) ?_
    refine y_bipush dX4_mayMarry_15 ib_m6 ?_
    refine y_icmp_ne 35 dX4_mayMarry_17 (by decide) (fun h17 => ?_) (fun h17 => ?_)
    · refine y_iconst dX4_mayMarry_35 ic_0 ?_
      refine y_zret dX4_mayMarry_36 rfl ?_
      refine ⟨e_b0 ?_, rfl⟩
      simp_all
    · refine y_aload_n dX4_mayMarry_20 rfl rfl ?_
      refine y_getr dX4_mayMarry_21 3 clX4 (tw_0 hT) (by decide) wm_fl_X4_21 rfl rfl ?_
      refine y_iload_n dX4_mayMarry_24 rfl rfl ?_
      refine y_iald dX4_mayMarry_25 q (tw_4 hT) rfl (by first | assumption | decide | omega) (by decide) ?_
      refine y_bipush dX4_mayMarry_26 ib_m6 ?_
      refine y_icmp_ne 35 dX4_mayMarry_28 (by decide) (fun h28 => ?_) (fun h28 => ?_)
      · refine y_iconst dX4_mayMarry_35 ic_0 ?_
        refine y_zret dX4_mayMarry_36 rfl ?_
        refine ⟨e_b0 ?_, rfl⟩
        simp_all
      · refine y_iconst dX4_mayMarry_31 ic_1 ?_
        refine y_goto 36 dX4_mayMarry_32 (by decide) ?_
        refine y_zret dX4_mayMarry_36 rfl ?_
        refine ⟨e_b1 ?_, rfl⟩
        simp_all

set_option maxRecDepth 100000 in
set_option maxHeartbeats 4000000 in
theorem kX4_partner {l : Launch} {G : GT} {b : Nat} (hT : isTw b) {μ : MemT} {p : Nat} (hp : p < 8) : sw_Met l G yX4_partner cX4_partner 2 (some .int) (rmk 0 0) [.ref (G.2.1 b), .int (nI p)] μ (fun v μ2 => v = some (.int (if μ (b + 4) p = -6 then 0 else 1 <<< (μ (b + 4) p &&& 31))) ∧ μ2 = μ) := by
  refine sw_Met.ofY (by decide) (Nat.le_of_ble_eq_true rfl) rfl ?_
  refine y_aload_n dX4_partner_0 rfl rfl ?_
  refine y_getr dX4_partner_1 3 clX4 (tw_0 hT) (by decide) wm_fl_X4_21 rfl rfl ?_
  refine y_iload_n dX4_partner_4 rfl rfl ?_
  refine y_iald dX4_partner_5 p (tw_4 hT) rfl (by first | assumption | decide | omega) (by decide) ?_
  refine y_bipush dX4_partner_6 ib_m6 ?_
  refine y_icmp_ne 15 dX4_partner_8 (by decide) (fun h8 => ?_) (fun h8 => ?_)
  · refine y_iconst dX4_partner_15 ic_1 ?_
    refine y_aload_n dX4_partner_16 rfl rfl ?_
    refine y_getr dX4_partner_17 3 clX4 (tw_0 hT) (by decide) wm_fl_X4_21 rfl rfl ?_
    refine y_iload_n dX4_partner_20 rfl rfl ?_
    refine y_iald dX4_partner_21 p (tw_4 hT) rfl (by first | assumption | decide | omega) (by decide) ?_
    refine y_ishl dX4_partner_22 ?_
    refine y_iret dX4_partner_23 ?_
    exact ⟨by simp [*], rfl⟩
  · refine y_iconst dX4_partner_11 ic_0 ?_
    refine y_goto 23 dX4_partner_12 (by decide) ?_
    refine y_iret dX4_partner_23 ?_
    exact ⟨by simp [*], rfl⟩

def drf (d w : Int32) : Int32 := if 1 < (if w + d < 400 then w + d else 400) then (if w + d < 400 then w + d else 400) else 1

set_option maxRecDepth 100000 in
set_option maxHeartbeats 4000000 in
theorem kX4_drifted {l : Launch} {G : GT} {b : Nat} (hT : isTw b) {μ : MemT} {p : Nat} (hp : p < 8) {w : Int32} : sw_Met l G yX4_drifted cX4_drifted 3 (some .int) (rmk 1 14) [.ref (G.2.1 b), .int (nI p), .int w] μ (fun v μ2 => v = some (.int (drf (μ (b + 3) p) w)) ∧ μ2 = μ) := by
  refine sw_Met.ofY (by decide) (Nat.le_of_ble_eq_true rfl) rfl ?_
  refine y_iconst dX4_drifted_0 ic_1 ?_
  refine y_sipush dX4_drifted_1 is_400 ?_
  refine y_iload_n dX4_drifted_4 rfl rfl ?_
  refine y_aload_n dX4_drifted_5 rfl rfl ?_
  refine y_getr dX4_drifted_6 2 clX4 (tw_0 hT) (by decide) wm_fl_X4_18 rfl rfl ?_
  refine y_iload_n dX4_drifted_9 rfl rfl ?_
  refine y_iald dX4_drifted_10 p (tw_3 hT) rfl (by first | assumption | decide | omega) (by decide) ?_
  refine y_iadd dX4_drifted_11 ?_
  refine y_mmin dX4_drifted_12 wm_ml_X4_86 (by decide) (Nat.le_of_ble_eq_true rfl) ?_
  refine y_mmax dX4_drifted_15 wm_ml_X4_91 (by decide) (Nat.le_of_ble_eq_true rfl) ?_
  refine y_iret dX4_drifted_18 ?_
  exact ⟨rfl, rfl⟩

set_option maxRecDepth 100000 in
set_option maxHeartbeats 4000000 in
theorem kX4_turnCold {l : Launch} {G : GT} {b : Nat} (hT : isTw b) {μ : MemT} {x : Int32} : sw_Met l G yX4_turnCold cX4_turnCold 2 none (rmk 0 0) [.ref (G.2.1 b), .int x] μ (fun v μ2 => v = none ∧ μ2 = mset μ b (upd (μ b) 8 (μ b 8 ^^^ 1 <<< (x &&& 31)))) := by
  refine sw_Met.ofY (by decide) (Nat.le_of_ble_eq_true rfl) rfl ?_
  refine y_aload_n dX4_turnCold_0 rfl rfl ?_
  refine y_dup dX4_turnCold_1 rfl ?_
  refine y_geti dX4_turnCold_2 8 clX4 (tw_0 hT) (by decide) wm_fl_X4_52 rfl rfl ?_
  refine y_iconst dX4_turnCold_5 ic_1 ?_
  refine y_iload_n dX4_turnCold_6 rfl rfl ?_
  refine y_ishl dX4_turnCold_7 ?_
  refine y_ixor dX4_turnCold_8 ?_
  refine y_puti dX4_turnCold_9 8 clX4 (tw_0 hT) (by decide) wm_fl_X4_52 rfl rfl rfl rfl (tyX4_ok 8 (by decide)) rfl rfl ?_
  refine y_vret dX4_turnCold_12 ?_
  exact ⟨rfl, rfl⟩

def sumB (x : Int32) (f : Nat → Int32) : Int32 := itr (fun p s => if bt x p then s + f p else s) 8 0 0

set_option maxRecDepth 100000 in
set_option maxHeartbeats 4000000 in
theorem kX4_sumOver {l : Launch} {G : GT} {b : Nat} (hT : isTw b) {μ : MemT} {x : Int32} {f : Nat} {hf : kdL[f]? = some (.inr (0, 8))} : sw_Met l G yX4_sumOver cX4_sumOver 5 (some .int) (rmk 1 21) [.ref (G.2.1 b), .int x, .ref (G.2.1 f)] μ (fun v μ2 => v = some (.int (sumB (x &&& μ b 7) (μ f))) ∧ μ2 = μ) := by
  refine sw_Met.ofY (by decide) (Nat.le_of_ble_eq_true rfl) rfl ?_
  refine y_iconst dX4_sumOver_0 ic_0 ?_
  refine y_istore_n dX4_sumOver_1 rfl rfl (by decide) ?_
  refine y_iconst (v := nI 0) dX4_sumOver_2 icn_0 ?_
  refine y_istore dX4_sumOver_3 rfl (by decide) ?_
  refine y_loop1 (fun (j : Nat) (a : Int32) => [some (.ref (G.2.1 b)), some (.int x), some (.ref (G.2.1 f)), some (.int a), some (.int (nI j))]) (fun (j : Nat) (a : Int32) => μ) (fun (j : Nat) (a : Int32) => itr (fun p s => if bt (x &&& μ b 7) p then s + μ f p else s) (8 - j) j a = itr (fun p s => if bt (x &&& μ b 7) p then s + μ f p else s) 8 0 0) 8 (fun a hv5 => ?_) (fun j a hj hv5 ih5 => ?_) 0 (0) (Nat.zero_le _) (rfl)
  · refine y_iload dX4_sumOver_5 rfl ?_
    refine y_bipush dX4_sumOver_7 ib_8 ?_
    refine y_icmp_ge 39 dX4_sumOver_9 (by decide) (fun _ => ?_) (fun hq => absurd (by decide) hq)
    refine y_iload_n dX4_sumOver_39 rfl rfl ?_
    refine y_iret dX4_sumOver_40 ?_
    exact ⟨by rw [itr_ex hv5]; rfl, rfl⟩
  · refine y_iload dX4_sumOver_5 rfl ?_
    refine y_bipush dX4_sumOver_7 ib_8 ?_
    refine y_icmp_ge 39 dX4_sumOver_9 (by decide) (fun hq => absurd hq (nI_ge (b := 8) hj (by decide))) (fun _ => ?_)
    refine y_iload_n dX4_sumOver_12 rfl rfl ?_
    refine y_aload_n dX4_sumOver_13 rfl rfl ?_
    refine y_geti dX4_sumOver_14 7 clX4 (tw_0 hT) (by decide) wm_fl_X4_49 rfl rfl ?_
    refine y_iand dX4_sumOver_17 ?_
    refine y_iload dX4_sumOver_18 rfl ?_
    refine y_cN2 dX4_sumOver_20 meX7_holds wn_X4_83 (kX7_holds) ⟨Nat.le_of_ble_eq_true rfl, Nat.le_of_ble_eq_true rfl⟩ ⟨rfl, rfl⟩ (Nat.le_of_ble_eq_true rfl) (fun v20 μ20 hp20 => ?_)
    obtain ⟨rfl, rfl⟩ := hp20
    refine y_ri ?_
    refine y_ifb_eq 33 dX4_sumOver_23 (by decide) (fun h23 => ?_) (fun h23 => ?_)
    · refine y_iinc (v := nI (j + 1)) dX4_sumOver_33 rfl (nI_i1 _) rfl (by decide) ?_
      refine y_goto 5 dX4_sumOver_36 (by decide) ?_
      exact ih5 _ (itr_nx hj hv5 (by simp_all [isP_n hj]))
    · refine y_iload_n dX4_sumOver_26 rfl rfl ?_
      refine y_aload_n dX4_sumOver_27 rfl rfl ?_
      refine y_iload dX4_sumOver_28 rfl ?_
      refine y_iald dX4_sumOver_30 j hf rfl (by first | assumption | decide | omega) (by decide) ?_
      refine y_iadd dX4_sumOver_31 ?_
      refine y_istore_n dX4_sumOver_32 rfl rfl (by decide) ?_
      refine y_iinc (v := nI (j + 1)) dX4_sumOver_33 rfl (nI_i1 _) rfl (by decide) ?_
      refine y_goto 5 dX4_sumOver_36 (by decide) ?_
      exact ih5 _ (itr_nx hj hv5 (by simp_all [isP_n hj]))
