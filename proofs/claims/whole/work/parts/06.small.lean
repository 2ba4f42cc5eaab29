/-! numbers between bounds, bits, persons -/
def inR (x : Int32) (a b : Int) : Bool := decide (a ≤ x.toInt ∧ x.toInt ≤ b)
def bitI (t x : Int32) : Bool := decide ((t >>> (x &&& 31)) &&& 1 = 1)
def isP (t x : Int32) : Bool := inR x 0 7 && bitI t x
def bt (t : Int32) (p : Nat) : Bool := bitI t (nI p)
theorem le_toInt {x y : Int32} : x ≤ y ↔ x.toInt ≤ y.toInt := Int32.le_iff_toInt_le
theorem lt_toInt {x y : Int32} : x < y ↔ x.toInt < y.toInt := Int32.lt_iff_toInt_lt
theorem ti_0 : (0 : Int32).toInt = 0 := rfl
theorem ti_7 : (7 : Int32).toInt = 7 := rfl
theorem ti_8 : (8 : Int32).toInt = 8 := rfl
theorem e_b0 {B : Bool} (h : B = false) : some (Value.int 0) = some (Value.int (bI B)) := by rw [h]; rfl
theorem e_b1 {B : Bool} (h : B = true) : some (Value.int 1) = some (Value.int (bI B)) := by rw [h]; rfl
theorem inR_t {x : Int32} {a b : Int} (h1 : a ≤ x.toInt) (h2 : x.toInt ≤ b) : inR x a b = true := decide_eq_true ⟨h1, h2⟩
theorem inR_f1 {x : Int32} {a b : Int} (h1 : x.toInt < a) : inR x a b = false := decide_eq_false (fun q => by omega)
theorem inR_f2 {x : Int32} {a b : Int} (h1 : b < x.toInt) : inR x a b = false := decide_eq_false (fun q => by omega)
theorem isP_n {t : Int32} {p : Nat} (hp : p < 8) : isP t (nI p) = bt t p := by
  have h := nI_toInt (n := p) (by omega)
  unfold isP bt
  rw [inR_t (by rw [h]; omega) (by rw [h]; omega)]
  rfl
theorem isP_nI {t x : Int32} (h : isP t x = true) : x = nI x.toNatClampNeg ∧ x.toNatClampNeg < 8 := by
  unfold isP inR at h
  have h1 : 0 ≤ x.toInt ∧ x.toInt ≤ 7 := of_decide_eq_true (Bool.and_eq_true_iff.mp h).1
  obtain ⟨j, hj, rfl⟩ := nI_of (x := x) (by rw [lt_toInt, ti_0]; omega)
  rw [nI_clamp hj]
  have := nI_toInt hj
  exact ⟨rfl, by omega⟩
theorem isP_ex {t x : Int32} (h : isP t x = true) : ∃ p : Nat, p < 8 ∧ x = nI p ∧ bt t p = true := by
  obtain ⟨h1, h2⟩ := isP_nI h
  refine ⟨x.toNatClampNeg, h2, h1, ?_⟩
  rw [← isP_n h2, ← h1]
  exact h

set_option maxRecDepth 100000 in
set_option maxHeartbeats 4000000 in
theorem kX7_within {l : Launch} {G : GT} {μ : MemT} {x a b : Int32} {A B : Int} (hA : a.toInt = A) (hB : b.toInt = B) : sw_Met l G yX7_within cX7_within 3 (some .boolean) (rmk 0 0) [.int x, .int a, .int b] μ (fun v μ2 => v = some (.int (bI (inR x A B))) ∧ μ2 = μ) := by
  refine sw_Met.ofY (by decide) (Nat.le_of_ble_eq_true rfl) rfl ?_
  refine y_iload_n dX7_within_0 rfl rfl ?_
  refine y_iload_n dX7_within_1 rfl rfl ?_
  refine y_icmp_gt 14 dX7_within_2 (by decide) (fun h2 => ?_) (fun h2 => ?_)
  · refine y_iconst dX7_within_14 ic_0 ?_
    refine y_zret dX7_within_15 rfl ?_
    refine ⟨e_b0 ?_, rfl⟩
    subst hA; subst hB
    grind [inR, le_toInt, lt_toInt]
  · refine y_iload_n dX7_within_5 rfl rfl ?_
    refine y_iload_n dX7_within_6 rfl rfl ?_
    refine y_icmp_gt 14 dX7_within_7 (by decide) (fun h7 => ?_) (fun h7 => ?_)
    · refine y_iconst dX7_within_14 ic_0 ?_
      refine y_zret dX7_within_15 rfl ?_
      refine ⟨e_b0 ?_, rfl⟩
      subst hA; subst hB
      grind [inR, le_toInt, lt_toInt]
    · refine y_iconst dX7_within_10 ic_1 ?_
      refine y_goto 15 dX7_within_11 (by decide) ?_
      refine y_zret dX7_within_15 rfl ?_
      refine ⟨e_b1 ?_, rfl⟩
      subst hA; subst hB
      grind [inR, le_toInt, lt_toInt]

set_option maxRecDepth 100000 in
set_option maxHeartbeats 4000000 in
theorem kX7_holds {l : Launch} {G : GT} {μ : MemT} {t x : Int32} : sw_Met l G yX7_holds cX7_holds 2 (some .boolean) (rmk 0 0) [.int t, .int x] μ (fun v μ2 => v = some (.int (bI (isP t x))) ∧ μ2 = μ) := by
  refine sw_Met.ofY (by decide) (Nat.le_of_ble_eq_true rfl) rfl ?_
  refine y_iload_n dX7_holds_0 rfl rfl ?_
  refine y_if_lt 23 dX7_holds_1 (by decide) (fun h1 => ?_) (fun h1 => ?_)
  · refine y_iconst dX7_holds_23 ic_0 ?_
    refine y_zret dX7_holds_24 rfl ?_
    refine ⟨e_b0 ?_, rfl⟩
    grind [isP, bitI, inR, le_toInt, lt_toInt, ti_0, ti_8]
  · refine y_iload_n dX7_holds_4 rfl rfl ?_
    refine y_bipush dX7_holds_5 ib_8 ?_
    refine y_icmp_ge 23 dX7_holds_7 (by decide) (fun h7 => ?_) (fun h7 => ?_)
    · refine y_iconst dX7_holds_23 ic_0 ?_
      refine y_zret dX7_holds_24 rfl ?_
      refine ⟨e_b0 ?_, rfl⟩
      grind [isP, bitI, inR, le_toInt, lt_toInt, ti_0, ti_8]
    · refine y_iload_n dX7_holds_10 rfl rfl ?_
      refine y_iload_n dX7_holds_11 rfl rfl ?_
      refine y_ishr dX7_holds_12 ?_
      refine y_iconst dX7_holds_13 ic_1 ?_
      refine y_iand dX7_holds_14 ?_
      refine y_iconst dX7_holds_15 ic_1 ?_
      refine y_icmp_ne 23 dX7_holds_16 (by decide) (fun h16 => ?_) (fun h16 => ?_)
      · refine y_iconst dX7_holds_23 ic_0 ?_
        refine y_zret dX7_holds_24 rfl ?_
        refine ⟨e_b0 ?_, rfl⟩
        grind [isP, bitI, inR, le_toInt, lt_toInt, ti_0, ti_8]
      · refine y_iconst dX7_holds_19 ic_1 ?_
        refine y_goto 24 dX7_holds_20 (by decide) ?_
        refine y_zret dX7_holds_24 rfl ?_
        refine ⟨e_b1 ?_, rfl⟩
        grind [isP, bitI, inR, le_toInt, lt_toInt, ti_0, ti_8]

def balI (x y : Int32) : Int32 := if x < y then 0 else if x = y then 1 else 2
def subI (x t : Int32) : Bool := decide (x &&& (t ^^^ -1) = 0)
def mbw (x y t : Int32) : Bool := subI x t && (subI y t && (!decide (x = 0) && (!decide (y = 0) && decide (x &&& y = 0))))
def mmS (p q : Nat) (sp : Nat → Int32) : Bool := decide (sp p = nI q) || (decide (sp p = -6) && decide (sp q = -6))
def nxtI (s w : Int32) : Int32 := (s - w) &&& w
def shU (x y : Int32) : Int32 := (x.toUInt32 >>> (y.toUInt32 &&& Int32.toUInt32 31)).toInt32
def bc1 (x : Int32) : Int32 := x - (shU x 1 &&& 1431655765)
def bc2 (x : Int32) : Int32 := (x &&& 858993459) + (shU x 2 &&& 858993459)
def bc3 (x : Int32) : Int32 := (x + shU x 4) &&& 252645135
def bc4 (x : Int32) : Int32 := x + shU x 8
def bc5 (x : Int32) : Int32 := x + shU x 16
def bcI (x : Int32) : Int32 := bc5 (bc4 (bc3 (bc2 (bc1 x)))) &&& 63

set_option maxRecDepth 100000 in
set_option maxHeartbeats 4000000 in
theorem kX7_balance {l : Launch} {G : GT} {μ : MemT} {x y : Int32} : sw_Met l G yX7_balance cX7_balance 2 (some .int) (rmk 0 0) [.int x, .int y] μ (fun v μ2 => v = some (.int (balI x y)) ∧ μ2 = μ) := by
  refine sw_Met.ofY (by decide) (Nat.le_of_ble_eq_true rfl) rfl ?_
  refine y_iload_n dX7_balance_0 rfl rfl ?_
  refine y_iload_n dX7_balance_1 rfl rfl ?_
  refine y_icmp_ge 9 dX7_balance_2 (by decide) (fun h2 => ?_) (fun h2 => ?_)
  · refine y_iload_n dX7_balance_9 rfl rfl ?_
    refine y_iload_n dX7_balance_10 rfl rfl ?_
    refine y_icmp_ne 18 dX7_balance_11 (by decide) (fun h11 => ?_) (fun h11 => ?_)
    · refine y_iconst dX7_balance_18 ic_2 ?_
      refine y_iret dX7_balance_19 ?_
      exact ⟨by simp [balI, *], rfl⟩
    · refine y_iconst dX7_balance_14 ic_1 ?_
      refine y_goto 19 dX7_balance_15 (by decide) ?_
      refine y_iret dX7_balance_19 ?_
      exact ⟨by simp [balI, *], rfl⟩
  · refine y_iconst dX7_balance_5 ic_0 ?_
    refine y_goto 19 dX7_balance_6 (by decide) ?_
    refine y_iret dX7_balance_19 ?_
    exact ⟨by simp [balI, *], rfl⟩

set_option maxRecDepth 100000 in
set_option maxHeartbeats 4000000 in
theorem kX7_nextSubset {l : Launch} {G : GT} {μ : MemT} {x y : Int32} : sw_Met l G yX7_nextSubset cX7_nextSubset 2 (some .int) (rmk 0 0) [.int x, .int y] μ (fun v μ2 => v = some (.int (nxtI x y)) ∧ μ2 = μ) := by
  refine sw_Met.ofY (by decide) (Nat.le_of_ble_eq_true rfl) rfl ?_
  refine y_iload_n dX7_nextSubset_0 rfl rfl ?_
  refine y_iload_n dX7_nextSubset_1 rfl rfl ?_
  refine y_isub dX7_nextSubset_2 ?_
  refine y_iload_n dX7_nextSubset_3 rfl rfl ?_
  refine y_iand dX7_nextSubset_4 ?_
  refine y_iret dX7_nextSubset_5 ?_
  exact ⟨rfl, rfl⟩

set_option maxRecDepth 100000 in
set_option maxHeartbeats 4000000 in
theorem kJ6_bitCount_0f7a4 {l : Launch} {G : GT} {μ : MemT} {x : Int32} : sw_Met l G yJ6_bitCount_0f7a4 cJ6_bitCount_0f7a4 1 (some .int) (rmk 0 0) [.int x] μ (fun v μ2 => v = some (.int (bcI x)) ∧ μ2 = μ) := by
  refine sw_Met.ofY (by decide) (Nat.le_of_ble_eq_true rfl) rfl ?_
  refine y_iload_n dJ6_bitCount_0f7a4_0 rfl rfl ?_
  refine y_iload_n dJ6_bitCount_0f7a4_1 rfl rfl ?_
  refine y_iconst dJ6_bitCount_0f7a4_2 ic_1 ?_
  refine y_iushr dJ6_bitCount_0f7a4_3 ?_
  refine y_ldcw dJ6_bitCount_0f7a4_4 wm_ck_J6_265 ?_
  refine y_iand dJ6_bitCount_0f7a4_7 ?_
  refine y_isub dJ6_bitCount_0f7a4_8 ?_
  refine y_istore_n dJ6_bitCount_0f7a4_9 rfl rfl (by decide) ?_
  refine y_iload_n dJ6_bitCount_0f7a4_10 rfl rfl ?_
  refine y_ldcw dJ6_bitCount_0f7a4_11 wm_ck_J6_266 ?_
  refine y_iand dJ6_bitCount_0f7a4_14 ?_
  refine y_iload_n dJ6_bitCount_0f7a4_15 rfl rfl ?_
  refine y_iconst dJ6_bitCount_0f7a4_16 ic_2 ?_
  refine y_iushr dJ6_bitCount_0f7a4_17 ?_
  refine y_ldcw dJ6_bitCount_0f7a4_18 wm_ck_J6_266 ?_
  refine y_iand dJ6_bitCount_0f7a4_21 ?_
  refine y_iadd dJ6_bitCount_0f7a4_22 ?_
  refine y_istore_n dJ6_bitCount_0f7a4_23 rfl rfl (by decide) ?_
  refine y_iload_n dJ6_bitCount_0f7a4_24 rfl rfl ?_
  refine y_iload_n dJ6_bitCount_0f7a4_25 rfl rfl ?_
  refine y_iconst dJ6_bitCount_0f7a4_26 ic_4 ?_
  refine y_iushr dJ6_bitCount_0f7a4_27 ?_
  refine y_iadd dJ6_bitCount_0f7a4_28 ?_
  refine y_ldcw dJ6_bitCount_0f7a4_29 wm_ck_J6_267 ?_
  refine y_iand dJ6_bitCount_0f7a4_32 ?_
  refine y_istore_n dJ6_bitCount_0f7a4_33 rfl rfl (by decide) ?_
  refine y_iload_n dJ6_bitCount_0f7a4_34 rfl rfl ?_
  refine y_iload_n dJ6_bitCount_0f7a4_35 rfl rfl ?_
  refine y_bipush dJ6_bitCount_0f7a4_36 ib_8 ?_
  refine y_iushr dJ6_bitCount_0f7a4_38 ?_
  refine y_iadd dJ6_bitCount_0f7a4_39 ?_
  refine y_istore_n dJ6_bitCount_0f7a4_40 rfl rfl (by decide) ?_
  refine y_iload_n dJ6_bitCount_0f7a4_41 rfl rfl ?_
  refine y_iload_n dJ6_bitCount_0f7a4_42 rfl rfl ?_
  refine y_bipush dJ6_bitCount_0f7a4_43 ib_16 ?_
  refine y_iushr dJ6_bitCount_0f7a4_45 ?_
  refine y_iadd dJ6_bitCount_0f7a4_46 ?_
  refine y_istore_n dJ6_bitCount_0f7a4_47 rfl rfl (by decide) ?_
  refine y_iload_n dJ6_bitCount_0f7a4_48 rfl rfl ?_
  refine y_bipush dJ6_bitCount_0f7a4_49 ib_63 ?_
  refine y_iand dJ6_bitCount_0f7a4_51 ?_
  refine y_iret dJ6_bitCount_0f7a4_52 ?_
  exact ⟨rfl, rfl⟩

set_option maxRecDepth 100000 in
set_option maxHeartbeats 4000000 in
theorem kX7_subsetsOf {l : Launch} {G : GT} {μ : MemT} {x : Int32} : sw_Met l G yX7_subsetsOf cX7_subsetsOf 1 (some .int) (rmk 1 20) [.int x] μ (fun v μ2 => v = some (.int (1 <<< (bcI (x &&& 255) &&& 31))) ∧ μ2 = μ) := by
  refine sw_Met.ofY (by decide) (Nat.le_of_ble_eq_true rfl) rfl ?_
  refine y_iconst dX7_subsetsOf_0 ic_1 ?_
  refine y_iload_n dX7_subsetsOf_1 rfl rfl ?_
  refine y_sipush dX7_subsetsOf_2 is_255 ?_
  refine y_iand dX7_subsetsOf_5 ?_
  refine y_cS1 dX7_subsetsOf_6 meJ6_bitCount_0f7a4 wm_ml_X7_277 (kJ6_bitCount_0f7a4) ⟨Nat.le_of_ble_eq_true rfl, Nat.le_of_ble_eq_true rfl⟩ ⟨rfl, rfl⟩ (Nat.le_of_ble_eq_true rfl) (fun v6 μ6 hp6 => ?_)
  obtain ⟨rfl, he6⟩ := hp6
  replace he6 := he6.symm
  subst he6
  refine y_ri ?_
  refine y_ishl dX7_subsetsOf_9 ?_
  refine y_iret dX7_subsetsOf_10 ?_
  exact ⟨rfl, rfl⟩

set_option maxRecDepth 100000 in
set_option maxHeartbeats 4000000 in
theorem kX4_has {l : Launch} {G : GT} {b : Nat} (hT : isTw b) {μ : MemT} {x : Int32} : sw_Met l G yX4_has cX4_has 2 (some .boolean) (rmk 0 0) [.ref (G.2.1 b), .int x] μ (fun v μ2 => v = some (.int (bI (isP (μ b 7) x))) ∧ μ2 = μ) := by
  refine sw_Met.ofY (by decide) (Nat.le_of_ble_eq_true rfl) rfl ?_
  refine y_iload_n dX4_has_0 rfl rfl ?_
  refine y_if_lt 26 dX4_has_1 (by decide) (fun h1 => ?_) (fun h1 => ?_)
  · refine y_iconst dX4_has_26 ic_0 ?_
    refine y_zret dX4_has_27 rfl ?_
    refine ⟨e_b0 ?_, rfl⟩
    grind [isP, bitI, inR, le_toInt, lt_toInt, ti_0, ti_8]
  · refine y_iload_n dX4_has_4 rfl rfl ?_
    refine y_bipush dX4_has_5 ib_8 ?_
    refine y_icmp_ge 26 dX4_has_7 (by decide) (fun h7 => ?_) (fun h7 => ?_)
    · refine y_iconst dX4_has_26 ic_0 ?_
      refine y_zret dX4_has_27 rfl ?_
      refine ⟨e_b0 ?_, rfl⟩
      grind [isP, bitI, inR, le_toInt, lt_toInt, ti_0, ti_8]
    · refine y_aload_n dX4_has_10 rfl rfl ?_
      refine y_geti dX4_has_11 7 clX4 (tw_0 hT) (by decide) wm_fl_X4_49 rfl rfl ?_
      refine y_iload_n dX4_has_14 rfl rfl ?_
      refine y_ishr dX4_has_15 ?_
      refine y_iconst dX4_has_16 ic_1 ?_
      refine y_iand dX4_has_17 ?_
      refine y_iconst dX4_has_18 ic_1 ?_
      refine y_icmp_ne 26 dX4_has_19 (by decide) (fun h19 => ?_) (fun h19 => ?_)
      · refine y_iconst dX4_has_26 ic_0 ?_
        refine y_zret dX4_has_27 rfl ?_
        refine ⟨e_b0 ?_, rfl⟩
        grind [isP, bitI, inR, le_toInt, lt_toInt, ti_0, ti_8]
      · refine y_iconst dX4_has_22 ic_1 ?_
        refine y_goto 27 dX4_has_23 (by decide) ?_
        refine y_zret dX4_has_27 rfl ?_
        refine ⟨e_b1 ?_, rfl⟩
        grind [isP, bitI, inR, le_toInt, lt_toInt, ti_0, ti_8]

set_option maxRecDepth 100000 in
set_option maxHeartbeats 4000000 in
theorem kX4_hasTwo {l : Launch} {G : GT} {b : Nat} (hT : isTw b) {μ : MemT} {x y : Int32} : sw_Met l G yX4_hasTwo cX4_hasTwo 3 (some .boolean) (rmk 1 21) [.ref (G.2.1 b), .int x, .int y] μ (fun v μ2 => v = some (.int (bI (isP (μ b 7) x && isP (μ b 7) y && !decide (x = y)))) ∧ μ2 = μ) := by
  refine sw_Met.ofY (by decide) (Nat.le_of_ble_eq_true rfl) rfl ?_
  refine y_aload_n dX4_hasTwo_0 rfl rfl ?_
  refine y_iload_n dX4_hasTwo_1 rfl rfl ?_
  refine y_cV1 dX4_hasTwo_2 meX4_has clX4 (tw_0 hT) wm_ml_X4_61 (kX4_has hT) ⟨Nat.le_of_ble_eq_true rfl, Nat.le_of_ble_eq_true rfl⟩ ⟨rfl, rfl⟩ (Nat.le_of_ble_eq_true rfl) (fun v2 μ2 hp2 => ?_)
  obtain ⟨rfl, he2⟩ := hp2
  replace he2 := he2.symm
  subst he2
  refine y_ri ?_
  refine y_ifb_eq 25 dX4_hasTwo_5 (by decide) (fun h5 => ?_) (fun h5 => ?_)
  · refine y_iconst dX4_hasTwo_25 ic_0 ?_
    refine y_zret dX4_hasTwo_26 rfl ?_
    refine ⟨e_b0 ?_, rfl⟩
    simp [*]
  · refine y_aload_n dX4_hasTwo_8 rfl rfl ?_
    refine y_iload_n dX4_hasTwo_9 rfl rfl ?_
    refine y_cV1 dX4_hasTwo_10 meX4_has clX4 (tw_0 hT) wm_ml_X4_61 (kX4_has hT) ⟨Nat.le_of_ble_eq_true rfl, Nat.le_of_ble_eq_true rfl⟩ ⟨rfl, rfl⟩ (Nat.le_of_ble_eq_true rfl) (fun v10 μ10 hp10 => ?_)
    obtain ⟨rfl, he10⟩ := hp10
    replace he10 := he10.symm
    subst he10
    refine y_ri ?_
    refine y_ifb_eq 25 dX4_hasTwo_13 (by decide) (fun h13 => ?_) (fun h13 => ?_)
    · refine y_iconst dX4_hasTwo_25 ic_0 ?_
      refine y_zret dX4_hasTwo_26 rfl ?_
      refine ⟨e_b0 ?_, rfl⟩
      simp [*]
    · refine y_iload_n dX4_hasTwo_16 rfl rfl ?_
      refine y_iload_n dX4_hasTwo_17 rfl rfl ?_
      refine y_icmp_eq 25 dX4_hasTwo_18 (by decide) (fun h18 => ?_) (fun h18 => ?_)
      · refine y_iconst dX4_hasTwo_25 ic_0 ?_
        refine y_zret dX4_hasTwo_26 rfl ?_
        refine ⟨e_b0 ?_, rfl⟩
        simp [*]
      · refine y_iconst dX4_hasTwo_21 ic_1 ?_
        refine y_goto 26 dX4_hasTwo_22 (by decide) ?_
        refine y_zret dX4_hasTwo_26 rfl ?_
        refine ⟨e_b1 ?_, rfl⟩
        simp [*]

set_option maxRecDepth 100000 in
set_option maxHeartbeats 4000000 in
theorem kX4_hasAll {l : Launch} {G : GT} {b : Nat} (hT : isTw b) {μ : MemT} {x : Int32} : sw_Met l G yX4_hasAll cX4_hasAll 2 (some .boolean) (rmk 0 0) [.ref (G.2.1 b), .int x] μ (fun v μ2 => v = some (.int (bI (subI x (μ b 7)))) ∧ μ2 = μ) := by
  refine sw_Met.ofY (by decide) (Nat.le_of_ble_eq_true rfl) rfl ?_
  refine y_iload_n dX4_hasAll_0 rfl rfl ?_
  refine y_aload_n dX4_hasAll_1 rfl rfl ?_
  refine y_geti dX4_hasAll_2 7 clX4 (tw_0 hT) (by decide) wm_fl_X4_49 rfl rfl ?_
  refine y_iconst dX4_hasAll_5 ic_m1 ?_
  refine y_ixor dX4_hasAll_6 ?_
  refine y_iand dX4_hasAll_7 ?_
  refine y_if_ne 15 dX4_hasAll_8 (by decide) (fun h8 => ?_) (fun h8 => ?_)
  · refine y_iconst dX4_hasAll_15 ic_0 ?_
    refine y_zret dX4_hasAll_16 rfl ?_
    refine ⟨e_b0 ?_, rfl⟩
    first | exact decide_eq_false h8 | exact decide_eq_true h8
  · refine y_iconst dX4_hasAll_11 ic_1 ?_
    refine y_goto 16 dX4_hasAll_12 (by decide) ?_
    refine y_zret dX4_hasAll_16 rfl ?_
    refine ⟨e_b1 ?_, rfl⟩
    first | exact decide_eq_false h8 | exact decide_eq_true h8

set_option maxRecDepth 100000 in
set_option maxHeartbeats 4000000 in
theorem kX4_headcount {l : Launch} {G : GT} {b : Nat} (hT : isTw b) {μ : MemT}  : sw_Met l G yX4_headcount cX4_headcount 1 (some .int) (rmk 1 20) [.ref (G.2.1 b)] μ (fun v μ2 => v = some (.int (bcI (μ b 7))) ∧ μ2 = μ) := by
  refine sw_Met.ofY (by decide) (Nat.le_of_ble_eq_true rfl) rfl ?_
  refine y_aload_n dX4_headcount_0 rfl rfl ?_
  refine y_geti dX4_headcount_1 7 clX4 (tw_0 hT) (by decide) wm_fl_X4_49 rfl rfl ?_
  refine y_cS1 dX4_headcount_4 meJ6_bitCount_0f7a4 wm_ml_X4_65 (kJ6_bitCount_0f7a4) ⟨Nat.le_of_ble_eq_true rfl, Nat.le_of_ble_eq_true rfl⟩ ⟨rfl, rfl⟩ (Nat.le_of_ble_eq_true rfl) (fun v4 μ4 hp4 => ?_)
  obtain ⟨rfl, he4⟩ := hp4
  replace he4 := he4.symm
  subst he4
  refine y_ri ?_
  refine y_iret dX4_headcount_7 ?_
  exact ⟨rfl, rfl⟩

def wc (colds x w : Int32) : Int32 := if bitI colds x then w - w / 10 else w

set_option maxRecDepth 100000 in
set_option maxHeartbeats 4000000 in
theorem kX4_withCold {l : Launch} {G : GT} {b : Nat} (hT : isTw b) {μ : MemT} {x w : Int32} : sw_Met l G yX4_withCold cX4_withCold 3 (some .int) (rmk 0 0) [.ref (G.2.1 b), .int x, .int w] μ (fun v μ2 => v = some (.int (wc (μ b 8) x w)) ∧ μ2 = μ) := by
  refine sw_Met.ofY (by decide) (Nat.le_of_ble_eq_true rfl) rfl ?_
  refine y_aload_n dX4_withCold_0 rfl rfl ?_
  refine y_geti dX4_withCold_1 8 clX4 (tw_0 hT) (by decide) wm_fl_X4_52 rfl rfl ?_
  refine y_iload_n dX4_withCold_4 rfl rfl ?_
  refine y_ishr dX4_withCold_5 ?_
  refine y_iconst dX4_withCold_6 ic_1 ?_
  refine y_iand dX4_withCold_7 ?_
  refine y_iconst dX4_withCold_8 ic_1 ?_
  refine y_icmp_ne 21 dX4_withCold_9 (by decide) (fun h9 => ?_) (fun h9 => ?_)
  · refine y_iload_n dX4_withCold_21 rfl rfl ?_
    refine y_iret dX4_withCold_22 ?_
    exact ⟨by simp [wc, bitI, *], rfl⟩
  · refine y_iload_n dX4_withCold_12 rfl rfl ?_
    refine y_iload_n dX4_withCold_13 rfl rfl ?_
    refine y_bipush dX4_withCold_14 ib_10 ?_
    refine y_idiv dX4_withCold_16 (by decide) ?_
    refine y_isub dX4_withCold_17 ?_
    refine y_goto 22 dX4_withCold_18 (by decide) ?_
    refine y_iret dX4_withCold_22 ?_
    exact ⟨by simp [wc, bitI, *], rfl⟩

set_option maxRecDepth 100000 in
set_option maxHeartbeats 4000000 in
theorem kX4_poundsOf {l : Launch} {G : GT} {b : Nat} (hT : isTw b) {μ : MemT} {p : Nat} (hp : p < 8) : sw_Met l G yX4_poundsOf cX4_poundsOf 2 (some .int) (rmk 1 22) [.ref (G.2.1 b), .int (nI p)] μ (fun v μ2 => v = some (.int (wc (μ b 8) (nI p) (μ (b + 2) p))) ∧ μ2 = μ) := by
  refine sw_Met.ofY (by decide) (Nat.le_of_ble_eq_true rfl) rfl ?_
  refine y_aload_n dX4_poundsOf_0 rfl rfl ?_
  refine y_iload_n dX4_poundsOf_1 rfl rfl ?_
  refine y_aload_n dX4_poundsOf_2 rfl rfl ?_
  refine y_getr dX4_poundsOf_3 1 clX4 (tw_0 hT) (by decide) wm_fl_X4_15 rfl rfl ?_
  refine y_iload_n dX4_poundsOf_6 rfl rfl ?_
  refine y_iald dX4_poundsOf_7 p (tw_2 hT) rfl (by first | assumption | decide | omega) (by decide) ?_
  refine y_cV2 dX4_poundsOf_8 meX4_withCold clX4 (tw_0 hT) wm_ml_X4_79 (kX4_withCold hT) ⟨Nat.le_of_ble_eq_true rfl, Nat.le_of_ble_eq_true rfl⟩ ⟨rfl, rfl⟩ (Nat.le_of_ble_eq_true rfl) (fun v8 μ8 hp8 => ?_)
  obtain ⟨rfl, he8⟩ := hp8
  replace he8 := he8.symm
  subst he8
  refine y_ri ?_
  refine y_iret dX4_poundsOf_11 ?_
  exact ⟨rfl, rfl⟩

set_option maxRecDepth 100000 in
set_option maxHeartbeats 4000000 in
theorem kX4_areMarried {l : Launch} {G : GT} {b : Nat} (hT : isTw b) {μ : MemT} {p : Nat} (hp : p < 8) {y : Int32} : sw_Met l G yX4_areMarried cX4_areMarried 3 (some .boolean) (rmk 0 0) [.ref (G.2.1 b), .int (nI p), .int y] μ (fun v μ2 => v = some (.int (bI (decide (μ (b + 4) p = y)))) ∧ μ2 = μ) := by
  refine sw_Met.ofY (by decide) (Nat.le_of_ble_eq_true rfl) rfl ?_
  refine y_aload_n dX4_areMarried_0 rfl rfl ?_
  refine y_getr dX4_areMarried_1 3 clX4 (tw_0 hT) (by decide) wm_fl_X4_21 rfl rfl ?_
  refine y_iload_n dX4_areMarried_4 rfl rfl ?_
  refine y_iald dX4_areMarried_5 p (tw_4 hT) rfl (by first | assumption | decide | omega) (by decide) ?_
  refine y_iload_n dX4_areMarried_6 rfl rfl ?_
  refine y_icmp_ne 14 dX4_areMarried_7 (by decide) (fun h7 => ?_) (fun h7 => ?_)
  · refine y_iconst dX4_areMarried_14 ic_0 ?_
    refine y_zret dX4_areMarried_15 rfl ?_
    refine ⟨e_b0 ?_, rfl⟩
    simp [*]
  · refine y_iconst dX4_areMarried_10 ic_1 ?_
    refine y_goto 15 dX4_areMarried_11 (by decide) ?_
    refine y_zret dX4_areMarried_15 rfl ?_
    refine ⟨e_b1 ?_, rfl⟩
    simp [*]

set_option maxRecDepth 100000 in
set_option maxHeartbeats 4000000 in
theorem kX4_mayMarry {l : Launch} {G : GT} {b : Nat} (hT : isTw b) {μ : MemT} {p : Nat} (hp : p < 8) {q : Nat} (hq : q < 8) : sw_Met l G yX4_mayMarry cX4_mayMarry 3 (some .boolean) (rmk 1 22) [.ref (G.2.1 b), .int (nI p), .int (nI q)] μ (fun v μ2 => v = some (.int (bI (mmS p q (μ (b + 4))))) ∧ μ2 = μ) := by
  refine sw_Met.ofY (by decide) (Nat.le_of_ble_eq_true rfl) rfl ?_
  refine y_aload_n dX4_mayMarry_0 rfl rfl ?_
  refine y_iload_n dX4_mayMarry_1 rfl rfl ?_
  refine y_iload_n dX4_mayMarry_2 rfl rfl ?_
  refine y_cV2 dX4_mayMarry_3 meX4_areMarried clX4 (tw_0 hT) wm_ml_X4_75 (kX4_areMarried hT (by first | assumption | omega)) ⟨Nat.le_of_ble_eq_true rfl, Nat.le_of_ble_eq_true rfl⟩ ⟨rfl, rfl⟩ (Nat.le_of_ble_eq_true rfl) (fun v3 μ3 hp3 => ?_)
  obtain ⟨rfl, he3⟩ := hp3
  replace he3 := he3.symm
  subst he3
  refine y_ri ?_
  refine y_ifb_ne 31 dX4_mayMarry_6 (by decide) (fun h6 => ?_) (fun h6 => ?_)
  · refine y_iconst dX4_mayMarry_31 ic_1 ?_
    refine y_goto 36 dX4_mayMarry_32 (by decide) ?_
    refine y_zret dX4_mayMarry_36 rfl ?_
    refine ⟨e_b1 ?_, rfl⟩
    simp_all [mmS]
  · refine y_aload_n dX4_mayMarry_9 rfl rfl ?_
    refine y_getr dX4_mayMarry_10 3 clX4 (tw_0 hT) (by decide) wm_fl_X4_21 rfl rfl ?_
    refine y_iload_n dX4_mayMarry_13 rfl rfl ?_
    refine y_iald dX4_mayMarry_14 p (tw_4 hT) rfl (by first | assumption | decide | omega) (by decide) ?_
    refine y_bipush dX4_mayMarry_15 ib_m6 ?_
    refine y_icmp_ne 35 dX4_mayMarry_17 (by decide) (fun h17 => ?_) (fun h17 => ?_)
    · refine y_iconst dX4_mayMarry_35 ic_0 ?_
      refine y_zret dX4_mayMarry_36 rfl ?_
      refine ⟨e_b0 ?_, rfl⟩
      simp_all [mmS]
    · refine y_aload_n dX4_mayMarry_20 rfl rfl ?_
      refine y_getr dX4_mayMarry_21 3 clX4 (tw_0 hT) (by decide) wm_fl_X4_21 rfl rfl ?_
      refine y_iload_n dX4_mayMarry_24 rfl rfl ?_
      refine y_iald dX4_mayMarry_25 q (tw_4 hT) rfl (by first | assumption | decide | omega) (by decide) ?_
      refine y_bipush dX4_mayMarry_26 ib_m6 ?_
      refine y_icmp_ne 35 dX4_mayMarry_28 (by decide) (fun h28 => ?_) (fun h28 => ?_)
      · refine y_iconst dX4_mayMarry_35 ic_0 ?_
        refine y_zret dX4_mayMarry_36 rfl ?_
        refine ⟨e_b0 ?_, rfl⟩
        simp_all [mmS]
      · refine y_iconst dX4_mayMarry_31 ic_1 ?_
        refine y_goto 36 dX4_mayMarry_32 (by decide) ?_
        refine y_zret dX4_mayMarry_36 rfl ?_
        refine ⟨e_b1 ?_, rfl⟩
        simp_all [mmS]

set_option maxRecDepth 100000 in
set_option maxHeartbeats 4000000 in
theorem kX4_partner {l : Launch} {G : GT} {b : Nat} (hT : isTw b) {μ : MemT} {p : Nat} (hp : p < 8) : sw_Met l G yX4_partner cX4_partner 2 (some .int) (rmk 0 0) [.ref (G.2.1 b), .int (nI p)] μ (fun v μ2 => v = some (.int (if μ (b + 4) p = -6 then 0 else 1 <<< (μ (b + 4) p &&& 31))) ∧ μ2 = μ) := by
  refine sw_Met.ofY (by decide) (Nat.le_of_ble_eq_true rfl) rfl ?_
  refine y_aload_n dX4_partner_0 rfl rfl ?_
  refine y_getr dX4_partner_1 3 clX4 (tw_0 hT) (by decide) wm_fl_X4_21 rfl rfl ?_
  refine y_iload_n dX4_partner_4 rfl rfl ?_
  refine y_iald dX4_partner_5 p (tw_4 hT) rfl (by first | assumption | decide | omega) (by decide) ?_
  refine y_bipush dX4_partner_6 ib_m6 ?_
  refine y_icmp_ne 15 dX4_partner_8 (by decide) (fun h8 => ?_) (fun h8 => ?_)
  · refine y_iconst dX4_partner_15 ic_1 ?_
    refine y_aload_n dX4_partner_16 rfl rfl ?_
    refine y_getr dX4_partner_17 3 clX4 (tw_0 hT) (by decide) wm_fl_X4_21 rfl rfl ?_
    refine y_iload_n dX4_partner_20 rfl rfl ?_
    refine y_iald dX4_partner_21 p (tw_4 hT) rfl (by first | assumption | decide | omega) (by decide) ?_
    refine y_ishl dX4_partner_22 ?_
    refine y_iret dX4_partner_23 ?_
    exact ⟨by simp [*], rfl⟩
  · refine y_iconst dX4_partner_11 ic_0 ?_
    refine y_goto 23 dX4_partner_12 (by decide) ?_
    refine y_iret dX4_partner_23 ?_
    exact ⟨by simp [*], rfl⟩

def twCold (b : Nat) (x : Int32) (μ : MemT) : MemT := mset μ b (upd (μ b) 8 (μ b 8 ^^^ 1 <<< (x &&& 31)))
def drf (d w : Int32) : Int32 := if 1 < (if w + d < 400 then w + d else 400) then (if w + d < 400 then w + d else 400) else 1

set_option maxRecDepth 100000 in
set_option maxHeartbeats 4000000 in
theorem kX4_drifted {l : Launch} {G : GT} {b : Nat} (hT : isTw b) {μ : MemT} {p : Nat} (hp : p < 8) {w : Int32} : sw_Met l G yX4_drifted cX4_drifted 3 (some .int) (rmk 1 14) [.ref (G.2.1 b), .int (nI p), .int w] μ (fun v μ2 => v = some (.int (drf (μ (b + 3) p) w)) ∧ μ2 = μ) := by
  refine sw_Met.ofY (by decide) (Nat.le_of_ble_eq_true rfl) rfl ?_
  refine y_iconst dX4_drifted_0 ic_1 ?_
  refine y_sipush dX4_drifted_1 is_400 ?_
  refine y_iload_n dX4_drifted_4 rfl rfl ?_
  refine y_aload_n dX4_drifted_5 rfl rfl ?_
  refine y_getr dX4_drifted_6 2 clX4 (tw_0 hT) (by decide) wm_fl_X4_18 rfl rfl ?_
  refine y_iload_n dX4_drifted_9 rfl rfl ?_
  refine y_iald dX4_drifted_10 p (tw_3 hT) rfl (by first | assumption | decide | omega) (by decide) ?_
  refine y_iadd dX4_drifted_11 ?_
  refine y_mmin dX4_drifted_12 wm_ml_X4_86 (by decide) (Nat.le_of_ble_eq_true rfl) ?_
  refine y_mmax dX4_drifted_15 wm_ml_X4_91 (by decide) (Nat.le_of_ble_eq_true rfl) ?_
  refine y_iret dX4_drifted_18 ?_
  exact ⟨rfl, rfl⟩

set_option maxRecDepth 100000 in
set_option maxHeartbeats 4000000 in
theorem kX4_turnCold {l : Launch} {G : GT} {b : Nat} (hT : isTw b) {μ : MemT} {x : Int32} : sw_Met l G yX4_turnCold cX4_turnCold 2 none (rmk 0 0) [.ref (G.2.1 b), .int x] μ (fun v μ2 => v = none ∧ μ2 = twCold b x μ) := by
  refine sw_Met.ofY (by decide) (Nat.le_of_ble_eq_true rfl) rfl ?_
  refine y_aload_n dX4_turnCold_0 rfl rfl ?_
  refine y_dup dX4_turnCold_1 rfl ?_
  refine y_geti dX4_turnCold_2 8 clX4 (tw_0 hT) (by decide) wm_fl_X4_52 rfl rfl ?_
  refine y_iconst dX4_turnCold_5 ic_1 ?_
  refine y_iload_n dX4_turnCold_6 rfl rfl ?_
  refine y_ishl dX4_turnCold_7 ?_
  refine y_ixor dX4_turnCold_8 ?_
  refine y_puti dX4_turnCold_9 8 clX4 (tw_0 hT) (by decide) wm_fl_X4_52 rfl rfl rfl rfl (tyX4_ok 8 (by decide)) rfl rfl ?_
  refine y_vret dX4_turnCold_12 ?_
  exact ⟨rfl, rfl⟩

def sumB (x : Int32) (f : Nat → Int32) : Int32 := itr (fun p s => if bt x p then s + f p else s) 8 0 0

set_option maxRecDepth 100000 in
set_option maxHeartbeats 4000000 in
theorem kX4_sumOver {l : Launch} {G : GT} {b : Nat} (hT : isTw b) {μ : MemT} {x : Int32} {f : Nat} {hf : kdL[f]? = some (.inr (0, 8))} : sw_Met l G yX4_sumOver cX4_sumOver 5 (some .int) (rmk 1 21) [.ref (G.2.1 b), .int x, .ref (G.2.1 f)] μ (fun v μ2 => v = some (.int (sumB (x &&& μ b 7) (μ f))) ∧ μ2 = μ) := by
  refine sw_Met.ofY (by decide) (Nat.le_of_ble_eq_true rfl) rfl ?_
  refine y_iconst dX4_sumOver_0 ic_0 ?_
  refine y_istore_n dX4_sumOver_1 rfl rfl (by decide) ?_
  refine y_iconst (v := nI 0) dX4_sumOver_2 icn_0 ?_
  refine y_istore dX4_sumOver_3 rfl (by decide) ?_
  refine y_loop1 (fun (j : Nat) (a : Int32) => [some (.ref (G.2.1 b)), some (.int x), some (.ref (G.2.1 f)), some (.int a), some (.int (nI j))]) (fun (j : Nat) (a : Int32) => μ) (fun (j : Nat) (a : Int32) => itr (fun p s => if bt (x &&& μ b 7) p then s + μ f p else s) (8 - j) j a = itr (fun p s => if bt (x &&& μ b 7) p then s + μ f p else s) 8 0 (0)) 8 (fun a hv5 => ?_) (fun j a hj hv5 ih5 => ?_) 0 (0) (Nat.zero_le _) (rfl)
  · refine y_iload dX4_sumOver_5 rfl ?_
    refine y_bipush dX4_sumOver_7 ib_8 ?_
    refine y_icmp_ge 39 dX4_sumOver_9 (by decide) (fun _ => ?_) (fun hq => absurd (by decide) hq)
    refine y_iload_n dX4_sumOver_39 rfl rfl ?_
    refine y_iret dX4_sumOver_40 ?_
    exact ⟨by rw [itr_ex hv5]; rfl, rfl⟩
  · refine y_iload dX4_sumOver_5 rfl ?_
    refine y_bipush dX4_sumOver_7 ib_8 ?_
    refine y_icmp_ge 39 dX4_sumOver_9 (by decide) (fun hq => absurd hq (nI_ge (b := 8) hj (by decide))) (fun _ => ?_)
    refine y_iload_n dX4_sumOver_12 rfl rfl ?_
    refine y_aload_n dX4_sumOver_13 rfl rfl ?_
    refine y_geti dX4_sumOver_14 7 clX4 (tw_0 hT) (by decide) wm_fl_X4_49 rfl rfl ?_
    refine y_iand dX4_sumOver_17 ?_
    refine y_iload dX4_sumOver_18 rfl ?_
    refine y_cN2 dX4_sumOver_20 meX7_holds wn_X4_83 (kX7_holds) ⟨Nat.le_of_ble_eq_true rfl, Nat.le_of_ble_eq_true rfl⟩ ⟨rfl, rfl⟩ (Nat.le_of_ble_eq_true rfl) (fun v20 μ20 hp20 => ?_)
    obtain ⟨rfl, he20⟩ := hp20
    replace he20 := he20.symm
    subst he20
    refine y_ri ?_
    refine y_ifb_eq 33 dX4_sumOver_23 (by decide) (fun h23 => ?_) (fun h23 => ?_)
    · refine y_iinc (v := nI (j + 1)) dX4_sumOver_33 rfl (nI_i1 _) rfl (by decide) ?_
      refine y_goto 5 dX4_sumOver_36 (by decide) ?_
      exact ih5 _ (itr_nx hj hv5 (by simp_all [isP_n hj]))
    · refine y_iload_n dX4_sumOver_26 rfl rfl ?_
      refine y_aload_n dX4_sumOver_27 rfl rfl ?_
      refine y_iload dX4_sumOver_28 rfl ?_
      refine y_iald dX4_sumOver_30 j hf rfl (by first | assumption | decide | omega) (by decide) ?_
      refine y_iadd dX4_sumOver_31 ?_
      refine y_istore_n dX4_sumOver_32 rfl rfl (by decide) ?_
      refine y_iinc (v := nI (j + 1)) dX4_sumOver_33 rfl (nI_i1 _) rfl (by decide) ?_
      refine y_goto 5 dX4_sumOver_36 (by decide) ?_
      exact ih5 _ (itr_nx hj hv5 (by simp_all [isP_n hj]))

def wcB (x colds : Int32) (w : Nat → Int32) : Int32 := itr (fun p s => if bt x p then s + wc colds (nI p) (w p) else s) 8 0 0

set_option maxRecDepth 100000 in
set_option maxHeartbeats 4000000 in
theorem kX4_poundsOfAll {l : Launch} {G : GT} {b : Nat} (hT : isTw b) {μ : MemT} {x : Int32} : sw_Met l G yX4_poundsOfAll cX4_poundsOfAll 4 (some .int) (rmk 1 22) [.ref (G.2.1 b), .int x] μ (fun v μ2 => v = some (.int (wcB (x &&& μ b 7) (μ b 8) (μ (b + 2)))) ∧ μ2 = μ) := by
  refine sw_Met.ofY (by decide) (Nat.le_of_ble_eq_true rfl) rfl ?_
  refine y_iconst dX4_poundsOfAll_0 ic_0 ?_
  refine y_istore_n dX4_poundsOfAll_1 rfl rfl (by decide) ?_
  refine y_iconst (v := nI 0) dX4_poundsOfAll_2 icn_0 ?_
  refine y_istore_n dX4_poundsOfAll_3 rfl rfl (by decide) ?_
  refine y_loop1 (fun (j : Nat) (a : Int32) => [some (.ref (G.2.1 b)), some (.int x), some (.int a), some (.int (nI j))]) (fun (j : Nat) (a : Int32) => μ) (fun (j : Nat) (a : Int32) => itr (fun p s => if bt (x &&& μ b 7) p then s + wc (μ b 8) (nI p) (μ (b + 2) p) else s) (8 - j) j a = itr (fun p s => if bt (x &&& μ b 7) p then s + wc (μ b 8) (nI p) (μ (b + 2) p) else s) 8 0 (0)) 8 (fun a hv4 => ?_) (fun j a hj hv4 ih4 => ?_) 0 (0) (Nat.zero_le _) (rfl)
  · refine y_iload_n dX4_poundsOfAll_4 rfl rfl ?_
    refine y_bipush dX4_poundsOfAll_5 ib_8 ?_
    refine y_icmp_ge 43 dX4_poundsOfAll_7 (by decide) (fun _ => ?_) (fun hq => absurd (by decide) hq)
    refine y_iload_n dX4_poundsOfAll_43 rfl rfl ?_
    refine y_iret dX4_poundsOfAll_44 ?_
    exact ⟨by rw [itr_ex hv4]; rfl, rfl⟩
  · refine y_iload_n dX4_poundsOfAll_4 rfl rfl ?_
    refine y_bipush dX4_poundsOfAll_5 ib_8 ?_
    refine y_icmp_ge 43 dX4_poundsOfAll_7 (by decide) (fun hq => absurd hq (nI_ge (b := 8) hj (by decide))) (fun _ => ?_)
    refine y_iload_n dX4_poundsOfAll_10 rfl rfl ?_
    refine y_aload_n dX4_poundsOfAll_11 rfl rfl ?_
    refine y_geti dX4_poundsOfAll_12 7 clX4 (tw_0 hT) (by decide) wm_fl_X4_49 rfl rfl ?_
    refine y_iand dX4_poundsOfAll_15 ?_
    refine y_iload_n dX4_poundsOfAll_16 rfl rfl ?_
    refine y_cN2 dX4_poundsOfAll_17 meX7_holds wn_X4_83 (kX7_holds) ⟨Nat.le_of_ble_eq_true rfl, Nat.le_of_ble_eq_true rfl⟩ ⟨rfl, rfl⟩ (Nat.le_of_ble_eq_true rfl) (fun v17 μ17 hp17 => ?_)
    obtain ⟨rfl, he17⟩ := hp17
    replace he17 := he17.symm
    subst he17
    refine y_ri ?_
    refine y_ifb_eq 37 dX4_poundsOfAll_20 (by decide) (fun h20 => ?_) (fun h20 => ?_)
    · refine y_iinc (v := nI (j + 1)) dX4_poundsOfAll_37 rfl (nI_i1 _) rfl (by decide) ?_
      refine y_goto 4 dX4_poundsOfAll_40 (by decide) ?_
      exact ih4 _ (itr_nx hj hv4 (by simp_all [isP_n hj]))
    · refine y_iload_n dX4_poundsOfAll_23 rfl rfl ?_
      refine y_aload_n dX4_poundsOfAll_24 rfl rfl ?_
      refine y_iload_n dX4_poundsOfAll_25 rfl rfl ?_
      refine y_aload_n dX4_poundsOfAll_26 rfl rfl ?_
      refine y_getr dX4_poundsOfAll_27 1 clX4 (tw_0 hT) (by decide) wm_fl_X4_15 rfl rfl ?_
      refine y_iload_n dX4_poundsOfAll_30 rfl rfl ?_
      refine y_iald dX4_poundsOfAll_31 j (tw_2 hT) rfl (by first | assumption | decide | omega) (by decide) ?_
      refine y_cV2 dX4_poundsOfAll_32 meX4_withCold clX4 (tw_0 hT) wm_ml_X4_79 (kX4_withCold hT) ⟨Nat.le_of_ble_eq_true rfl, Nat.le_of_ble_eq_true rfl⟩ ⟨rfl, rfl⟩ (Nat.le_of_ble_eq_true rfl) (fun v32 μ32 hp32 => ?_)
      obtain ⟨rfl, he32⟩ := hp32
      replace he32 := he32.symm
      subst he32
      refine y_ri ?_
      refine y_iadd dX4_poundsOfAll_35 ?_
      refine y_istore_n dX4_poundsOfAll_36 rfl rfl (by decide) ?_
      refine y_iinc (v := nI (j + 1)) dX4_poundsOfAll_37 rfl (nI_i1 _) rfl (by decide) ?_
      refine y_goto 4 dX4_poundsOfAll_40 (by decide) ?_
      exact ih4 _ (itr_nx hj hv4 (by simp_all [isP_n hj]))

def marB (sp : Nat → Int32) : Int32 := itr (fun p s => if sp p = -6 then s else s + 1) 8 0 0
def tbad (x : Int32) (sp : Nat → Int32) (p : Nat) : Bool := bt x p && (!decide (sp p = -6) && decide ((x >>> (sp p &&& 31)) &&& 1 = 0))
def togC (x : Int32) (sp : Nat → Int32) : Bool := (fnd (tbad x sp) 8 0).isNone

set_option maxRecDepth 100000 in
set_option maxHeartbeats 4000000 in
theorem kX4_marriages {l : Launch} {G : GT} {b : Nat} (hT : isTw b) {μ : MemT}  : sw_Met l G yX4_marriages cX4_marriages 3 (some .int) (rmk 0 0) [.ref (G.2.1 b)] μ (fun v μ2 => v = some (.int (marB (μ (b + 4)) / 2)) ∧ μ2 = μ) := by
  refine sw_Met.ofY (by decide) (Nat.le_of_ble_eq_true rfl) rfl ?_
  refine y_iconst dX4_marriages_0 ic_0 ?_
  refine y_istore_n dX4_marriages_1 rfl rfl (by decide) ?_
  refine y_iconst (v := nI 0) dX4_marriages_2 icn_0 ?_
  refine y_istore_n dX4_marriages_3 rfl rfl (by decide) ?_
  refine y_loop1 (fun (j : Nat) (a : Int32) => [some (.ref (G.2.1 b)), some (.int a), some (.int (nI j))]) (fun (j : Nat) (a : Int32) => μ) (fun (j : Nat) (a : Int32) => itr (fun p s => if μ (b + 4) p = -6 then s else s + 1) (8 - j) j a = itr (fun p s => if μ (b + 4) p = -6 then s else s + 1) 8 0 (0)) 8 (fun a hv4 => ?_) (fun j a hj hv4 ih4 => ?_) 0 (0) (Nat.zero_le _) (rfl)
  · refine y_iload_n dX4_marriages_4 rfl rfl ?_
    refine y_bipush dX4_marriages_5 ib_8 ?_
    refine y_icmp_ge 30 dX4_marriages_7 (by decide) (fun _ => ?_) (fun hq => absurd (by decide) hq)
    refine y_iload_n dX4_marriages_30 rfl rfl ?_
    refine y_iconst dX4_marriages_31 ic_2 ?_
    refine y_idiv dX4_marriages_32 (by decide) ?_
    refine y_iret dX4_marriages_33 ?_
    exact ⟨by rw [itr_ex hv4]; rfl, rfl⟩
  · refine y_iload_n dX4_marriages_4 rfl rfl ?_
    refine y_bipush dX4_marriages_5 ib_8 ?_
    refine y_icmp_ge 30 dX4_marriages_7 (by decide) (fun hq => absurd hq (nI_ge (b := 8) hj (by decide))) (fun _ => ?_)
    refine y_aload_n dX4_marriages_10 rfl rfl ?_
    refine y_getr dX4_marriages_11 3 clX4 (tw_0 hT) (by decide) wm_fl_X4_21 rfl rfl ?_
    refine y_iload_n dX4_marriages_14 rfl rfl ?_
    refine y_iald dX4_marriages_15 j (tw_4 hT) rfl (by first | assumption | decide | omega) (by decide) ?_
    refine y_bipush dX4_marriages_16 ib_m6 ?_
    refine y_icmp_eq 24 dX4_marriages_18 (by decide) (fun h18 => ?_) (fun h18 => ?_)
    · refine y_iinc (v := nI (j + 1)) dX4_marriages_24 rfl (nI_i1 _) rfl (by decide) ?_
      refine y_goto 4 dX4_marriages_27 (by decide) ?_
      exact ih4 _ (itr_nx hj hv4 (by simp_all))
    · refine y_iinc dX4_marriages_21 rfl (ii_1 _) rfl (by decide) ?_
      refine y_iinc (v := nI (j + 1)) dX4_marriages_24 rfl (nI_i1 _) rfl (by decide) ?_
      refine y_goto 4 dX4_marriages_27 (by decide) ?_
      exact ih4 _ (itr_nx hj hv4 (by simp_all))

set_option maxRecDepth 100000 in
set_option maxHeartbeats 4000000 in
theorem kX4_together {l : Launch} {G : GT} {b : Nat} (hT : isTw b) {μ : MemT} {x : Int32} : sw_Met l G yX4_together cX4_together 3 (some .boolean) (rmk 0 0) [.ref (G.2.1 b), .int x] μ (fun v μ2 => v = some (.int (bI (togC x (μ (b + 4))))) ∧ μ2 = μ) := by
  refine sw_Met.ofY (by decide) (Nat.le_of_ble_eq_true rfl) rfl ?_
  refine y_iconst (v := nI 0) dX4_together_0 icn_0 ?_
  refine y_istore_n dX4_together_1 rfl rfl (by decide) ?_
  refine y_loop0 (fun (j : Nat)  => [some (.ref (G.2.1 b)), some (.int x), some (.int (nI j))]) (fun (j : Nat)  => μ) (fun (j : Nat)  => fnd (tbad x (μ (b + 4))) (8 - j) j = fnd (tbad x (μ (b + 4))) 8 0) 8 (fun  hv2 => ?_) (fun j hj hv2 ih2 => ?_) 0  (Nat.zero_le _) (rfl)
  · refine y_iload_n dX4_together_2 rfl rfl ?_
    refine y_bipush dX4_together_3 ib_8 ?_
    refine y_icmp_ge 49 dX4_together_5 (by decide) (fun _ => ?_) (fun hq => absurd (by decide) hq)
    refine y_iconst dX4_together_49 ic_1 ?_
    refine y_zret dX4_together_50 rfl ?_
    exact ⟨e_b1 (by rw [togC, fnd_ex hv2]; rfl), rfl⟩
  · refine y_iload_n dX4_together_2 rfl rfl ?_
    refine y_bipush dX4_together_3 ib_8 ?_
    refine y_icmp_ge 49 dX4_together_5 (by decide) (fun hq => absurd hq (nI_ge (b := 8) hj (by decide))) (fun _ => ?_)
    refine y_iload_n dX4_together_8 rfl rfl ?_
    refine y_iload_n dX4_together_9 rfl rfl ?_
    refine y_ishr dX4_together_10 ?_
    refine y_iconst dX4_together_11 ic_1 ?_
    refine y_iand dX4_together_12 ?_
    refine y_iconst dX4_together_13 ic_1 ?_
    refine y_icmp_ne 43 dX4_together_14 (by decide) (fun h14 => ?_) (fun h14 => ?_)
    · refine y_iinc (v := nI (j + 1)) dX4_together_43 rfl (nI_i1 _) rfl (by decide) ?_
      refine y_goto 2 dX4_together_46 (by decide) ?_
      exact ih2 (fnd_nx hj hv2 (by simp_all [tbad, bt, bitI]))
    · refine y_aload_n dX4_together_17 rfl rfl ?_
      refine y_getr dX4_together_18 3 clX4 (tw_0 hT) (by decide) wm_fl_X4_21 rfl rfl ?_
      refine y_iload_n dX4_together_21 rfl rfl ?_
      refine y_iald dX4_together_22 j (tw_4 hT) rfl (by first | assumption | decide | omega) (by decide) ?_
      refine y_bipush dX4_together_23 ib_m6 ?_
      refine y_icmp_eq 43 dX4_together_25 (by decide) (fun h25 => ?_) (fun h25 => ?_)
      · refine y_iinc (v := nI (j + 1)) dX4_together_43 rfl (nI_i1 _) rfl (by decide) ?_
        refine y_goto 2 dX4_together_46 (by decide) ?_
        exact ih2 (fnd_nx hj hv2 (by simp_all [tbad, bt, bitI]))
      · refine y_iload_n dX4_together_28 rfl rfl ?_
        refine y_aload_n dX4_together_29 rfl rfl ?_
        refine y_getr dX4_together_30 3 clX4 (tw_0 hT) (by decide) wm_fl_X4_21 rfl rfl ?_
        refine y_iload_n dX4_together_33 rfl rfl ?_
        refine y_iald dX4_together_34 j (tw_4 hT) rfl (by first | assumption | decide | omega) (by decide) ?_
        refine y_ishr dX4_together_35 ?_
        refine y_iconst dX4_together_36 ic_1 ?_
        refine y_iand dX4_together_37 ?_
        refine y_if_ne 43 dX4_together_38 (by decide) (fun h38 => ?_) (fun h38 => ?_)
        · refine y_iinc (v := nI (j + 1)) dX4_together_43 rfl (nI_i1 _) rfl (by decide) ?_
          refine y_goto 2 dX4_together_46 (by decide) ?_
          exact ih2 (fnd_nx hj hv2 (by simp_all [tbad, bt, bitI]))
        · refine y_iconst dX4_together_41 ic_0 ?_
          refine y_zret dX4_together_42 rfl ?_
          exact ⟨e_b0 (by rw [togC, fnd_hit hj hv2 (by simp_all [tbad, bt, bitI])]; rfl), rfl⟩

def pdW (t : Int32) (d w : Nat → Int32) : Nat → Int32 := itr (fun p w => if bt t p then upd w p (drf (d p) (w p)) else w) 8 0 w
def feW (t : Int32) (w : Nat → Int32) : Nat → Int32 := itr (fun p w => if bt t p then upd w p (if w p + 5 < 400 then w p + 5 else 400) else w) 8 0 w
def twDay (b : Nat) (μ : MemT) : MemT := mset (mset μ b (upd (μ b) 10 (μ b 10 + 1))) (b + 2) (pdW (μ b 7) (μ (b + 3)) (μ (b + 2)))
def twFeast (b : Nat) (μ : MemT) : MemT := mset μ (b + 2) (feW (μ b 7) (μ (b + 2)))
def twJoin (b p q : Nat) (μ : MemT) : MemT := mset μ (b + 4) (upd (upd (μ (b + 4)) p (nI q)) q (nI p))
def ptW (t : Int32) (p : Nat) (sp : Nat → Int32) : Nat → Int32 := if isP t (sp p) then upd (upd sp p (-6)) (sp p).toNatClampNeg (-6) else upd sp p (-6)
def twPart (b p : Nat) (μ : MemT) : MemT := mset μ (b + 4) (ptW (μ b 7) p (μ (b + 4)))
def twOut (b p : Nat) (μ : MemT) : MemT := mset (twPart b p μ) b (upd (upd (μ b) 7 (μ b 7 &&& (1 <<< (nI p &&& 31) ^^^ -1))) 8 (μ b 8 &&& (1 <<< (nI p &&& 31) ^^^ -1)))
def twIn (b p : Nat) (x w d : Int32) (μ : MemT) : MemT := mset (mset (mset (mset μ (b + 1) (upd (μ (b + 1)) p x)) (b + 2) (upd (μ (b + 2)) p w)) (b + 3) (upd (μ (b + 3)) p d)) b (upd (upd (μ b) 7 (μ b 7 ||| 1 <<< (nI p &&& 31))) 8 (μ b 8 &&& (1 <<< (nI p &&& 31) ^^^ -1)))
def twSee (b k : Nat) (x y z : Int32) (μ : MemT) : MemT := mset (mset (mset (mset μ (b + 5) (upd (μ (b + 5)) k x)) (b + 6) (upd (μ (b + 6)) k y)) (b + 7) (upd (μ (b + 7)) k z)) b (upd (μ b) 11 (nI (k + 1)))

set_option maxRecDepth 100000 in
set_option maxHeartbeats 4000000 in
theorem kX4_passDay {l : Launch} {G : GT} {b : Nat} (hT : isTw b) {μ : MemT}  : sw_Met l G yX4_passDay cX4_passDay 2 none (rmk 2 36) [.ref (G.2.1 b)] μ (fun v μ2 => v = none ∧ μ2 = twDay b μ) := by
  refine sw_Met.ofY (by decide) (Nat.le_of_ble_eq_true rfl) rfl ?_
  refine y_aload_n dX4_passDay_0 rfl rfl ?_
  refine y_dup dX4_passDay_1 rfl ?_
  refine y_geti dX4_passDay_2 10 clX4 (tw_0 hT) (by decide) wm_fl_X4_55 rfl rfl ?_
  refine y_iconst dX4_passDay_5 ic_1 ?_
  refine y_iadd dX4_passDay_6 ?_
  refine y_puti dX4_passDay_7 10 clX4 (tw_0 hT) (by decide) wm_fl_X4_55 rfl rfl rfl rfl (tyX4_ok 10 (by decide)) rfl rfl ?_
  refine y_iconst (v := nI 0) dX4_passDay_10 icn_0 ?_
  refine y_istore_n dX4_passDay_11 rfl rfl (by decide) ?_
  refine y_eq (mset_eq (k := b + 2) (r := μ (b + 2)) (by simp [mset])) rfl rfl ?_
  refine y_loop1 (fun (j : Nat) (a : Nat → Int32) => [some (.ref (G.2.1 b)), some (.int (nI j))]) (fun (j : Nat) (a : Nat → Int32) => (mset (mset μ b (upd (μ b) 10 (μ b 10 + 1))) (b + 2) a)) (fun (j : Nat) (a : Nat → Int32) => itr (fun p w => if bt (μ b 7) p then upd w p (drf (μ (b + 3) p) (w p)) else w) (8 - j) j a = itr (fun p w => if bt (μ b 7) p then upd w p (drf (μ (b + 3) p) (w p)) else w) 8 0 (μ (b + 2))) 8 (fun a hv12 => ?_) (fun j a hj hv12 ih12 => ?_) 0 (μ (b + 2)) (Nat.zero_le _) (rfl)
  · refine y_iload_n dX4_passDay_12 rfl rfl ?_
    refine y_bipush dX4_passDay_13 ib_8 ?_
    refine y_icmp_ge 49 dX4_passDay_15 (by decide) (fun _ => ?_) (fun hq => absurd (by decide) hq)
    refine y_vret dX4_passDay_49 ?_
    exact ⟨rfl, by rw [itr_ex hv12]; rfl⟩
  · refine y_iload_n dX4_passDay_12 rfl rfl ?_
    refine y_bipush dX4_passDay_13 ib_8 ?_
    refine y_icmp_ge 49 dX4_passDay_15 (by decide) (fun hq => absurd hq (nI_ge (b := 8) hj (by decide))) (fun _ => ?_)
    refine y_aload_n dX4_passDay_18 rfl rfl ?_
    refine y_iload_n dX4_passDay_19 rfl rfl ?_
    refine y_cV1 dX4_passDay_20 meX4_has clX4 (tw_0 hT) wm_ml_X4_61 (kX4_has hT) ⟨Nat.le_of_ble_eq_true rfl, Nat.le_of_ble_eq_true rfl⟩ ⟨rfl, rfl⟩ (Nat.le_of_ble_eq_true rfl) (fun v20 μ20 hp20 => ?_)
    obtain ⟨rfl, he20⟩ := hp20
    replace he20 := he20.symm
    subst he20
    refine y_ri ?_
    refine y_ifb_eq 43 dX4_passDay_23 (by decide) (fun h23 => ?_) (fun h23 => ?_)
    · refine y_iinc (v := nI (j + 1)) dX4_passDay_43 rfl (nI_i1 _) rfl (by decide) ?_
      refine y_goto 12 dX4_passDay_46 (by decide) ?_
      exact y_eq (μ2 := mset (mset μ b (upd (μ b) 10 (μ b 10 + 1))) (b + 2) (if bt (μ b 7) j then upd a j (drf (μ (b + 3) j) (a j)) else a)) (by clear ih12 hv12; simp_all [isP_n hj, mset_mset, mset, upd]) rfl rfl (ih12 _ (itr_nx hj hv12 rfl))
    · refine y_aload_n dX4_passDay_26 rfl rfl ?_
      refine y_getr dX4_passDay_27 1 clX4 (tw_0 hT) (by decide) wm_fl_X4_15 rfl rfl ?_
      refine y_iload_n dX4_passDay_30 rfl rfl ?_
      refine y_aload_n dX4_passDay_31 rfl rfl ?_
      refine y_iload_n dX4_passDay_32 rfl rfl ?_
      refine y_aload_n dX4_passDay_33 rfl rfl ?_
      refine y_getr dX4_passDay_34 1 clX4 (tw_0 hT) (by decide) wm_fl_X4_15 rfl rfl ?_
      refine y_iload_n dX4_passDay_37 rfl rfl ?_
      refine y_iald dX4_passDay_38 j (tw_2 hT) rfl (by first | assumption | decide | omega) (by decide) ?_
      refine y_cV2 dX4_passDay_39 meX4_drifted clX4 (tw_0 hT) wm_ml_X4_94 (kX4_drifted hT (by first | assumption | omega)) ⟨Nat.le_of_ble_eq_true rfl, Nat.le_of_ble_eq_true rfl⟩ ⟨rfl, rfl⟩ (Nat.le_of_ble_eq_true rfl) (fun v39 μ39 hp39 => ?_)
      obtain ⟨rfl, he39⟩ := hp39
      replace he39 := he39.symm
      subst he39
      refine y_ri ?_
      refine y_iast dX4_passDay_42 j (tw_2 hT) rfl (by first | assumption | decide | omega) (by decide) ?_
      refine y_iinc (v := nI (j + 1)) dX4_passDay_43 rfl (nI_i1 _) rfl (by decide) ?_
      refine y_goto 12 dX4_passDay_46 (by decide) ?_
      exact y_eq (μ2 := mset (mset μ b (upd (μ b) 10 (μ b 10 + 1))) (b + 2) (if bt (μ b 7) j then upd a j (drf (μ (b + 3) j) (a j)) else a)) (by clear ih12 hv12; simp_all [isP_n hj, mset_mset, mset, upd]) rfl rfl (ih12 _ (itr_nx hj hv12 rfl))

set_option maxRecDepth 100000 in
set_option maxHeartbeats 4000000 in
theorem kX4_feast {l : Launch} {G : GT} {b : Nat} (hT : isTw b) {μ : MemT}  : sw_Met l G yX4_feast cX4_feast 2 none (rmk 1 21) [.ref (G.2.1 b)] μ (fun v μ2 => v = none ∧ μ2 = twFeast b μ) := by
  refine sw_Met.ofY (by decide) (Nat.le_of_ble_eq_true rfl) rfl ?_
  refine y_iconst (v := nI 0) dX4_feast_0 icn_0 ?_
  refine y_istore_n dX4_feast_1 rfl rfl (by decide) ?_
  refine y_eq (mset_eq (k := b + 2) (r := μ (b + 2)) rfl) rfl rfl ?_
  refine y_loop1 (fun (j : Nat) (a : Nat → Int32) => [some (.ref (G.2.1 b)), some (.int (nI j))]) (fun (j : Nat) (a : Nat → Int32) => (mset μ (b + 2) a)) (fun (j : Nat) (a : Nat → Int32) => itr (fun p w => if bt (μ b 7) p then upd w p (if w p + 5 < 400 then w p + 5 else 400) else w) (8 - j) j a = itr (fun p w => if bt (μ b 7) p then upd w p (if w p + 5 < 400 then w p + 5 else 400) else w) 8 0 (μ (b + 2))) 8 (fun a hv2 => ?_) (fun j a hj hv2 ih2 => ?_) 0 (μ (b + 2)) (Nat.zero_le _) (rfl)
  · refine y_iload_n dX4_feast_2 rfl rfl ?_
    refine y_bipush dX4_feast_3 ib_8 ?_
    refine y_icmp_ge 42 dX4_feast_5 (by decide) (fun _ => ?_) (fun hq => absurd (by decide) hq)
    refine y_vret dX4_feast_42 ?_
    exact ⟨rfl, by rw [itr_ex hv2]; rfl⟩
  · refine y_iload_n dX4_feast_2 rfl rfl ?_
    refine y_bipush dX4_feast_3 ib_8 ?_
    refine y_icmp_ge 42 dX4_feast_5 (by decide) (fun hq => absurd hq (nI_ge (b := 8) hj (by decide))) (fun _ => ?_)
    refine y_aload_n dX4_feast_8 rfl rfl ?_
    refine y_iload_n dX4_feast_9 rfl rfl ?_
    refine y_cV1 dX4_feast_10 meX4_has clX4 (tw_0 hT) wm_ml_X4_61 (kX4_has hT) ⟨Nat.le_of_ble_eq_true rfl, Nat.le_of_ble_eq_true rfl⟩ ⟨rfl, rfl⟩ (Nat.le_of_ble_eq_true rfl) (fun v10 μ10 hp10 => ?_)
    obtain ⟨rfl, he10⟩ := hp10
    replace he10 := he10.symm
    subst he10
    refine y_ri ?_
    refine y_ifb_eq 36 dX4_feast_13 (by decide) (fun h13 => ?_) (fun h13 => ?_)
    · refine y_iinc (v := nI (j + 1)) dX4_feast_36 rfl (nI_i1 _) rfl (by decide) ?_
      refine y_goto 2 dX4_feast_39 (by decide) ?_
      exact y_eq (μ2 := mset μ (b + 2) (if bt (μ b 7) j then upd a j (if a j + 5 < 400 then a j + 5 else 400) else a)) (by clear ih2 hv2; simp_all [isP_n hj, mset_mset, mset, upd]) rfl rfl (ih2 _ (itr_nx hj hv2 rfl))
    · refine y_aload_n dX4_feast_16 rfl rfl ?_
      refine y_getr dX4_feast_17 1 clX4 (tw_0 hT) (by decide) wm_fl_X4_15 rfl rfl ?_
      refine y_iload_n dX4_feast_20 rfl rfl ?_
      refine y_sipush dX4_feast_21 is_400 ?_
      refine y_aload_n dX4_feast_24 rfl rfl ?_
      refine y_getr dX4_feast_25 1 clX4 (tw_0 hT) (by decide) wm_fl_X4_15 rfl rfl ?_
      refine y_iload_n dX4_feast_28 rfl rfl ?_
      refine y_iald dX4_feast_29 j (tw_2 hT) rfl (by first | assumption | decide | omega) (by decide) ?_
      refine y_iconst dX4_feast_30 ic_5 ?_
      refine y_iadd dX4_feast_31 ?_
      refine y_mmin dX4_feast_32 wm_ml_X4_86 (by decide) (Nat.le_of_ble_eq_true rfl) ?_
      refine y_iast dX4_feast_35 j (tw_2 hT) rfl (by first | assumption | decide | omega) (by decide) ?_
      refine y_iinc (v := nI (j + 1)) dX4_feast_36 rfl (nI_i1 _) rfl (by decide) ?_
      refine y_goto 2 dX4_feast_39 (by decide) ?_
      exact y_eq (μ2 := mset μ (b + 2) (if bt (μ b 7) j then upd a j (if a j + 5 < 400 then a j + 5 else 400) else a)) (by clear ih2 hv2; simp_all [isP_n hj, mset_mset, mset, upd]) rfl rfl (ih2 _ (itr_nx hj hv2 rfl))

set_option maxRecDepth 100000 in
set_option maxHeartbeats 4000000 in
theorem kX4_join {l : Launch} {G : GT} {b : Nat} (hT : isTw b) {μ : MemT} {p : Nat} (hp : p < 8) {q : Nat} (hq : q < 8) : sw_Met l G yX4_join cX4_join 3 none (rmk 0 0) [.ref (G.2.1 b), .int (nI p), .int (nI q)] μ (fun v μ2 => v = none ∧ μ2 = twJoin b p q μ) := by
  refine sw_Met.ofY (by decide) (Nat.le_of_ble_eq_true rfl) rfl ?_
  refine y_aload_n dX4_join_0 rfl rfl ?_
  refine y_getr dX4_join_1 3 clX4 (tw_0 hT) (by decide) wm_fl_X4_21 rfl rfl ?_
  refine y_iload_n dX4_join_4 rfl rfl ?_
  refine y_iload_n dX4_join_5 rfl rfl ?_
  refine y_iast dX4_join_6 p (tw_4 hT) rfl (by first | assumption | decide | omega) (by decide) ?_
  refine y_aload_n dX4_join_7 rfl rfl ?_
  refine y_getr dX4_join_8 3 clX4 (tw_0 hT) (by decide) wm_fl_X4_21 rfl rfl ?_
  refine y_iload_n dX4_join_11 rfl rfl ?_
  refine y_iload_n dX4_join_12 rfl rfl ?_
  refine y_iast dX4_join_13 q (tw_4 hT) rfl (by first | assumption | decide | omega) (by decide) ?_
  refine y_vret dX4_join_14 ?_
  exact ⟨rfl, by simp only [twJoin, mset_mset, mset_self]⟩

set_option maxRecDepth 100000 in
set_option maxHeartbeats 4000000 in
theorem kX4_settle {l : Launch} {G : GT} {b : Nat} (hT : isTw b) {μ : MemT} {p : Nat} (hp : p < 8) {x w d : Int32} : sw_Met l G yX4_settle cX4_settle 5 none (rmk 0 0) [.ref (G.2.1 b), .int (nI p), .int x, .int w, .int d] μ (fun v μ2 => v = none ∧ μ2 = twIn b p x w d μ) := by
  refine sw_Met.ofY (by decide) (Nat.le_of_ble_eq_true rfl) rfl ?_
  refine y_aload_n dX4_settle_0 rfl rfl ?_
  refine y_getr dX4_settle_1 0 clX4 (tw_0 hT) (by decide) wm_fl_X4_9 rfl rfl ?_
  refine y_iload_n dX4_settle_4 rfl rfl ?_
  refine y_iload_n dX4_settle_5 rfl rfl ?_
  refine y_iast dX4_settle_6 p (tw_1 hT) rfl (by first | assumption | decide | omega) (by decide) ?_
  refine y_aload_n dX4_settle_7 rfl rfl ?_
  refine y_getr dX4_settle_8 1 clX4 (tw_0 hT) (by decide) wm_fl_X4_15 rfl rfl ?_
  refine y_iload_n dX4_settle_11 rfl rfl ?_
  refine y_iload_n dX4_settle_12 rfl rfl ?_
  refine y_iast dX4_settle_13 p (tw_2 hT) rfl (by first | assumption | decide | omega) (by decide) ?_
  refine y_aload_n dX4_settle_14 rfl rfl ?_
  refine y_getr dX4_settle_15 2 clX4 (tw_0 hT) (by decide) wm_fl_X4_18 rfl rfl ?_
  refine y_iload_n dX4_settle_18 rfl rfl ?_
  refine y_iload dX4_settle_19 rfl ?_
  refine y_iast dX4_settle_21 p (tw_3 hT) rfl (by first | assumption | decide | omega) (by decide) ?_
  refine y_aload_n dX4_settle_22 rfl rfl ?_
  refine y_dup dX4_settle_23 rfl ?_
  refine y_geti dX4_settle_24 7 clX4 (tw_0 hT) (by decide) wm_fl_X4_49 rfl rfl ?_
  refine y_iconst dX4_settle_27 ic_1 ?_
  refine y_iload_n dX4_settle_28 rfl rfl ?_
  refine y_ishl dX4_settle_29 ?_
  refine y_ior dX4_settle_30 ?_
  refine y_puti dX4_settle_31 7 clX4 (tw_0 hT) (by decide) wm_fl_X4_49 rfl rfl rfl rfl (tyX4_ok 7 (by decide)) rfl rfl ?_
  refine y_aload_n dX4_settle_34 rfl rfl ?_
  refine y_dup dX4_settle_35 rfl ?_
  refine y_geti dX4_settle_36 8 clX4 (tw_0 hT) (by decide) wm_fl_X4_52 rfl rfl ?_
  refine y_iconst dX4_settle_39 ic_1 ?_
  refine y_iload_n dX4_settle_40 rfl rfl ?_
  refine y_ishl dX4_settle_41 ?_
  refine y_iconst dX4_settle_42 ic_m1 ?_
  refine y_ixor dX4_settle_43 ?_
  refine y_iand dX4_settle_44 ?_
  refine y_puti dX4_settle_45 8 clX4 (tw_0 hT) (by decide) wm_fl_X4_52 rfl rfl rfl rfl (tyX4_ok 8 (by decide)) rfl rfl ?_
  refine y_vret dX4_settle_48 ?_
  exact ⟨rfl, by simp [twIn, mset_mset, mset, upd]⟩

set_option maxRecDepth 100000 in
set_option maxHeartbeats 4000000 in
theorem kX4_part {l : Launch} {G : GT} {b : Nat} (hT : isTw b) {μ : MemT} {p : Nat} (hp : p < 8) : sw_Met l G yX4_part cX4_part 3 none (rmk 1 21) [.ref (G.2.1 b), .int (nI p)] μ (fun v μ2 => v = none ∧ μ2 = twPart b p μ) := by
  refine sw_Met.ofY (by decide) (Nat.le_of_ble_eq_true rfl) rfl ?_
  refine y_aload_n dX4_part_0 rfl rfl ?_
  refine y_getr dX4_part_1 3 clX4 (tw_0 hT) (by decide) wm_fl_X4_21 rfl rfl ?_
  refine y_iload_n dX4_part_4 rfl rfl ?_
  refine y_iald dX4_part_5 p (tw_4 hT) rfl (by first | assumption | decide | omega) (by decide) ?_
  refine y_istore_n dX4_part_6 rfl rfl (by decide) ?_
  refine y_aload_n dX4_part_7 rfl rfl ?_
  refine y_getr dX4_part_8 3 clX4 (tw_0 hT) (by decide) wm_fl_X4_21 rfl rfl ?_
  refine y_iload_n dX4_part_11 rfl rfl ?_
  refine y_bipush dX4_part_12 ib_m6 ?_
  refine y_iast dX4_part_14 p (tw_4 hT) rfl (by first | assumption | decide | omega) (by decide) ?_
  refine y_aload_n dX4_part_15 rfl rfl ?_
  refine y_iload_n dX4_part_16 rfl rfl ?_
  refine y_cV1 dX4_part_17 meX4_has clX4 (tw_0 hT) wm_ml_X4_61 (kX4_has hT) ⟨Nat.le_of_ble_eq_true rfl, Nat.le_of_ble_eq_true rfl⟩ ⟨rfl, rfl⟩ (Nat.le_of_ble_eq_true rfl) (fun v17 μ17 hp17 => ?_)
  obtain ⟨rfl, he17⟩ := hp17
  replace he17 := he17.symm
  subst he17
  refine y_ri ?_
  refine y_ifb_eq 31 dX4_part_20 (by decide) (fun h20 => ?_) (fun h20 => ?_)
  · refine y_vret dX4_part_31 ?_
    refine ⟨rfl, ?_⟩
    simp_all [twPart, ptW, mset_mset, mset]
  · refine y_aload_n dX4_part_23 rfl rfl ?_
    refine y_getr dX4_part_24 3 clX4 (tw_0 hT) (by decide) wm_fl_X4_21 rfl rfl ?_
    refine y_iload_n dX4_part_27 rfl rfl ?_
    refine y_bipush dX4_part_28 ib_m6 ?_
    refine y_iast dX4_part_30 (μ (b + 4) p).toNatClampNeg (tw_4 hT) (isP_nI (by simpa [mset] using h20)).1 (isP_nI (by simpa [mset] using h20)).2 (by decide) ?_
    refine y_vret dX4_part_31 ?_
    refine ⟨rfl, ?_⟩
    simp_all [twPart, ptW, mset_mset, mset]

set_option maxRecDepth 100000 in
set_option maxHeartbeats 4000000 in
theorem kX4_remove {l : Launch} {G : GT} {b : Nat} (hT : isTw b) {μ : MemT} {p : Nat} (hp : p < 8) : sw_Met l G yX4_remove cX4_remove 2 none (rmk 2 43) [.ref (G.2.1 b), .int (nI p)] μ (fun v μ2 => v = none ∧ μ2 = twOut b p μ) := by
  refine sw_Met.ofY (by decide) (Nat.le_of_ble_eq_true rfl) rfl ?_
  refine y_aload_n dX4_remove_0 rfl rfl ?_
  refine y_iload_n dX4_remove_1 rfl rfl ?_
  refine y_cV1 dX4_remove_2 meX4_part clX4 (tw_0 hT) wm_ml_X4_71 (kX4_part hT (by first | assumption | omega)) ⟨Nat.le_of_ble_eq_true rfl, Nat.le_of_ble_eq_true rfl⟩ ⟨rfl, rfl⟩ (Nat.le_of_ble_eq_true rfl) (fun v2 μ2 hp2 => ?_)
  obtain ⟨rfl, he2⟩ := hp2
  replace he2 := he2.symm
  subst he2
  refine y_rv ?_
  refine y_aload_n dX4_remove_5 rfl rfl ?_
  refine y_dup dX4_remove_6 rfl ?_
  refine y_geti dX4_remove_7 7 clX4 (tw_0 hT) (by decide) wm_fl_X4_49 rfl rfl ?_
  refine y_iconst dX4_remove_10 ic_1 ?_
  refine y_iload_n dX4_remove_11 rfl rfl ?_
  refine y_ishl dX4_remove_12 ?_
  refine y_iconst dX4_remove_13 ic_m1 ?_
  refine y_ixor dX4_remove_14 ?_
  refine y_iand dX4_remove_15 ?_
  refine y_puti dX4_remove_16 7 clX4 (tw_0 hT) (by decide) wm_fl_X4_49 rfl rfl rfl rfl (tyX4_ok 7 (by decide)) rfl rfl ?_
  refine y_aload_n dX4_remove_19 rfl rfl ?_
  refine y_dup dX4_remove_20 rfl ?_
  refine y_geti dX4_remove_21 8 clX4 (tw_0 hT) (by decide) wm_fl_X4_52 rfl rfl ?_
  refine y_iconst dX4_remove_24 ic_1 ?_
  refine y_iload_n dX4_remove_25 rfl rfl ?_
  refine y_ishl dX4_remove_26 ?_
  refine y_iconst dX4_remove_27 ic_m1 ?_
  refine y_ixor dX4_remove_28 ?_
  refine y_iand dX4_remove_29 ?_
  refine y_puti dX4_remove_30 8 clX4 (tw_0 hT) (by decide) wm_fl_X4_52 rfl rfl rfl rfl (tyX4_ok 8 (by decide)) rfl rfl ?_
  refine y_vret dX4_remove_33 ?_
  exact ⟨rfl, by simp [twOut, twPart, mset_mset, mset, upd]⟩

set_option maxRecDepth 100000 in
set_option maxHeartbeats 4000000 in
theorem kX4_mayBeWeighed {l : Launch} {G : GT} {b : Nat} (hT : isTw b) {μ : MemT} {x y : Int32} : sw_Met l G yX4_mayBeWeighed cX4_mayBeWeighed 3 (some .boolean) (rmk 1 21) [.ref (G.2.1 b), .int x, .int y] μ (fun v μ2 => v = some (.int (bI (mbw x y (μ b 7)))) ∧ μ2 = μ) := by
  refine sw_Met.ofY (by decide) (Nat.le_of_ble_eq_true rfl) rfl ?_
  refine y_aload_n dX4_mayBeWeighed_0 rfl rfl ?_
  refine y_iload_n dX4_mayBeWeighed_1 rfl rfl ?_
  refine y_cV1 dX4_mayBeWeighed_2 meX4_hasAll clX4 (tw_0 hT) wm_ml_X4_109 (kX4_hasAll hT) ⟨Nat.le_of_ble_eq_true rfl, Nat.le_of_ble_eq_true rfl⟩ ⟨rfl, rfl⟩ (Nat.le_of_ble_eq_true rfl) (fun v2 μ2 hp2 => ?_)
  obtain ⟨rfl, he2⟩ := hp2
  replace he2 := he2.symm
  subst he2
  refine y_ri ?_
  refine y_ifb_eq 34 dX4_mayBeWeighed_5 (by decide) (fun h5 => ?_) (fun h5 => ?_)
  · refine y_iconst dX4_mayBeWeighed_34 ic_0 ?_
    refine y_zret dX4_mayBeWeighed_35 rfl ?_
    refine ⟨e_b0 ?_, rfl⟩
    simp_all [mbw]
  · refine y_aload_n dX4_mayBeWeighed_8 rfl rfl ?_
    refine y_iload_n dX4_mayBeWeighed_9 rfl rfl ?_
    refine y_cV1 dX4_mayBeWeighed_10 meX4_hasAll clX4 (tw_0 hT) wm_ml_X4_109 (kX4_hasAll hT) ⟨Nat.le_of_ble_eq_true rfl, Nat.le_of_ble_eq_true rfl⟩ ⟨rfl, rfl⟩ (Nat.le_of_ble_eq_true rfl) (fun v10 μ10 hp10 => ?_)
    obtain ⟨rfl, he10⟩ := hp10
    replace he10 := he10.symm
    subst he10
    refine y_ri ?_
    refine y_ifb_eq 34 dX4_mayBeWeighed_13 (by decide) (fun h13 => ?_) (fun h13 => ?_)
    · refine y_iconst dX4_mayBeWeighed_34 ic_0 ?_
      refine y_zret dX4_mayBeWeighed_35 rfl ?_
      refine ⟨e_b0 ?_, rfl⟩
      simp_all [mbw]
    · refine y_iload_n dX4_mayBeWeighed_16 rfl rfl ?_
      refine y_if_eq 34 dX4_mayBeWeighed_17 (by decide) (fun h17 => ?_) (fun h17 => ?_)
      · refine y_iconst dX4_mayBeWeighed_34 ic_0 ?_
        refine y_zret dX4_mayBeWeighed_35 rfl ?_
        refine ⟨e_b0 ?_, rfl⟩
        simp_all [mbw]
      · refine y_iload_n dX4_mayBeWeighed_20 rfl rfl ?_
        refine y_if_eq 34 dX4_mayBeWeighed_21 (by decide) (fun h21 => ?_) (fun h21 => ?_)
        · refine y_iconst dX4_mayBeWeighed_34 ic_0 ?_
          refine y_zret dX4_mayBeWeighed_35 rfl ?_
          refine ⟨e_b0 ?_, rfl⟩
          simp_all [mbw]
        · refine y_iload_n dX4_mayBeWeighed_24 rfl rfl ?_
          refine y_iload_n dX4_mayBeWeighed_25 rfl rfl ?_
          refine y_iand dX4_mayBeWeighed_26 ?_
          refine y_if_ne 34 dX4_mayBeWeighed_27 (by decide) (fun h27 => ?_) (fun h27 => ?_)
          · refine y_iconst dX4_mayBeWeighed_34 ic_0 ?_
            refine y_zret dX4_mayBeWeighed_35 rfl ?_
            refine ⟨e_b0 ?_, rfl⟩
            simp_all [mbw]
          · refine y_iconst dX4_mayBeWeighed_30 ic_1 ?_
            refine y_goto 35 dX4_mayBeWeighed_31 (by decide) ?_
            refine y_zret dX4_mayBeWeighed_35 rfl ?_
            refine ⟨e_b1 ?_, rfl⟩
            simp_all [mbw]

set_option maxRecDepth 100000 in
set_option maxHeartbeats 4000000 in
theorem kX4_addSight {l : Launch} {G : GT} {b : Nat} (hT : isTw b) {μ : MemT} {x y z : Int32} {k : Nat} (hk : k ≤ 8) (hs : μ b 11 = nI k) : sw_Met l G yX4_addSight cX4_addSight 4 (some .boolean) (rmk 0 0) [.ref (G.2.1 b), .int x, .int y, .int z] μ (fun v μ2 => v = some (.int (bI (decide (k < 8)))) ∧ μ2 = if k < 8 then twSee b k x y z μ else μ) := by
  refine sw_Met.ofY (by decide) (Nat.le_of_ble_eq_true rfl) rfl ?_
  refine y_aload_n dX4_addSight_0 rfl rfl ?_
  refine y_geti dX4_addSight_1 11 clX4 (tw_0 hT) (by decide) wm_fl_X4_58 rfl rfl ?_
  refine y_bipush dX4_addSight_4 ib_8 ?_
  refine y_icmp_lt 11 dX4_addSight_6 (by decide) (fun h6 => ?_) (fun h6 => ?_)
  · refine y_aload_n dX4_addSight_11 rfl rfl ?_
    refine y_getr dX4_addSight_12 4 clX4 (tw_0 hT) (by decide) wm_fl_X4_24 rfl rfl ?_
    refine y_aload_n dX4_addSight_15 rfl rfl ?_
    refine y_geti dX4_addSight_16 11 clX4 (tw_0 hT) (by decide) wm_fl_X4_58 rfl rfl ?_
    refine y_iload_n dX4_addSight_19 rfl rfl ?_
    refine y_iast dX4_addSight_20 k (tw_5 hT) (by simpa [mset] using hs) (by rw [hs] at h6; have := (nI_ltI (a := k) (b := 8) (by omega) (by decide)).mp h6; omega) (by decide) ?_
    refine y_aload_n dX4_addSight_21 rfl rfl ?_
    refine y_getr dX4_addSight_22 5 clX4 (tw_0 hT) (by decide) wm_fl_X4_27 rfl rfl ?_
    refine y_aload_n dX4_addSight_25 rfl rfl ?_
    refine y_geti dX4_addSight_26 11 clX4 (tw_0 hT) (by decide) wm_fl_X4_58 rfl rfl ?_
    refine y_iload_n dX4_addSight_29 rfl rfl ?_
    refine y_iast dX4_addSight_30 k (tw_6 hT) (by simpa [mset] using hs) (by rw [hs] at h6; have := (nI_ltI (a := k) (b := 8) (by omega) (by decide)).mp h6; omega) (by decide) ?_
    refine y_aload_n dX4_addSight_31 rfl rfl ?_
    refine y_getr dX4_addSight_32 6 clX4 (tw_0 hT) (by decide) wm_fl_X4_30 rfl rfl ?_
    refine y_aload_n dX4_addSight_35 rfl rfl ?_
    refine y_geti dX4_addSight_36 11 clX4 (tw_0 hT) (by decide) wm_fl_X4_58 rfl rfl ?_
    refine y_iload_n dX4_addSight_39 rfl rfl ?_
    refine y_iast dX4_addSight_40 k (tw_7 hT) (by simpa [mset] using hs) (by rw [hs] at h6; have := (nI_ltI (a := k) (b := 8) (by omega) (by decide)).mp h6; omega) (by decide) ?_
    refine y_aload_n dX4_addSight_41 rfl rfl ?_
    refine y_dup dX4_addSight_42 rfl ?_
    refine y_geti dX4_addSight_43 11 clX4 (tw_0 hT) (by decide) wm_fl_X4_58 rfl rfl ?_
    refine y_iconst dX4_addSight_46 ic_1 ?_
    refine y_iadd dX4_addSight_47 ?_
    refine y_puti dX4_addSight_48 11 clX4 (tw_0 hT) (by decide) wm_fl_X4_58 rfl rfl rfl rfl (tyX4_ok 11 (by decide)) rfl rfl ?_
    refine y_iconst dX4_addSight_51 ic_1 ?_
    refine y_zret dX4_addSight_52 rfl ?_
    have hk8 : k < 8 := by
      rw [hs] at h6
      exact (nI_ltI (a := k) (b := 8) (by omega) (by decide)).mp h6
    exact ⟨e_b1 (decide_eq_true hk8), by rw [if_pos hk8]; simp [twSee, mset, hs, nI_1]⟩
  · refine y_iconst dX4_addSight_9 ic_0 ?_
    refine y_zret dX4_addSight_10 rfl ?_
    have hk8 : ¬ k < 8 := fun q => h6 (by rw [hs]; exact nI_lt q (by decide))
    exact ⟨e_b0 (decide_eq_false hk8), by rw [if_neg hk8]⟩

def abI (x : Int32) : Int32 := if 0 ≤ x then x else 0 - x
def fdoR (c : Int32) (p : Nat) (x d lim : Int32) : Nat → Nat → Int32 → Int32
  | 0, _, _ => -6
  | n + 1, j, w => if lim < abI (wc c (nI p) w - x) then nI j else fdoR c p x d lim n (j + 1) (drf d w)
def fdaR (c : Int32) (p q : Nat) (d e : Int32) : Nat → Nat → Int32 → Int32 → Int32
  | 0, _, _, _ => -6
  | n + 1, j, w, z => if wc c (nI p) w = wc c (nI q) z then nI j else fdaR c p q d e n (j + 1) (drf d w) (drf e z)
theorem sub_s {N j : Nat} (h : j < N) : N - j = (N - (j + 1)) + 1 := by omega

set_option maxRecDepth 100000 in
set_option maxHeartbeats 4000000 in
theorem kX4_firstDayOff {l : Launch} {G : GT} {b : Nat} (hT : isTw b) {μ : MemT} {p : Nat} (hp : p < 8) : sw_Met l G yX4_firstDayOff cX4_firstDayOff 4 (some .int) (rmk 2 36) [.ref (G.2.1 b), .int (nI p)] μ (fun v μ2 => v = some (.int (fdoR (μ b 8) p (μ (b + 1) p) (μ (b + 3) p) (μ b 9) 100 0 (μ (b + 2) p))) ∧ μ2 = μ) := by
  refine sw_Met.ofY (by decide) (Nat.le_of_ble_eq_true rfl) rfl ?_
  refine y_aload_n dX4_firstDayOff_0 rfl rfl ?_
  refine y_getr dX4_firstDayOff_1 1 clX4 (tw_0 hT) (by decide) wm_fl_X4_15 rfl rfl ?_
  refine y_iload_n dX4_firstDayOff_4 rfl rfl ?_
  refine y_iald dX4_firstDayOff_5 p (tw_2 hT) rfl (by first | assumption | decide | omega) (by decide) ?_
  refine y_istore_n dX4_firstDayOff_6 rfl rfl (by decide) ?_
  refine y_iconst (v := nI 0) dX4_firstDayOff_7 icn_0 ?_
  refine y_istore_n dX4_firstDayOff_8 rfl rfl (by decide) ?_
  refine y_loop1 (fun (j : Nat) (a : Int32) => [some (.ref (G.2.1 b)), some (.int (nI p)), some (.int a), some (.int (nI j))]) (fun (j : Nat) (a : Int32) => μ) (fun (j : Nat) (a : Int32) => fdoR (μ b 8) p (μ (b + 1) p) (μ (b + 3) p) (μ b 9) (100 - j) j a = fdoR (μ b 8) p (μ (b + 1) p) (μ (b + 3) p) (μ b 9) 100 0 (μ (b + 2) p)) 100 (fun a hv9 => ?_) (fun j a hj hv9 ih9 => ?_) 0 (μ (b + 2) p) (Nat.zero_le _) (rfl)
  · refine y_iload_n dX4_firstDayOff_9 rfl rfl ?_
    refine y_bipush dX4_firstDayOff_10 ib_100 ?_
    refine y_icmp_ge 53 dX4_firstDayOff_12 (by decide) (fun _ => ?_) (fun hq => absurd (by decide) hq)
    refine y_bipush dX4_firstDayOff_53 ib_m6 ?_
    refine y_iret dX4_firstDayOff_55 ?_
    exact ⟨by rw [← hv9]; rfl, rfl⟩
  · rw [sub_s hj, fdoR, abI] at hv9
    refine y_iload_n dX4_firstDayOff_9 rfl rfl ?_
    refine y_bipush dX4_firstDayOff_10 ib_100 ?_
    refine y_icmp_ge 53 dX4_firstDayOff_12 (by decide) (fun hq => absurd hq (nI_ge (b := 100) hj (by decide))) (fun _ => ?_)
    refine y_aload_n dX4_firstDayOff_15 rfl rfl ?_
    refine y_iload_n dX4_firstDayOff_16 rfl rfl ?_
    refine y_iload_n dX4_firstDayOff_17 rfl rfl ?_
    refine y_cV2 dX4_firstDayOff_18 meX4_withCold clX4 (tw_0 hT) wm_ml_X4_79 (kX4_withCold hT) ⟨Nat.le_of_ble_eq_true rfl, Nat.le_of_ble_eq_true rfl⟩ ⟨rfl, rfl⟩ (Nat.le_of_ble_eq_true rfl) (fun v18 μ18 hp18 => ?_)
    obtain ⟨rfl, he18⟩ := hp18
    replace he18 := he18.symm
    subst he18
    refine y_ri ?_
    refine y_aload_n dX4_firstDayOff_21 rfl rfl ?_
    refine y_getr dX4_firstDayOff_22 0 clX4 (tw_0 hT) (by decide) wm_fl_X4_9 rfl rfl ?_
    refine y_iload_n dX4_firstDayOff_25 rfl rfl ?_
    refine y_iald dX4_firstDayOff_26 p (tw_1 hT) rfl (by first | assumption | decide | omega) (by decide) ?_
    refine y_isub dX4_firstDayOff_27 ?_
    refine y_mabs dX4_firstDayOff_28 wm_ml_X4_97 (by decide) (Nat.le_of_ble_eq_true rfl) ?_
    refine y_aload_n dX4_firstDayOff_31 rfl rfl ?_
    refine y_geti dX4_firstDayOff_32 9 clX4 (tw_0 hT) (by decide) wm_fl_X4_33 rfl rfl ?_
    refine y_icmp_le 40 dX4_firstDayOff_35 (by decide) (fun h35 => ?_) (fun h35 => ?_)
    · refine y_aload_n dX4_firstDayOff_40 rfl rfl ?_
      refine y_iload_n dX4_firstDayOff_41 rfl rfl ?_
      refine y_iload_n dX4_firstDayOff_42 rfl rfl ?_
      refine y_cV2 dX4_firstDayOff_43 meX4_drifted clX4 (tw_0 hT) wm_ml_X4_94 (kX4_drifted hT (by first | assumption | omega)) ⟨Nat.le_of_ble_eq_true rfl, Nat.le_of_ble_eq_true rfl⟩ ⟨rfl, rfl⟩ (Nat.le_of_ble_eq_true rfl) (fun v43 μ43 hp43 => ?_)
      obtain ⟨rfl, he43⟩ := hp43
      replace he43 := he43.symm
      subst he43
      refine y_ri ?_
      refine y_istore_n dX4_firstDayOff_46 rfl rfl (by decide) ?_
      refine y_iinc (v := nI (j + 1)) dX4_firstDayOff_47 rfl (nI_i1 _) rfl (by decide) ?_
      refine y_goto 9 dX4_firstDayOff_50 (by decide) ?_
      exact ih9 _ (by rw [← hv9, if_neg (fun q => absurd h35 (Int32.not_le.mpr q))])
    · refine y_iload_n dX4_firstDayOff_38 rfl rfl ?_
      refine y_iret dX4_firstDayOff_39 ?_
      exact ⟨by rw [← hv9, if_pos (Int32.not_le.mp h35)], rfl⟩

set_option maxRecDepth 100000 in
set_option maxHeartbeats 4000000 in
theorem kX4_firstDayAlike {l : Launch} {G : GT} {b : Nat} (hT : isTw b) {μ : MemT} {p : Nat} (hp : p < 8) {q : Nat} (hq : q < 8) : sw_Met l G yX4_firstDayAlike cX4_firstDayAlike 6 (some .int) (rmk 2 36) [.ref (G.2.1 b), .int (nI p), .int (nI q)] μ (fun v μ2 => v = some (.int (fdaR (μ b 8) p q (μ (b + 3) p) (μ (b + 3) q) 100 0 (μ (b + 2) p) (μ (b + 2) q))) ∧ μ2 = μ) := by
  refine sw_Met.ofY (by decide) (Nat.le_of_ble_eq_true rfl) rfl ?_
  refine y_aload_n dX4_firstDayAlike_0 rfl rfl ?_
  refine y_getr dX4_firstDayAlike_1 1 clX4 (tw_0 hT) (by decide) wm_fl_X4_15 rfl rfl ?_
  refine y_iload_n dX4_firstDayAlike_4 rfl rfl ?_
  refine y_iald dX4_firstDayAlike_5 p (tw_2 hT) rfl (by first | assumption | decide | omega) (by decide) ?_
  refine y_istore_n dX4_firstDayAlike_6 rfl rfl (by decide) ?_
  refine y_aload_n dX4_firstDayAlike_7 rfl rfl ?_
  refine y_getr dX4_firstDayAlike_8 1 clX4 (tw_0 hT) (by decide) wm_fl_X4_15 rfl rfl ?_
  refine y_iload_n dX4_firstDayAlike_11 rfl rfl ?_
  refine y_iald dX4_firstDayAlike_12 q (tw_2 hT) rfl (by first | assumption | decide | omega) (by decide) ?_
  refine y_istore dX4_firstDayAlike_13 rfl (by decide) ?_
  refine y_iconst (v := nI 0) dX4_firstDayAlike_15 icn_0 ?_
  refine y_istore dX4_firstDayAlike_16 rfl (by decide) ?_
  refine y_loop2 (fun (j : Nat) (a : Int32) (c : Int32) => [some (.ref (G.2.1 b)), some (.int (nI p)), some (.int (nI q)), some (.int a), some (.int c), some (.int (nI j))]) (fun (j : Nat) (a : Int32) (c : Int32) => μ) (fun (j : Nat) (a : Int32) (c : Int32) => fdaR (μ b 8) p q (μ (b + 3) p) (μ (b + 3) q) (100 - j) j a c = fdaR (μ b 8) p q (μ (b + 3) p) (μ (b + 3) q) 100 0 (μ (b + 2) p) (μ (b + 2) q)) 100 (fun a c hv18 => ?_) (fun j a c hj hv18 ih18 => ?_) 0 (μ (b + 2) p) (μ (b + 2) q) (Nat.zero_le _) (rfl)
  · refine y_iload dX4_firstDayAlike_18 rfl ?_
    refine y_bipush dX4_firstDayAlike_20 ib_100 ?_
    refine y_icmp_ge 66 dX4_firstDayAlike_22 (by decide) (fun _ => ?_) (fun hq => absurd (by decide) hq)
    refine y_bipush dX4_firstDayAlike_66 ib_m6 ?_
    refine y_iret dX4_firstDayAlike_68 ?_
    exact ⟨by rw [← hv18]; rfl, rfl⟩
  · rw [sub_s hj, fdaR] at hv18
    refine y_iload dX4_firstDayAlike_18 rfl ?_
    refine y_bipush dX4_firstDayAlike_20 ib_100 ?_
    refine y_icmp_ge 66 dX4_firstDayAlike_22 (by decide) (fun hq => absurd hq (nI_ge (b := 100) hj (by decide))) (fun _ => ?_)
    refine y_aload_n dX4_firstDayAlike_25 rfl rfl ?_
    refine y_iload_n dX4_firstDayAlike_26 rfl rfl ?_
    refine y_iload_n dX4_firstDayAlike_27 rfl rfl ?_
    refine y_cV2 dX4_firstDayAlike_28 meX4_withCold clX4 (tw_0 hT) wm_ml_X4_79 (kX4_withCold hT) ⟨Nat.le_of_ble_eq_true rfl, Nat.le_of_ble_eq_true rfl⟩ ⟨rfl, rfl⟩ (Nat.le_of_ble_eq_true rfl) (fun v28 μ28 hp28 => ?_)
    obtain ⟨rfl, he28⟩ := hp28
    replace he28 := he28.symm
    subst he28
    refine y_ri ?_
    refine y_aload_n dX4_firstDayAlike_31 rfl rfl ?_
    refine y_iload_n dX4_firstDayAlike_32 rfl rfl ?_
    refine y_iload dX4_firstDayAlike_33 rfl ?_
    refine y_cV2 dX4_firstDayAlike_35 meX4_withCold clX4 (tw_0 hT) wm_ml_X4_79 (kX4_withCold hT) ⟨Nat.le_of_ble_eq_true rfl, Nat.le_of_ble_eq_true rfl⟩ ⟨rfl, rfl⟩ (Nat.le_of_ble_eq_true rfl) (fun v35 μ35 hp35 => ?_)
    obtain ⟨rfl, he35⟩ := hp35
    replace he35 := he35.symm
    subst he35
    refine y_ri ?_
    refine y_icmp_ne 44 dX4_firstDayAlike_38 (by decide) (fun h38 => ?_) (fun h38 => ?_)
    · refine y_aload_n dX4_firstDayAlike_44 rfl rfl ?_
      refine y_iload_n dX4_firstDayAlike_45 rfl rfl ?_
      refine y_iload_n dX4_firstDayAlike_46 rfl rfl ?_
      refine y_cV2 dX4_firstDayAlike_47 meX4_drifted clX4 (tw_0 hT) wm_ml_X4_94 (kX4_drifted hT (by first | assumption | omega)) ⟨Nat.le_of_ble_eq_true rfl, Nat.le_of_ble_eq_true rfl⟩ ⟨rfl, rfl⟩ (Nat.le_of_ble_eq_true rfl) (fun v47 μ47 hp47 => ?_)
      obtain ⟨rfl, he47⟩ := hp47
      replace he47 := he47.symm
      subst he47
      refine y_ri ?_
      refine y_istore_n dX4_firstDayAlike_50 rfl rfl (by decide) ?_
      refine y_aload_n dX4_firstDayAlike_51 rfl rfl ?_
      refine y_iload_n dX4_firstDayAlike_52 rfl rfl ?_
      refine y_iload dX4_firstDayAlike_53 rfl ?_
      refine y_cV2 dX4_firstDayAlike_55 meX4_drifted clX4 (tw_0 hT) wm_ml_X4_94 (kX4_drifted hT (by first | assumption | omega)) ⟨Nat.le_of_ble_eq_true rfl, Nat.le_of_ble_eq_true rfl⟩ ⟨rfl, rfl⟩ (Nat.le_of_ble_eq_true rfl) (fun v55 μ55 hp55 => ?_)
      obtain ⟨rfl, he55⟩ := hp55
      replace he55 := he55.symm
      subst he55
      refine y_ri ?_
      refine y_istore dX4_firstDayAlike_58 rfl (by decide) ?_
      refine y_iinc (v := nI (j + 1)) dX4_firstDayAlike_60 rfl (nI_i1 _) rfl (by decide) ?_
      refine y_goto 18 dX4_firstDayAlike_63 (by decide) ?_
      exact ih18 _ _ (by rw [← hv18, if_neg h38])
    · refine y_iload dX4_firstDayAlike_41 rfl ?_
      refine y_iret dX4_firstDayAlike_43 ?_
      exact ⟨by rw [← hv18, if_pos h38], rfl⟩

def aheP (t c : Int32) (w : Nat → Int32) (p q : Nat) : Bool := bt t q && (decide (wc c (nI p) (w p) < wc c (nI q) (w q)) || (decide (wc c (nI q) (w q) = wc c (nI p) (w p)) && decide (q < p)))
def aheB (t c : Int32) (w : Nat → Int32) (p : Nat) : Int32 := itr (fun q s => if aheP t c w p q then s + 1 else s) 8 0 0
def likB (t c : Int32) (w : Nat → Int32) (p : Nat) : Int32 := itr (fun q s => if bt t q && decide (wc c (nI q) (w q) = wc c (nI p) (w p)) then s + 1 else s) 8 0 0
def opI : Option Nat → Int32
  | none => -6
  | some j => nI j
def rankB (t c : Int32) (w : Nat → Int32) (i : Int32) : Int32 := opI (fnd (fun p => bt t p && decide (aheB t c w p = i)) 8 0)
def mostB (t c : Int32) (w : Nat → Int32) : Int32 := itr (fun p s => if bt t p then (if s < likB t c w p then likB t c w p else s) else s) 8 0 0

set_option maxRecDepth 100000 in
set_option maxHeartbeats 4000000 in
theorem kX4_howManyAhead {l : Launch} {G : GT} {b : Nat} (hT : isTw b) {μ : MemT} {p : Nat} (hp : p < 8) : sw_Met l G yX4_howManyAhead cX4_howManyAhead 5 (some .int) (rmk 2 43) [.ref (G.2.1 b), .int (nI p)] μ (fun v μ2 => v = some (.int (aheB (μ b 7) (μ b 8) (μ (b + 2)) p)) ∧ μ2 = μ) := by
  refine sw_Met.ofY (by decide) (Nat.le_of_ble_eq_true rfl) rfl ?_
  refine y_iconst dX4_howManyAhead_0 ic_0 ?_
  refine y_istore_n dX4_howManyAhead_1 rfl rfl (by decide) ?_
  refine y_aload_n dX4_howManyAhead_2 rfl rfl ?_
  refine y_iload_n dX4_howManyAhead_3 rfl rfl ?_
  refine y_cV1 dX4_howManyAhead_4 meX4_poundsOf clX4 (tw_0 hT) wm_ml_X4_103 (kX4_poundsOf hT (by first | assumption | omega)) ⟨Nat.le_of_ble_eq_true rfl, Nat.le_of_ble_eq_true rfl⟩ ⟨rfl, rfl⟩ (Nat.le_of_ble_eq_true rfl) (fun v4 μ4 hp4 => ?_)
  obtain ⟨rfl, he4⟩ := hp4
  replace he4 := he4.symm
  subst he4
  refine y_ri ?_
  refine y_istore_n dX4_howManyAhead_7 rfl rfl (by decide) ?_
  refine y_iconst (v := nI 0) dX4_howManyAhead_8 icn_0 ?_
  refine y_istore dX4_howManyAhead_9 rfl (by decide) ?_
  refine y_loop1 (fun (j : Nat) (a : Int32) => [some (.ref (G.2.1 b)), some (.int (nI p)), some (.int a), some (.int (wc (μ b 8) (nI p) (μ (b + 2) p))), some (.int (nI j))]) (fun (j : Nat) (a : Int32) => μ) (fun (j : Nat) (a : Int32) => itr (fun q s => if aheP (μ b 7) (μ b 8) (μ (b + 2)) p q then s + 1 else s) (8 - j) j a = itr (fun q s => if aheP (μ b 7) (μ b 8) (μ (b + 2)) p q then s + 1 else s) 8 0 (0)) 8 (fun a hv11 => ?_) (fun j a hj hv11 ih11 => ?_) 0 (0) (Nat.zero_le _) (rfl)
  · refine y_iload dX4_howManyAhead_11 rfl ?_
    refine y_bipush dX4_howManyAhead_13 ib_8 ?_
    refine y_icmp_ge 62 dX4_howManyAhead_15 (by decide) (fun _ => ?_) (fun hq => absurd (by decide) hq)
    refine y_iload_n dX4_howManyAhead_62 rfl rfl ?_
    refine y_iret dX4_howManyAhead_63 ?_
    exact ⟨by rw [itr_ex hv11]; rfl, rfl⟩
  · refine y_iload dX4_howManyAhead_11 rfl ?_
    refine y_bipush dX4_howManyAhead_13 ib_8 ?_
    refine y_icmp_ge 62 dX4_howManyAhead_15 (by decide) (fun hq => absurd hq (nI_ge (b := 8) hj (by decide))) (fun _ => ?_)
    refine y_aload_n dX4_howManyAhead_18 rfl rfl ?_
    refine y_iload dX4_howManyAhead_19 rfl ?_
    refine y_cV1 dX4_howManyAhead_21 meX4_has clX4 (tw_0 hT) wm_ml_X4_61 (kX4_has hT) ⟨Nat.le_of_ble_eq_true rfl, Nat.le_of_ble_eq_true rfl⟩ ⟨rfl, rfl⟩ (Nat.le_of_ble_eq_true rfl) (fun v21 μ21 hp21 => ?_)
    obtain ⟨rfl, he21⟩ := hp21
    replace he21 := he21.symm
    subst he21
    refine y_ri ?_
    refine y_ifb_eq 56 dX4_howManyAhead_24 (by decide) (fun h24 => ?_) (fun h24 => ?_)
    · refine y_iinc (v := nI (j + 1)) dX4_howManyAhead_56 rfl (nI_i1 _) rfl (by decide) ?_
      refine y_goto 11 dX4_howManyAhead_59 (by decide) ?_
      exact ih11 _ (itr_nx hj hv11 (by simp_all [aheP, isP_n hj, nI_leI (a := p) (b := j) (by omega) (by omega)]))
    · refine y_aload_n dX4_howManyAhead_27 rfl rfl ?_
      refine y_iload dX4_howManyAhead_28 rfl ?_
      refine y_cV1 dX4_howManyAhead_30 meX4_poundsOf clX4 (tw_0 hT) wm_ml_X4_103 (kX4_poundsOf hT (by first | assumption | omega)) ⟨Nat.le_of_ble_eq_true rfl, Nat.le_of_ble_eq_true rfl⟩ ⟨rfl, rfl⟩ (Nat.le_of_ble_eq_true rfl) (fun v30 μ30 hp30 => ?_)
      obtain ⟨rfl, he30⟩ := hp30
      replace he30 := he30.symm
      subst he30
      refine y_ri ?_
      refine y_iload_n dX4_howManyAhead_33 rfl rfl ?_
      refine y_icmp_gt 53 dX4_howManyAhead_34 (by decide) (fun h34 => ?_) (fun h34 => ?_)
      · refine y_iinc dX4_howManyAhead_53 rfl (ii_1 _) rfl (by decide) ?_
        refine y_iinc (v := nI (j + 1)) dX4_howManyAhead_56 rfl (nI_i1 _) rfl (by decide) ?_
        refine y_goto 11 dX4_howManyAhead_59 (by decide) ?_
        exact ih11 _ (itr_nx hj hv11 (by simp_all [aheP, isP_n hj, nI_leI (a := p) (b := j) (by omega) (by omega)]))
      · refine y_aload_n dX4_howManyAhead_37 rfl rfl ?_
        refine y_iload dX4_howManyAhead_38 rfl ?_
        refine y_cV1 dX4_howManyAhead_40 meX4_poundsOf clX4 (tw_0 hT) wm_ml_X4_103 (kX4_poundsOf hT (by first | assumption | omega)) ⟨Nat.le_of_ble_eq_true rfl, Nat.le_of_ble_eq_true rfl⟩ ⟨rfl, rfl⟩ (Nat.le_of_ble_eq_true rfl) (fun v40 μ40 hp40 => ?_)
        obtain ⟨rfl, he40⟩ := hp40
        replace he40 := he40.symm
        subst he40
        refine y_ri ?_
        refine y_iload_n dX4_howManyAhead_43 rfl rfl ?_
        refine y_icmp_ne 56 dX4_howManyAhead_44 (by decide) (fun h44 => ?_) (fun h44 => ?_)
        · refine y_iinc (v := nI (j + 1)) dX4_howManyAhead_56 rfl (nI_i1 _) rfl (by decide) ?_
          refine y_goto 11 dX4_howManyAhead_59 (by decide) ?_
          exact ih11 _ (itr_nx hj hv11 (by simp_all [aheP, isP_n hj, nI_leI (a := p) (b := j) (by omega) (by omega)]))
        · refine y_iload dX4_howManyAhead_47 rfl ?_
          refine y_iload_n dX4_howManyAhead_49 rfl rfl ?_
          refine y_icmp_ge 56 dX4_howManyAhead_50 (by decide) (fun h50 => ?_) (fun h50 => ?_)
          · refine y_iinc (v := nI (j + 1)) dX4_howManyAhead_56 rfl (nI_i1 _) rfl (by decide) ?_
            refine y_goto 11 dX4_howManyAhead_59 (by decide) ?_
            exact ih11 _ (itr_nx hj hv11 (by simp_all [aheP, isP_n hj, nI_leI (a := p) (b := j) (by omega) (by omega)]))
          · refine y_iinc dX4_howManyAhead_53 rfl (ii_1 _) rfl (by decide) ?_
            refine y_iinc (v := nI (j + 1)) dX4_howManyAhead_56 rfl (nI_i1 _) rfl (by decide) ?_
            refine y_goto 11 dX4_howManyAhead_59 (by decide) ?_
            exact ih11 _ (itr_nx hj hv11 (by simp_all [aheP, isP_n hj, nI_leI (a := p) (b := j) (by omega) (by omega)]))

set_option maxRecDepth 100000 in
set_option maxHeartbeats 4000000 in
theorem kX4_howManyLike {l : Launch} {G : GT} {b : Nat} (hT : isTw b) {μ : MemT} {p : Nat} (hp : p < 8) : sw_Met l G yX4_howManyLike cX4_howManyLike 4 (some .int) (rmk 2 43) [.ref (G.2.1 b), .int (nI p)] μ (fun v μ2 => v = some (.int (likB (μ b 7) (μ b 8) (μ (b + 2)) p)) ∧ μ2 = μ) := by
  refine sw_Met.ofY (by decide) (Nat.le_of_ble_eq_true rfl) rfl ?_
  refine y_iconst dX4_howManyLike_0 ic_0 ?_
  refine y_istore_n dX4_howManyLike_1 rfl rfl (by decide) ?_
  refine y_iconst (v := nI 0) dX4_howManyLike_2 icn_0 ?_
  refine y_istore_n dX4_howManyLike_3 rfl rfl (by decide) ?_
  refine y_loop1 (fun (j : Nat) (a : Int32) => [some (.ref (G.2.1 b)), some (.int (nI p)), some (.int a), some (.int (nI j))]) (fun (j : Nat) (a : Int32) => μ) (fun (j : Nat) (a : Int32) => itr (fun q s => if bt (μ b 7) q && decide (wc (μ b 8) (nI q) (μ (b + 2) q) = wc (μ b 8) (nI p) (μ (b + 2) p)) then s + 1 else s) (8 - j) j a = itr (fun q s => if bt (μ b 7) q && decide (wc (μ b 8) (nI q) (μ (b + 2) q) = wc (μ b 8) (nI p) (μ (b + 2) p)) then s + 1 else s) 8 0 (0)) 8 (fun a hv4 => ?_) (fun j a hj hv4 ih4 => ?_) 0 (0) (Nat.zero_le _) (rfl)
  · refine y_iload_n dX4_howManyLike_4 rfl rfl ?_
    refine y_bipush dX4_howManyLike_5 ib_8 ?_
    refine y_icmp_ge 40 dX4_howManyLike_7 (by decide) (fun _ => ?_) (fun hq => absurd (by decide) hq)
    refine y_iload_n dX4_howManyLike_40 rfl rfl ?_
    refine y_iret dX4_howManyLike_41 ?_
    exact ⟨by rw [itr_ex hv4]; rfl, rfl⟩
  · refine y_iload_n dX4_howManyLike_4 rfl rfl ?_
    refine y_bipush dX4_howManyLike_5 ib_8 ?_
    refine y_icmp_ge 40 dX4_howManyLike_7 (by decide) (fun hq => absurd hq (nI_ge (b := 8) hj (by decide))) (fun _ => ?_)
    refine y_aload_n dX4_howManyLike_10 rfl rfl ?_
    refine y_iload_n dX4_howManyLike_11 rfl rfl ?_
    refine y_cV1 dX4_howManyLike_12 meX4_has clX4 (tw_0 hT) wm_ml_X4_61 (kX4_has hT) ⟨Nat.le_of_ble_eq_true rfl, Nat.le_of_ble_eq_true rfl⟩ ⟨rfl, rfl⟩ (Nat.le_of_ble_eq_true rfl) (fun v12 μ12 hp12 => ?_)
    obtain ⟨rfl, he12⟩ := hp12
    replace he12 := he12.symm
    subst he12
    refine y_ri ?_
    refine y_ifb_eq 34 dX4_howManyLike_15 (by decide) (fun h15 => ?_) (fun h15 => ?_)
    · refine y_iinc (v := nI (j + 1)) dX4_howManyLike_34 rfl (nI_i1 _) rfl (by decide) ?_
      refine y_goto 4 dX4_howManyLike_37 (by decide) ?_
      exact ih4 _ (itr_nx hj hv4 (by simp_all [isP_n hj]))
    · refine y_aload_n dX4_howManyLike_18 rfl rfl ?_
      refine y_iload_n dX4_howManyLike_19 rfl rfl ?_
      refine y_cV1 dX4_howManyLike_20 meX4_poundsOf clX4 (tw_0 hT) wm_ml_X4_103 (kX4_poundsOf hT (by first | assumption | omega)) ⟨Nat.le_of_ble_eq_true rfl, Nat.le_of_ble_eq_true rfl⟩ ⟨rfl, rfl⟩ (Nat.le_of_ble_eq_true rfl) (fun v20 μ20 hp20 => ?_)
      obtain ⟨rfl, he20⟩ := hp20
      replace he20 := he20.symm
      subst he20
      refine y_ri ?_
      refine y_aload_n dX4_howManyLike_23 rfl rfl ?_
      refine y_iload_n dX4_howManyLike_24 rfl rfl ?_
      refine y_cV1 dX4_howManyLike_25 meX4_poundsOf clX4 (tw_0 hT) wm_ml_X4_103 (kX4_poundsOf hT (by first | assumption | omega)) ⟨Nat.le_of_ble_eq_true rfl, Nat.le_of_ble_eq_true rfl⟩ ⟨rfl, rfl⟩ (Nat.le_of_ble_eq_true rfl) (fun v25 μ25 hp25 => ?_)
      obtain ⟨rfl, he25⟩ := hp25
      replace he25 := he25.symm
      subst he25
      refine y_ri ?_
      refine y_icmp_ne 34 dX4_howManyLike_28 (by decide) (fun h28 => ?_) (fun h28 => ?_)
      · refine y_iinc (v := nI (j + 1)) dX4_howManyLike_34 rfl (nI_i1 _) rfl (by decide) ?_
        refine y_goto 4 dX4_howManyLike_37 (by decide) ?_
        exact ih4 _ (itr_nx hj hv4 (by simp_all [isP_n hj]))
      · refine y_iinc dX4_howManyLike_31 rfl (ii_1 _) rfl (by decide) ?_
        refine y_iinc (v := nI (j + 1)) dX4_howManyLike_34 rfl (nI_i1 _) rfl (by decide) ?_
        refine y_goto 4 dX4_howManyLike_37 (by decide) ?_
        exact ih4 _ (itr_nx hj hv4 (by simp_all [isP_n hj]))

set_option maxRecDepth 100000 in
set_option maxHeartbeats 4000000 in
theorem kX4_ranked {l : Launch} {G : GT} {b : Nat} (hT : isTw b) {μ : MemT} {x : Int32} : sw_Met l G yX4_ranked cX4_ranked 3 (some .int) (rmk 3 67) [.ref (G.2.1 b), .int x] μ (fun v μ2 => v = some (.int (rankB (μ b 7) (μ b 8) (μ (b + 2)) x)) ∧ μ2 = μ) := by
  refine sw_Met.ofY (by decide) (Nat.le_of_ble_eq_true rfl) rfl ?_
  refine y_iconst (v := nI 0) dX4_ranked_0 icn_0 ?_
  refine y_istore_n dX4_ranked_1 rfl rfl (by decide) ?_
  refine y_loop0 (fun (j : Nat)  => [some (.ref (G.2.1 b)), some (.int x), some (.int (nI j))]) (fun (j : Nat)  => μ) (fun (j : Nat)  => fnd (fun p => bt (μ b 7) p && decide (aheB (μ b 7) (μ b 8) (μ (b + 2)) p = x)) (8 - j) j = fnd (fun p => bt (μ b 7) p && decide (aheB (μ b 7) (μ b 8) (μ (b + 2)) p = x)) 8 0) 8 (fun  hv2 => ?_) (fun j hj hv2 ih2 => ?_) 0  (Nat.zero_le _) (rfl)
  · refine y_iload_n dX4_ranked_2 rfl rfl ?_
    refine y_bipush dX4_ranked_3 ib_8 ?_
    refine y_icmp_ge 33 dX4_ranked_5 (by decide) (fun _ => ?_) (fun hq => absurd (by decide) hq)
    refine y_bipush dX4_ranked_33 ib_m6 ?_
    refine y_iret dX4_ranked_35 ?_
    exact ⟨by rw [rankB, fnd_ex hv2]; rfl, rfl⟩
  · refine y_iload_n dX4_ranked_2 rfl rfl ?_
    refine y_bipush dX4_ranked_3 ib_8 ?_
    refine y_icmp_ge 33 dX4_ranked_5 (by decide) (fun hq => absurd hq (nI_ge (b := 8) hj (by decide))) (fun _ => ?_)
    refine y_aload_n dX4_ranked_8 rfl rfl ?_
    refine y_iload_n dX4_ranked_9 rfl rfl ?_
    refine y_cV1 dX4_ranked_10 meX4_has clX4 (tw_0 hT) wm_ml_X4_61 (kX4_has hT) ⟨Nat.le_of_ble_eq_true rfl, Nat.le_of_ble_eq_true rfl⟩ ⟨rfl, rfl⟩ (Nat.le_of_ble_eq_true rfl) (fun v10 μ10 hp10 => ?_)
    obtain ⟨rfl, he10⟩ := hp10
    replace he10 := he10.symm
    subst he10
    refine y_ri ?_
    refine y_ifb_eq 27 dX4_ranked_13 (by decide) (fun h13 => ?_) (fun h13 => ?_)
    · refine y_iinc (v := nI (j + 1)) dX4_ranked_27 rfl (nI_i1 _) rfl (by decide) ?_
      refine y_goto 2 dX4_ranked_30 (by decide) ?_
      exact ih2 (fnd_nx hj hv2 (by simp_all [isP_n hj]))
    · refine y_aload_n dX4_ranked_16 rfl rfl ?_
      refine y_iload_n dX4_ranked_17 rfl rfl ?_
      refine y_cV1 dX4_ranked_18 meX4_howManyAhead clX4 (tw_0 hT) wm_ml_X4_100 (kX4_howManyAhead hT (by first | assumption | omega)) ⟨Nat.le_of_ble_eq_true rfl, Nat.le_of_ble_eq_true rfl⟩ ⟨rfl, rfl⟩ (Nat.le_of_ble_eq_true rfl) (fun v18 μ18 hp18 => ?_)
      obtain ⟨rfl, he18⟩ := hp18
      replace he18 := he18.symm
      subst he18
      refine y_ri ?_
      refine y_iload_n dX4_ranked_21 rfl rfl ?_
      refine y_icmp_ne 27 dX4_ranked_22 (by decide) (fun h22 => ?_) (fun h22 => ?_)
      · refine y_iinc (v := nI (j + 1)) dX4_ranked_27 rfl (nI_i1 _) rfl (by decide) ?_
        refine y_goto 2 dX4_ranked_30 (by decide) ?_
        exact ih2 (fnd_nx hj hv2 (by simp_all [isP_n hj]))
      · refine y_iload_n dX4_ranked_25 rfl rfl ?_
        refine y_iret dX4_ranked_26 ?_
        exact ⟨by rw [rankB, fnd_hit hj hv2 (by simp_all [isP_n hj])]; rfl, rfl⟩

set_option maxRecDepth 100000 in
set_option maxHeartbeats 4000000 in
theorem kX4_mostAlike {l : Launch} {G : GT} {b : Nat} (hT : isTw b) {μ : MemT}  : sw_Met l G yX4_mostAlike cX4_mostAlike 3 (some .int) (rmk 3 66) [.ref (G.2.1 b)] μ (fun v μ2 => v = some (.int (mostB (μ b 7) (μ b 8) (μ (b + 2)))) ∧ μ2 = μ) := by
  refine sw_Met.ofY (by decide) (Nat.le_of_ble_eq_true rfl) rfl ?_
  refine y_iconst dX4_mostAlike_0 ic_0 ?_
  refine y_istore_n dX4_mostAlike_1 rfl rfl (by decide) ?_
  refine y_iconst (v := nI 0) dX4_mostAlike_2 icn_0 ?_
  refine y_istore_n dX4_mostAlike_3 rfl rfl (by decide) ?_
  refine y_loop1 (fun (j : Nat) (a : Int32) => [some (.ref (G.2.1 b)), some (.int a), some (.int (nI j))]) (fun (j : Nat) (a : Int32) => μ) (fun (j : Nat) (a : Int32) => itr (fun p s => if bt (μ b 7) p then (if s < likB (μ b 7) (μ b 8) (μ (b + 2)) p then likB (μ b 7) (μ b 8) (μ (b + 2)) p else s) else s) (8 - j) j a = itr (fun p s => if bt (μ b 7) p then (if s < likB (μ b 7) (μ b 8) (μ (b + 2)) p then likB (μ b 7) (μ b 8) (μ (b + 2)) p else s) else s) 8 0 (0)) 8 (fun a hv4 => ?_) (fun j a hj hv4 ih4 => ?_) 0 (0) (Nat.zero_le _) (rfl)
  · refine y_iload_n dX4_mostAlike_4 rfl rfl ?_
    refine y_bipush dX4_mostAlike_5 ib_8 ?_
    refine y_icmp_ge 34 dX4_mostAlike_7 (by decide) (fun _ => ?_) (fun hq => absurd (by decide) hq)
    refine y_iload_n dX4_mostAlike_34 rfl rfl ?_
    refine y_iret dX4_mostAlike_35 ?_
    exact ⟨by rw [itr_ex hv4]; rfl, rfl⟩
  · refine y_iload_n dX4_mostAlike_4 rfl rfl ?_
    refine y_bipush dX4_mostAlike_5 ib_8 ?_
    refine y_icmp_ge 34 dX4_mostAlike_7 (by decide) (fun hq => absurd hq (nI_ge (b := 8) hj (by decide))) (fun _ => ?_)
    refine y_aload_n dX4_mostAlike_10 rfl rfl ?_
    refine y_iload_n dX4_mostAlike_11 rfl rfl ?_
    refine y_cV1 dX4_mostAlike_12 meX4_has clX4 (tw_0 hT) wm_ml_X4_61 (kX4_has hT) ⟨Nat.le_of_ble_eq_true rfl, Nat.le_of_ble_eq_true rfl⟩ ⟨rfl, rfl⟩ (Nat.le_of_ble_eq_true rfl) (fun v12 μ12 hp12 => ?_)
    obtain ⟨rfl, he12⟩ := hp12
    replace he12 := he12.symm
    subst he12
    refine y_ri ?_
    refine y_ifb_eq 28 dX4_mostAlike_15 (by decide) (fun h15 => ?_) (fun h15 => ?_)
    · refine y_iinc (v := nI (j + 1)) dX4_mostAlike_28 rfl (nI_i1 _) rfl (by decide) ?_
      refine y_goto 4 dX4_mostAlike_31 (by decide) ?_
      exact ih4 _ (itr_nx hj hv4 (by simp_all [isP_n hj]))
    · refine y_iload_n dX4_mostAlike_18 rfl rfl ?_
      refine y_aload_n dX4_mostAlike_19 rfl rfl ?_
      refine y_iload_n dX4_mostAlike_20 rfl rfl ?_
      refine y_cV1 dX4_mostAlike_21 meX4_howManyLike clX4 (tw_0 hT) wm_ml_X4_106 (kX4_howManyLike hT (by first | assumption | omega)) ⟨Nat.le_of_ble_eq_true rfl, Nat.le_of_ble_eq_true rfl⟩ ⟨rfl, rfl⟩ (Nat.le_of_ble_eq_true rfl) (fun v21 μ21 hp21 => ?_)
      obtain ⟨rfl, he21⟩ := hp21
      replace he21 := he21.symm
      subst he21
      refine y_ri ?_
      refine y_mmax dX4_mostAlike_24 wm_ml_X4_91 (by decide) (Nat.le_of_ble_eq_true rfl) ?_
      refine y_istore_n dX4_mostAlike_27 rfl rfl (by decide) ?_
      refine y_iinc (v := nI (j + 1)) dX4_mostAlike_28 rfl (nI_i1 _) rfl (by decide) ?_
      refine y_goto 4 dX4_mostAlike_31 (by decide) ?_
      exact ih4 _ (itr_nx hj hv4 (by simp_all [isP_n hj]))
