/-! numbers between bounds, bits, persons -/
def inR (x : Int32) (a b : Int) : Bool := decide (a ≤ x.toInt ∧ x.toInt ≤ b)
def bitI (t x : Int32) : Bool := decide ((t >>> (x &&& 31)) &&& 1 = 1)
def isP (t x : Int32) : Bool := inR x 0 7 && bitI t x
theorem le_toInt {x y : Int32} : x ≤ y ↔ x.toInt ≤ y.toInt := Int32.le_iff_toInt_le
theorem lt_toInt {x y : Int32} : x < y ↔ x.toInt < y.toInt := Int32.lt_iff_toInt_lt
theorem ti_0 : (0 : Int32).toInt = 0 := rfl
theorem ti_7 : (7 : Int32).toInt = 7 := rfl
theorem ti_8 : (8 : Int32).toInt = 8 := rfl
theorem e_b0 {B : Bool} (h : B = false) : some (Value.int 0) = some (Value.int (bI B)) := by rw [h]; rfl
theorem e_b1 {B : Bool} (h : B = true) : some (Value.int 1) = some (Value.int (bI B)) := by rw [h]; rfl
theorem inR_t {x : Int32} {a b : Int} (h1 : a ≤ x.toInt) (h2 : x.toInt ≤ b) : inR x a b = true := decide_eq_true ⟨h1, h2⟩
theorem inR_f1 {x : Int32} {a b : Int} (h1 : x.toInt < a) : inR x a b = false := decide_eq_false (fun q => by omega)
theorem inR_f2 {x : Int32} {a b : Int} (h1 : b < x.toInt) : inR x a b = false := decide_eq_false (fun q => by omega)
theorem tstg1 {x : Int32} (h1 : ¬ x < 0) (h7 : ¬ 8 ≤ x) : inR x 0 7 = true := by grind [inR, le_toInt, lt_toInt, ti_0, ti_8]
theorem tstg2 {t x : Int32} (h1 : ¬ x < 0) (h7 : ¬ 8 ≤ x) (h16 : t >>> (x &&& 31) &&& 1 = 1) : isP t x = true := by grind [isP, bitI, inR, le_toInt, lt_toInt, ti_0, ti_8]
theorem tstg3 {x y : Int32} (h1 : ¬ x < 0) (h7 : ¬ 8 ≤ x) (h : y = x + 3) : y < 20 := by grind
theorem tstg4 {x y : Int32} (h1 : ¬ x < 0) (h7 : ¬ 8 ≤ x) (h : y = x + 3) : y < 20 := by lia
theorem tstg5 {x : Int32} (h1 : ¬ x < 0) (h7 : ¬ 8 ≤ x) : ¬ (x < 0 ∨ 8 ≤ x) := by grind

set_option maxRecDepth 100000 in
set_option maxHeartbeats 4000000 in
theorem kX7_within {l : Launch} {G : GT} {μ : MemT} {x a b : Int32} : sw_Met l G yX7_within cX7_within 3 (some .boolean) (rmk 0 0) [.int x, .int a, .int b] μ (fun v μ2 => v = some (.int (bI (inR x a.toInt b.toInt))) ∧ μ2 = μ) := by
  refine sw_Met.ofY (by decide) (Nat.le_of_ble_eq_true rfl) rfl ?_
  refine y_iload_n dX7_within_0 rfl rfl ?_
  refine y_iload_n dX7_within_1 rfl rfl ?_
  refine y_icmp_gt 14 dX7_within_2 (by decide) (fun h2 => ?_) (fun h2 => ?_)
  · refine y_iconst dX7_within_14 ic_0 ?_
    refine y_zret dX7_within_15 rfl ?_
    refine ⟨e_b0 ?_, rfl⟩
    grind [inR, le_toInt, lt_toInt]
  · refine y_iload_n dX7_within_5 rfl rfl ?_
    refine y_iload_n dX7_within_6 rfl rfl ?_
    refine y_icmp_gt 14 dX7_within_7 (by decide) (fun h7 => ?_) (fun h7 => ?_)
    · refine y_iconst dX7_within_14 ic_0 ?_
      refine y_zret dX7_within_15 rfl ?_
      refine ⟨e_b0 ?_, rfl⟩
      grind [inR, le_toInt, lt_toInt]
    · refine y_iconst dX7_within_10 ic_1 ?_
      refine y_goto 15 dX7_within_11 (by decide) ?_
      refine y_zret dX7_within_15 rfl ?_
      refine ⟨e_b1 ?_, rfl⟩
      grind [inR, le_toInt, lt_toInt]

set_option maxRecDepth 100000 in
set_option maxHeartbeats 4000000 in
theorem kX7_holds {l : Launch} {G : GT} {μ : MemT} {t x : Int32} : sw_Met l G yX7_holds cX7_holds 2 (some .boolean) (rmk 0 0) [.int t, .int x] μ (fun v μ2 => v = some (.int (bI (isP t x))) ∧ μ2 = μ) := by
  refine sw_Met.ofY (by decide) (Nat.le_of_ble_eq_true rfl) rfl ?_
  refine y_iload_n dX7_holds_0 rfl rfl ?_
  refine y_if_lt 23 dX7_holds_1 (by decide) (fun h1 => ?_) (fun h1 => ?_)
  · refine y_iconst dX7_holds_23 ic_0 ?_
    refine y_zret dX7_holds_24 rfl ?_
    refine ⟨e_b0 ?_, rfl⟩
    grind [isP, bitI, inR, le_toInt, lt_toInt, ti_0, ti_8]
  · refine y_iload_n dX7_holds_4 rfl rfl ?_
    refine y_bipush dX7_holds_5 ib_8 ?_
    refine y_icmp_ge 23 dX7_holds_7 (by decide) (fun h7 => ?_) (fun h7 => ?_)
    · refine y_iconst dX7_holds_23 ic_0 ?_
      refine y_zret dX7_holds_24 rfl ?_
      refine ⟨e_b0 ?_, rfl⟩
      grind [isP, bitI, inR, le_toInt, lt_toInt, ti_0, ti_8]
    · refine y_iload_n dX7_holds_10 rfl rfl ?_
      refine y_iload_n dX7_holds_11 rfl rfl ?_
      refine y_ishr dX7_holds_12 ?_
      refine y_iconst dX7_holds_13 ic_1 ?_
      refine y_iand dX7_holds_14 ?_
      refine y_iconst dX7_holds_15 ic_1 ?_
      refine y_icmp_ne 23 dX7_holds_16 (by decide) (fun h16 => ?_) (fun h16 => ?_)
      · refine y_iconst dX7_holds_23 ic_0 ?_
        refine y_zret dX7_holds_24 rfl ?_
        refine ⟨e_b0 ?_, rfl⟩
        grind [isP, bitI, inR, le_toInt, lt_toInt, ti_0, ti_8]
      · refine y_iconst dX7_holds_19 ic_1 ?_
        refine y_goto 24 dX7_holds_20 (by decide) ?_
        refine y_zret dX7_holds_24 rfl ?_
        refine ⟨e_b1 ?_, rfl⟩
        grind [isP, bitI, inR, le_toInt, lt_toInt, ti_0, ti_8]
