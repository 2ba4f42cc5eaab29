/-! the class's own methods -/
def cl (x : Int32) : Nat := x.toNatClampNeg
theorem cl_n {p : Nat} (h : p < 2 ^ 31) : cl (nI p) = p := nI_clamp h
theorem cl_8 {p : Nat} (h : p < 8) : cl (nI p) = p := nI_clamp (by omega)
theorem inR_ex {x : Int32} {n : Nat} (h : inR x 0 n = true) : ∃ p : Nat, p ≤ n ∧ x = nI p := by
  have h1 : 0 ≤ x.toInt ∧ x.toInt ≤ n := of_decide_eq_true h
  obtain ⟨j, hj, rfl⟩ := nI_of (x := x) (by rw [lt_toInt, ti_0]; omega)
  rw [nI_toInt hj] at h1
  exact ⟨j, by omega, rfl⟩
theorem inR1_ex {x : Int32} {n : Nat} (h : inR x 1 n = true) : ∃ p : Nat, p ≤ n ∧ x = nI p := by
  have h1 : 1 ≤ x.toInt ∧ x.toInt ≤ n := of_decide_eq_true h
  obtain ⟨j, hj, rfl⟩ := nI_of (x := x) (by rw [lt_toInt, ti_0]; omega)
  rw [nI_toInt hj] at h1
  exact ⟨j, by omega, rfl⟩
theorem sub_and {x y : Int32} (h : x &&& (y ^^^ -1) = 0) : x &&& y = x := by
  apply Int32.toBitVec_inj.mp
  have h2 := congrArg Int32.toBitVec h
  rw [Int32.toBitVec_and, Int32.toBitVec_xor] at h2
  rw [Int32.toBitVec_and]
  apply BitVec.eq_of_getLsbD_eq
  intro i hi
  have h3 := congrArg (fun q => q.getLsbD i) h2
  have e1 : (Int32.toBitVec (-1)).getLsbD i = true := by
    rw [show Int32.toBitVec (-1) = BitVec.allOnes 32 by decide, BitVec.getLsbD_allOnes]
    simpa using hi
  have e0 : (Int32.toBitVec 0).getLsbD i = false := by
    rw [show Int32.toBitVec 0 = 0#32 by decide]
    simp
  simp only [BitVec.getLsbD_and, BitVec.getLsbD_xor, e1, e0] at h3 ⊢
  revert h3
  cases x.toBitVec.getLsbD i <;> cases y.toBitVec.getLsbD i <;> decide
theorem subI_ex {x : Int32} {t : Nat} (ht : t < 256) (h : subI x (nI t) = true) : ∃ s : Nat, s < 256 ∧ x = nI s ∧ s &&& t = s := by
  have h1 := sub_and (of_decide_eq_true h)
  have hb := congrArg Int32.toBitVec h1
  rw [Int32.toBitVec_and, nI_bv] at hb
  have hn := congrArg BitVec.toNat hb
  rw [BitVec.toNat_and, BitVec.toNat_ofNat, Nat.mod_eq_of_lt (show t < 2 ^ 32 by omega)] at hn
  have hle : x.toBitVec.toNat &&& t ≤ t := Nat.and_le_right
  refine ⟨x.toBitVec.toNat, by omega, ?_, hn⟩
  apply Int32.toBitVec_inj.mp
  rw [nI_bv]
  apply BitVec.eq_of_toNat_eq
  rw [BitVec.toNat_ofNat, Nat.mod_eq_of_lt x.toBitVec.isLt]
def xPerson (p s w d : Int32) (μ : MemT) : Int32 × MemT := if inR p 0 7 = false then (-1, μ) else if (inR s 1 200 && (inR w 1 400 && inR d (-9) 9)) = false then (-2, μ) else (bcI (μ 18 7 ||| 1 <<< (nI (cl p) &&& 31)), twIn 18 (cl p) s w d μ)
def xLeave (p : Int32) (μ : MemT) : Int32 × MemT := if isP (μ 18 7) p then (bcI (twOut 18 (cl p) μ 18 7), twOut 18 (cl p) μ) else (-1, μ)
def xMarry (p q : Int32) (B : Bool) (μ : MemT) : Int32 × MemT := if (isP (μ 18 7) p && isP (μ 18 7) q && !decide (p = q)) = false then (-1, μ) else if B then (if mmS (cl p) (cl q) (μ 22) then (marB (twJoin 18 (cl p) (cl q) μ 22) / 2, twJoin 18 (cl p) (cl q) μ) else (-3, μ)) else (if μ 22 (cl p) = q then (marB (twPart 18 (cl p) μ 22) / 2, twPart 18 (cl p) μ) else (-3, μ))
def xLimit (x : Int32) (μ : MemT) : Int32 × MemT := if inR x 0 99 then (μ 18 9, mset μ 18 (upd (μ 18) 9 x)) else (-2, μ)
def xSay (k : Nat) (x : Int32) (μ : MemT) : Int32 × MemT := if inR x 33 126 then (if k < 60 then (nI (k + 1), padAdd k x μ) else (-4, μ)) else (-2, μ)
def xWipe (μ : MemT) : Int32 × MemT := (μ 3 1, mset μ 3 (upd (μ 3) 1 0))
def xHold (c : Nat) (μ : MemT) : Int32 × MemT := if ffR (μ 4) c 0 0 = -6 then (if holdM c μ 5 2 = -6 then 0 else -3, holdM c μ) else (-5, μ)
def xJudge (c : Nat) (w : Int32) (μ : MemT) : Int32 × MemT := if inR w 0 5 then (if (xHold c μ).1 = -5 ∨ ((xHold c μ).1 = -3 ∧ ¬ w < 2) then xHold c μ else (ansM (xHold c μ).2 w, (xHold c μ).2)) else (-2, μ)
def xBehind (c : Nat) (p w : Int32) (μ : MemT) : Int32 × MemT := if isP (μ 18 7) p = false then (-1, μ) else if inR w 0 2 = false then (-2, μ) else if (xHold c μ).1 = 0 then (if w = 0 then wc ((xHold c μ).2 42 8) p ((xHold c μ).2 44 (cl p)) else if w = 1 then (xHold c μ).2 44 (cl p) else (xHold c μ).2 42 10, (xHold c μ).2) else xHold c μ
def xDone (c : Nat) (μ : MemT) : Int32 × MemT := if (xHold c μ).1 = 0 then ((xHold c μ).2 5 1, mset (twCopy 18 42 (xHold c μ).2) 3 (upd ((xHold c μ).2 3) 1 0)) else xHold c μ
def xWeighs (p : Int32) (μ : MemT) : Int32 := if isP (μ 18 7) p then wc (μ 18 8) p (μ 20 (cl p)) else -1
def xOff (p : Int32) (μ : MemT) : Int32 := if isP (μ 18 7) p then wc (μ 18 8) p (μ 20 (cl p)) - μ 19 (cl p) + 1000 else -1
def xOut (p : Int32) (μ : MemT) : Int32 := if isP (μ 18 7) p then fdoR (μ 18 8) (cl p) (μ 19 (cl p)) (μ 21 (cl p)) (μ 18 9) 100 0 (μ 20 (cl p)) else -1
def xEven (p q : Int32) (μ : MemT) : Int32 := if (isP (μ 18 7) p && isP (μ 18 7) q && !decide (p = q)) = false then -1 else fdaR (μ 18 8) (cl p) (cl q) (μ 21 (cl p)) (μ 21 (cl q)) 100 0 (μ 20 (cl p)) (μ 20 (cl q))
def xMake (t : Nat) (x : Int32) (B : Bool) (w : Int32) (μ : MemT) : Int32 × MemT := if inR x 1 999 && inR w 0 2 then (if w = 0 then saM B x t μ 6 4 else if w = 1 then saM B x t μ 6 5 else saM B x t μ 6 6, saM B x t μ) else (-2, μ)
def xNear (t : Nat) (x : Int32) (B : Bool) (μ : MemT) : Int32 × MemT := if inR x 1 999 then (saM B x t μ 6 7, saM B x t μ) else (-2, μ)
def xGap (t : Nat) (B : Bool) (μ : MemT) : Int32 × MemT := (luB (saM B 1 t μ 10), saM B 1 t μ)
def xAssize (i : Int32) (μ : MemT) : Int32 := if i = -1 then bcI (μ 18 7) else rankB (μ 18 7) (μ 18 8) (μ 20) i
def xJust (μ : MemT) : Int32 := mostB (μ 18 7) (μ 18 8) (μ 20)
def sdM (t s : Nat) (g : Int32) (μ : MemT) : MemT := mset (fillM μ) 6 (sdR s g (offN t s) μ).2
def xPrice (t : Nat) (g s w : Int32) (μ : MemT) : Int32 × MemT := if subI s (μ 18 7) = false then (-1, μ) else if (inR g 1 999 && inR w 0 1) = false then (-2, μ) else if togC s (μ 22) = false then (-3, μ) else (if w = 0 then sdM t (cl s) g μ 6 8 else sdM t (cl s) g μ 6 9, sdM t (cl s) g μ)
def xSeen (k : Nat) (x y h : Int32) (μ : MemT) : Int32 × MemT := if mbw x y (μ 18 7) = false then (-1, μ) else if inR h 0 2 = false then (-2, μ) else if k < 8 then (nI (k + 1), twSee 18 k x y h μ) else (-4, μ)
def xForget (μ : MemT) : Int32 × MemT := (μ 18 11, mset μ 18 (upd (μ 18) 11 0))
def wsX (k : Nat) (μ : MemT) : WsT := wAll k (μ 18 7) (μ 19) (μ 23) (μ 24) (μ 25) (ldR (μ 18 7) (μ 19) (μ 23) (μ 24) k 0 (μ 14)) (μ 12, μ 13, 0)
def xAirs (k : Nat) (w : Int32) (μ : MemT) : Int32 × MemT := if inR w 0 1 then (if w = 0 then nI (wsX k μ).2.2 else suB (wsX k μ).2.2 (wsX k μ).1, findM k μ) else (-2, μ)
def xAir (k : Nat) (p : Int32) (μ : MemT) : Int32 × MemT := if isP (μ 18 7) p then (lmB (wsX k μ).2.2 (wsX k μ).1 (wsX k μ).2.1 p, findM k μ) else (-1, μ)
def xCross (k : Nat) (w : Int32) (μ : MemT) : Int32 × MemT := if inR w 0 1 then (if w = 0 then cpM (wsX k μ).2.2 (findM k μ) 11 5 else cpM (wsX k μ).2.2 (findM k μ) 11 6, cpM (wsX k μ).2.2 (findM k μ)) else (-2, μ)
def chM (x y t k w : Int32) (μ : MemT) : MemT := if w = 0 then heavM (cl x) (cl y) t k μ else meanM x y t k μ
def xChance (x y t k w h : Int32) (μ : MemT) : Int64 × MemT := if mbw x y (μ 18 7) = false then (-1000000000000000001, μ) else if (inR t 0 10 && (inR k 1 50 && (inR w 0 1 && inR h 0 1))) = false then (-1000000000000000002, μ) else (if h = 0 then sw_jn (chM x y t k w μ 16 0) (chM x y t k w μ 16 1) else sw_jn (chM x y t k w μ 16 2) (chM x y t k w μ 16 3), chM x y t k w μ)
def xYear (s m w : Int32) (μ : MemT) : Int32 × MemT := if inR s 0 9999 && (inR m 1 99 && inR w 0 2) then (if w = 0 then yrM (cl m) s μ 17 1 else if w = 1 then yrM (cl m) s μ 17 2 else yrM (cl m) s μ 17 3, yrM (cl m) s μ) else (-2, μ)
def imB (k : Nat) : Nat := if k = 0 then 26 else 34
def xImage (k : Int32) (μ : MemT) : Int32 × MemT := if inR k 0 1 then (1, mset (twCopy (imB (cl k)) 18 μ) 2 (upd (μ 2) (cl k) 1)) else (-2, μ)
def xRestore (k : Int32) (μ : MemT) : Int32 × MemT := if inR k 0 1 then (if μ 2 (cl k) = 0 then (-3, μ) else (1, twCopy 18 (imB (cl k)) μ)) else (-2, μ)
def xTell (p k : Int32) (μ : MemT) : Int32 := if isP (μ 18 7) p = false then -2 else if k = 0 then μ 19 (cl p) else if k = 1 then μ 20 (cl p) else if k = 2 then μ 21 (cl p) + 9 else if k = 3 then μ 22 (cl p) else -2
def xTold (w : Int32) (μ : MemT) : Int32 := if w = 0 then μ 3 1 else if w = 1 then μ 18 7 else if w = 2 then μ 18 8 else if w = 3 then μ 18 9 else if w = 4 then μ 18 10 else if w = 5 then μ 18 11 else if w < 10 then -2 else xTell (w / 10 - 1) (w - w / 10 * 10) μ

set_option maxRecDepth 100000 in
set_option maxHeartbeats 4000000 in
theorem kX7_person {l : Launch} {G : GT} {μ : MemT} {x s w d : Int32} : sw_Met l G yX7_person cX7_person 5 (some .int) (rmk 2 40) [.ref (G.2.1 0), .int x, .int s, .int w, .int d] μ (fun v μ2 => v = some (.int (xPerson x s w d μ).1) ∧ μ2 = (xPerson x s w d μ).2) := by
  refine sw_Met.ofY (by decide) (Nat.le_of_ble_eq_true rfl) rfl ?_
  refine y_iload_n dX7_person_0 rfl rfl ?_
  refine y_iconst dX7_person_1 ic_0 ?_
  refine y_bipush dX7_person_2 ib_7 ?_
  refine y_cS3 dX7_person_4 meX7_within wm_ml_X7_66 (kX7_within (A := 0) (B := 7) rfl rfl) ⟨Nat.le_of_ble_eq_true rfl, Nat.le_of_ble_eq_true rfl⟩ ⟨rfl, rfl⟩ (Nat.le_of_ble_eq_true rfl) (fun v4 μ4 hp4 => ?_)
  obtain ⟨rfl, he4⟩ := hp4
  replace he4 := he4.symm
  subst he4
  refine y_ri ?_
  refine y_ifb_ne 12 dX7_person_7 (by decide) (fun h7 => ?_) (fun h7 => ?_)
  · obtain ⟨p, hp7, rfl⟩ := inR_ex (n := 7) h7
    have hp8 : p < 8 := by omega
    refine y_iload_n dX7_person_12 rfl rfl ?_
    refine y_iconst dX7_person_13 ic_1 ?_
    refine y_sipush dX7_person_14 is_200 ?_
    refine y_cS3 dX7_person_17 meX7_within wm_ml_X7_66 (kX7_within (A := 1) (B := 200) rfl rfl) ⟨Nat.le_of_ble_eq_true rfl, Nat.le_of_ble_eq_true rfl⟩ ⟨rfl, rfl⟩ (Nat.le_of_ble_eq_true rfl) (fun v17 μ17 hp17 => ?_)
    obtain ⟨rfl, he17⟩ := hp17
    replace he17 := he17.symm
    subst he17
    refine y_ri ?_
    refine y_ifb_eq 46 dX7_person_20 (by decide) (fun h20 => ?_) (fun h20 => ?_)
    · refine y_bipush dX7_person_46 ib_m2 ?_
      refine y_iret dX7_person_48 ?_
      constructor <;> simp_all [xPerson]
    · refine y_iload_n dX7_person_23 rfl rfl ?_
      refine y_iconst dX7_person_24 ic_1 ?_
      refine y_sipush dX7_person_25 is_400 ?_
      refine y_cS3 dX7_person_28 meX7_within wm_ml_X7_66 (kX7_within (A := 1) (B := 400) rfl rfl) ⟨Nat.le_of_ble_eq_true rfl, Nat.le_of_ble_eq_true rfl⟩ ⟨rfl, rfl⟩ (Nat.le_of_ble_eq_true rfl) (fun v28 μ28 hp28 => ?_)
      obtain ⟨rfl, he28⟩ := hp28
      replace he28 := he28.symm
      subst he28
      refine y_ri ?_
      refine y_ifb_eq 46 dX7_person_31 (by decide) (fun h31 => ?_) (fun h31 => ?_)
      · refine y_bipush dX7_person_46 ib_m2 ?_
        refine y_iret dX7_person_48 ?_
        constructor <;> simp_all [xPerson]
      · refine y_iload dX7_person_34 rfl ?_
        refine y_bipush dX7_person_36 ib_m9 ?_
        refine y_bipush dX7_person_38 ib_9 ?_
        refine y_cS3 dX7_person_40 meX7_within wm_ml_X7_66 (kX7_within (A := -9) (B := 9) rfl rfl) ⟨Nat.le_of_ble_eq_true rfl, Nat.le_of_ble_eq_true rfl⟩ ⟨rfl, rfl⟩ (Nat.le_of_ble_eq_true rfl) (fun v40 μ40 hp40 => ?_)
        obtain ⟨rfl, he40⟩ := hp40
        replace he40 := he40.symm
        subst he40
        refine y_ri ?_
        refine y_ifb_ne 49 dX7_person_43 (by decide) (fun h43 => ?_) (fun h43 => ?_)
        · refine y_aload_n dX7_person_49 rfl rfl ?_
          refine y_getr dX7_person_50 0 clX7 kd_0 (by decide) wm_fl_X7_10 rfl rfl ?_
          refine y_iload_n dX7_person_53 rfl rfl ?_
          refine y_iload_n dX7_person_54 rfl rfl ?_
          refine y_iload_n dX7_person_55 rfl rfl ?_
          refine y_iload dX7_person_56 rfl ?_
          refine y_cV4 dX7_person_58 meX4_settle clX4 kd_18 wm_ml_X7_70 (kX4_settle tw18 (p := p) (by omega)) ⟨Nat.le_of_ble_eq_true rfl, Nat.le_of_ble_eq_true rfl⟩ ⟨rfl, rfl⟩ (Nat.le_of_ble_eq_true rfl) (fun v58 μ58 hp58 => ?_)
          obtain ⟨rfl, he58⟩ := hp58
          replace he58 := he58.symm
          subst he58
          refine y_rv ?_
          refine y_aload_n dX7_person_61 rfl rfl ?_
          refine y_getr dX7_person_62 0 clX7 kd_0 (by decide) wm_fl_X7_10 rfl rfl ?_
          refine y_cV0 dX7_person_65 meX4_headcount clX4 kd_18 wm_ml_X7_74 (kX4_headcount tw18) ⟨Nat.le_of_ble_eq_true rfl, Nat.le_of_ble_eq_true rfl⟩ ⟨rfl, rfl⟩ (Nat.le_of_ble_eq_true rfl) (fun v65 μ65 hp65 => ?_)
          obtain ⟨rfl, he65⟩ := hp65
          replace he65 := he65.symm
          subst he65
          refine y_ri ?_
          refine y_iret dX7_person_68 ?_
          constructor <;> simp_all [xPerson, cl_8, twIn, mset, upd]
        · refine y_bipush dX7_person_46 ib_m2 ?_
          refine y_iret dX7_person_48 ?_
          constructor <;> simp_all [xPerson]
  · refine y_iconst dX7_person_10 ic_m1 ?_
    refine y_iret dX7_person_11 ?_
    exact ⟨by simp [xPerson, h7], by simp [xPerson, h7]⟩

set_option maxRecDepth 100000 in
set_option maxHeartbeats 4000000 in
theorem kX7_leave {l : Launch} {G : GT} {μ : MemT} {x : Int32} : sw_Met l G yX7_leave cX7_leave 2 (some .int) (rmk 3 64) [.ref (G.2.1 0), .int x] μ (fun v μ2 => v = some (.int (xLeave x μ).1) ∧ μ2 = (xLeave x μ).2) := by
  refine sw_Met.ofY (by decide) (Nat.le_of_ble_eq_true rfl) rfl ?_
  refine y_aload_n dX7_leave_0 rfl rfl ?_
  refine y_getr dX7_leave_1 0 clX7 kd_0 (by decide) wm_fl_X7_10 rfl rfl ?_
  refine y_iload_n dX7_leave_4 rfl rfl ?_
  refine y_cV1 dX7_leave_5 meX4_has clX4 kd_18 wm_ml_X7_78 (kX4_has tw18) ⟨Nat.le_of_ble_eq_true rfl, Nat.le_of_ble_eq_true rfl⟩ ⟨rfl, rfl⟩ (Nat.le_of_ble_eq_true rfl) (fun v5 μ5 hp5 => ?_)
  obtain ⟨rfl, he5⟩ := hp5
  replace he5 := he5.symm
  subst he5
  refine y_ri ?_
  refine y_ifb_ne 13 dX7_leave_8 (by decide) (fun h8 => ?_) (fun h8 => ?_)
  · obtain ⟨p, hp8, rfl, hpb⟩ := isP_ex h8
    refine y_aload_n dX7_leave_13 rfl rfl ?_
    refine y_getr dX7_leave_14 0 clX7 kd_0 (by decide) wm_fl_X7_10 rfl rfl ?_
    refine y_iload_n dX7_leave_17 rfl rfl ?_
    refine y_cV1 dX7_leave_18 meX4_remove clX4 kd_18 wm_ml_X7_82 (kX4_remove tw18 (by first | assumption | omega)) ⟨Nat.le_of_ble_eq_true rfl, Nat.le_of_ble_eq_true rfl⟩ ⟨rfl, rfl⟩ (Nat.le_of_ble_eq_true rfl) (fun v18 μ18 hp18 => ?_)
    obtain ⟨rfl, he18⟩ := hp18
    replace he18 := he18.symm
    subst he18
    refine y_rv ?_
    refine y_aload_n dX7_leave_21 rfl rfl ?_
    refine y_getr dX7_leave_22 0 clX7 kd_0 (by decide) wm_fl_X7_10 rfl rfl ?_
    refine y_cV0 dX7_leave_25 meX4_headcount clX4 kd_18 wm_ml_X7_74 (kX4_headcount tw18) ⟨Nat.le_of_ble_eq_true rfl, Nat.le_of_ble_eq_true rfl⟩ ⟨rfl, rfl⟩ (Nat.le_of_ble_eq_true rfl) (fun v25 μ25 hp25 => ?_)
    obtain ⟨rfl, he25⟩ := hp25
    replace he25 := he25.symm
    subst he25
    refine y_ri ?_
    refine y_iret dX7_leave_28 ?_
    constructor <;> simp_all [xLeave, cl_8, isP_n]
  · refine y_iconst dX7_leave_11 ic_m1 ?_
    refine y_iret dX7_leave_12 ?_
    constructor <;> simp_all [xLeave, cl_8, isP_n]

set_option maxRecDepth 100000 in
set_option maxHeartbeats 4000000 in
theorem kX7_limit {l : Launch} {G : GT} {μ : MemT} {x : Int32} : sw_Met l G yX7_limit cX7_limit 3 (some .int) (rmk 1 22) [.ref (G.2.1 0), .int x] μ (fun v μ2 => v = some (.int (xLimit x μ).1) ∧ μ2 = (xLimit x μ).2) := by
  refine sw_Met.ofY (by decide) (Nat.le_of_ble_eq_true rfl) rfl ?_
  refine y_iload_n dX7_limit_0 rfl rfl ?_
  refine y_iconst dX7_limit_1 ic_0 ?_
  refine y_bipush dX7_limit_2 ib_99 ?_
  refine y_cS3 dX7_limit_4 meX7_within wm_ml_X7_66 (kX7_within (A := 0) (B := 99) rfl rfl) ⟨Nat.le_of_ble_eq_true rfl, Nat.le_of_ble_eq_true rfl⟩ ⟨rfl, rfl⟩ (Nat.le_of_ble_eq_true rfl) (fun v4 μ4 hp4 => ?_)
  obtain ⟨rfl, he4⟩ := hp4
  replace he4 := he4.symm
  subst he4
  refine y_ri ?_
  refine y_ifb_ne 13 dX7_limit_7 (by decide) (fun h7 => ?_) (fun h7 => ?_)
  · refine y_aload_n dX7_limit_13 rfl rfl ?_
    refine y_getr dX7_limit_14 0 clX7 kd_0 (by decide) wm_fl_X7_10 rfl rfl ?_
    refine y_geti dX7_limit_17 9 clX4 kd_18 (by decide) wm_fl_X7_106 rfl rfl ?_
    refine y_istore_n dX7_limit_20 rfl rfl (by decide) ?_
    refine y_aload_n dX7_limit_21 rfl rfl ?_
    refine y_getr dX7_limit_22 0 clX7 kd_0 (by decide) wm_fl_X7_10 rfl rfl ?_
    refine y_iload_n dX7_limit_25 rfl rfl ?_
    refine y_puti dX7_limit_26 9 clX4 kd_18 (by decide) wm_fl_X7_106 rfl rfl rfl rfl (tyX4_ok 9 (by decide)) rfl rfl ?_
    refine y_iload_n dX7_limit_29 rfl rfl ?_
    refine y_iret dX7_limit_30 ?_
    constructor <;> simp_all [xLimit]
  · refine y_bipush dX7_limit_10 ib_m2 ?_
    refine y_iret dX7_limit_12 ?_
    constructor <;> simp_all [xLimit]

set_option maxRecDepth 100000 in
set_option maxHeartbeats 4000000 in
theorem kX7_say {l : Launch} {G : GT} {μ : MemT} {x : Int32} {k : Nat} (hk : k ≤ 60) (hs : μ 3 1 = nI k) : sw_Met l G yX7_say cX7_say 2 (some .int) (rmk 1 22) [.ref (G.2.1 0), .int x] μ (fun v μ2 => v = some (.int (xSay k x μ).1) ∧ μ2 = (xSay k x μ).2) := by
  refine sw_Met.ofY (by decide) (Nat.le_of_ble_eq_true rfl) rfl ?_
  refine y_iload_n dX7_say_0 rfl rfl ?_
  refine y_bipush dX7_say_1 ib_33 ?_
  refine y_bipush dX7_say_3 ib_126 ?_
  refine y_cS3 dX7_say_5 meX7_within wm_ml_X7_66 (kX7_within (A := 33) (B := 126) rfl rfl) ⟨Nat.le_of_ble_eq_true rfl, Nat.le_of_ble_eq_true rfl⟩ ⟨rfl, rfl⟩ (Nat.le_of_ble_eq_true rfl) (fun v5 μ5 hp5 => ?_)
  obtain ⟨rfl, he5⟩ := hp5
  replace he5 := he5.symm
  subst he5
  refine y_ri ?_
  refine y_ifb_ne 14 dX7_say_8 (by decide) (fun h8 => ?_) (fun h8 => ?_)
  · refine y_aload_n dX7_say_14 rfl rfl ?_
    refine y_getr dX7_say_15 3 clX7 kd_0 (by decide) wm_fl_X7_27 rfl rfl ?_
    refine y_iload_n dX7_say_18 rfl rfl ?_
    refine y_cV1 dX7_say_19 meX2_add clX2 kd_3 wm_ml_X7_110 (kX2_add hk hs) ⟨Nat.le_of_ble_eq_true rfl, Nat.le_of_ble_eq_true rfl⟩ ⟨rfl, rfl⟩ (Nat.le_of_ble_eq_true rfl) (fun v19 μ19 hp19 => ?_)
    obtain ⟨rfl, he19⟩ := hp19
    replace he19 := he19.symm
    subst he19
    refine y_ri ?_
    refine y_ifb_eq 35 dX7_say_22 (by decide) (fun h22 => ?_) (fun h22 => ?_)
    · refine y_bipush dX7_say_35 ib_m4 ?_
      refine y_iret dX7_say_37 ?_
      constructor <;> simp_all [-Nat.not_lt, xSay, padAdd, mset, upd]
    · refine y_aload_n dX7_say_25 rfl rfl ?_
      refine y_getr dX7_say_26 3 clX7 kd_0 (by decide) wm_fl_X7_27 rfl rfl ?_
      refine y_geti dX7_say_29 1 clX2 kd_3 (by decide) wm_fl_X7_113 rfl rfl ?_
      refine y_goto 37 dX7_say_32 (by decide) ?_
      refine y_iret dX7_say_37 ?_
      constructor <;> simp_all [-Nat.not_lt, xSay, padAdd, mset, upd]
  · refine y_bipush dX7_say_11 ib_m2 ?_
    refine y_iret dX7_say_13 ?_
    constructor <;> simp_all [-Nat.not_lt, xSay, padAdd, mset, upd]

set_option maxRecDepth 100000 in
set_option maxHeartbeats 4000000 in
theorem kX7_wipe {l : Launch} {G : GT} {μ : MemT}  : sw_Met l G yX7_wipe cX7_wipe 2 (some .int) (rmk 0 0) [.ref (G.2.1 0)] μ (fun v μ2 => v = some (.int (xWipe μ).1) ∧ μ2 = (xWipe μ).2) := by
  refine sw_Met.ofY (by decide) (Nat.le_of_ble_eq_true rfl) rfl ?_
  refine y_aload_n dX7_wipe_0 rfl rfl ?_
  refine y_getr dX7_wipe_1 3 clX7 kd_0 (by decide) wm_fl_X7_27 rfl rfl ?_
  refine y_geti dX7_wipe_4 1 clX2 kd_3 (by decide) wm_fl_X7_113 rfl rfl ?_
  refine y_istore_n dX7_wipe_7 rfl rfl (by decide) ?_
  refine y_aload_n dX7_wipe_8 rfl rfl ?_
  refine y_getr dX7_wipe_9 3 clX7 kd_0 (by decide) wm_fl_X7_27 rfl rfl ?_
  refine y_iconst dX7_wipe_12 ic_0 ?_
  refine y_puti dX7_wipe_13 1 clX2 kd_3 (by decide) wm_fl_X7_113 rfl rfl rfl rfl (tyX2_ok 1 (by decide)) rfl rfl ?_
  refine y_iload_n dX7_wipe_16 rfl rfl ?_
  refine y_iret dX7_wipe_17 ?_
  exact ⟨rfl, rfl⟩

set_option maxRecDepth 100000 in
set_option maxHeartbeats 4000000 in
theorem kX7_fault {l : Launch} {G : GT} {μ : MemT} {c : Nat} (hc60 : c ≤ 60) (hc : μ 3 1 = nI c) : sw_Met l G yX7_fault cX7_fault 1 (some .int) (rmk 5 105) [.ref (G.2.1 0)] μ (fun v μ2 => v = some (.int (ffR (μ 4) c 0 0)) ∧ μ2 = μ) := by
  refine sw_Met.ofY (by decide) (Nat.le_of_ble_eq_true rfl) rfl ?_
  refine y_aload_n dX7_fault_0 rfl rfl ?_
  refine y_getr dX7_fault_1 3 clX7 kd_0 (by decide) wm_fl_X7_27 rfl rfl ?_
  refine y_cV0 dX7_fault_4 meX2_firstFault clX2 kd_3 wm_ml_X7_116 (kX2_firstFault hc60 hc) ⟨Nat.le_of_ble_eq_true rfl, Nat.le_of_ble_eq_true rfl⟩ ⟨rfl, rfl⟩ (Nat.le_of_ble_eq_true rfl) (fun v4 μ4 hp4 => ?_)
  obtain ⟨rfl, he4⟩ := hp4
  replace he4 := he4.symm
  subst he4
  refine y_ri ?_
  refine y_iret dX7_fault_7 ?_
  exact ⟨rfl, rfl⟩

set_option maxRecDepth 100000 in
set_option maxHeartbeats 4000000 in
theorem kX7_holdMarket {l : Launch} {G : GT} {μ : MemT} {c : Nat} (hc60 : c ≤ 60) (hc : μ 3 1 = nI c) : sw_Met l G yX7_holdMarket cX7_holdMarket 1 (some .int) (rmk 5 112) [.ref (G.2.1 0)] μ (fun v μ2 => v = some (.int (xHold c μ).1) ∧ μ2 = (xHold c μ).2) := by
  refine sw_Met.ofY (by decide) (Nat.le_of_ble_eq_true rfl) rfl ?_
  refine y_aload_n dX7_holdMarket_0 rfl rfl ?_
  refine y_getr dX7_holdMarket_1 3 clX7 kd_0 (by decide) wm_fl_X7_27 rfl rfl ?_
  refine y_cV0 dX7_holdMarket_4 meX2_firstFault clX2 kd_3 wm_ml_X7_116 (kX2_firstFault hc60 hc) ⟨Nat.le_of_ble_eq_true rfl, Nat.le_of_ble_eq_true rfl⟩ ⟨rfl, rfl⟩ (Nat.le_of_ble_eq_true rfl) (fun v4 μ4 hp4 => ?_)
  obtain ⟨rfl, he4⟩ := hp4
  replace he4 := he4.symm
  subst he4
  refine y_ri ?_
  refine y_bipush dX7_holdMarket_7 ib_m6 ?_
  refine y_icmp_eq 15 dX7_holdMarket_9 (by decide) (fun h9 => ?_) (fun h9 => ?_)
  · refine y_aload_n dX7_holdMarket_15 rfl rfl ?_
    refine y_getr dX7_holdMarket_16 4 clX7 kd_0 (by decide) wm_fl_X7_34 rfl rfl ?_
    refine y_aload_n dX7_holdMarket_19 rfl rfl ?_
    refine y_getr dX7_holdMarket_20 3 clX7 kd_0 (by decide) wm_fl_X7_27 rfl rfl ?_
    refine y_aload_n dX7_holdMarket_23 rfl rfl ?_
    refine y_getr dX7_holdMarket_24 0 clX7 kd_0 (by decide) wm_fl_X7_10 rfl rfl ?_
    refine y_cV2 dX7_holdMarket_27 meX1_hold clX1 kd_5 wm_ml_X7_270 (kX1_hold hc60 hc) ⟨Nat.le_of_ble_eq_true rfl, Nat.le_of_ble_eq_true rfl⟩ ⟨rfl, rfl⟩ (Nat.le_of_ble_eq_true rfl) (fun v27 μ27 hp27 => ?_)
    obtain ⟨rfl, he27⟩ := hp27
    replace he27 := he27.symm
    subst he27
    refine y_rv ?_
    refine y_aload_n dX7_holdMarket_30 rfl rfl ?_
    refine y_getr dX7_holdMarket_31 4 clX7 kd_0 (by decide) wm_fl_X7_34 rfl rfl ?_
    refine y_geti dX7_holdMarket_34 2 clX1 kd_5 (by decide) wm_fl_X7_274 rfl rfl ?_
    refine y_bipush dX7_holdMarket_37 ib_m6 ?_
    refine y_icmp_ne 46 dX7_holdMarket_39 (by decide) (fun h39 => ?_) (fun h39 => ?_)
    · refine y_bipush dX7_holdMarket_46 ib_m3 ?_
      refine y_iret dX7_holdMarket_48 ?_
      constructor <;> simp_all [xHold]
    · refine y_iconst dX7_holdMarket_42 ic_0 ?_
      refine y_goto 48 dX7_holdMarket_43 (by decide) ?_
      refine y_iret dX7_holdMarket_48 ?_
      constructor <;> simp_all [xHold]
  · refine y_bipush dX7_holdMarket_12 ib_m5 ?_
    refine y_iret dX7_holdMarket_14 ?_
    constructor <;> simp_all [xHold]

set_option maxRecDepth 100000 in
set_option maxHeartbeats 4000000 in
theorem kX7_judge {l : Launch} {G : GT} {μ : MemT} {c : Nat} (hc60 : c ≤ 60) (hc : μ 3 1 = nI c) {w : Int32} : sw_Met l G yX7_judge cX7_judge 3 (some .int) (rmk 6 132) [.ref (G.2.1 0), .int w] μ (fun v μ2 => v = some (.int (xJudge c w μ).1) ∧ μ2 = (xJudge c w μ).2) := by
  refine sw_Met.ofY (by decide) (Nat.le_of_ble_eq_true rfl) rfl ?_
  refine y_iload_n dX7_judge_0 rfl rfl ?_
  refine y_iconst dX7_judge_1 ic_0 ?_
  refine y_iconst dX7_judge_2 ic_5 ?_
  refine y_cS3 dX7_judge_3 meX7_within wm_ml_X7_66 (kX7_within (A := 0) (B := 5) rfl rfl) ⟨Nat.le_of_ble_eq_true rfl, Nat.le_of_ble_eq_true rfl⟩ ⟨rfl, rfl⟩ (Nat.le_of_ble_eq_true rfl) (fun v3 μ3 hp3 => ?_)
  obtain ⟨rfl, he3⟩ := hp3
  replace he3 := he3.symm
  subst he3
  refine y_ri ?_
  refine y_ifb_ne 12 dX7_judge_6 (by decide) (fun h6 => ?_) (fun h6 => ?_)
  · refine y_aload_n dX7_judge_12 rfl rfl ?_
    refine y_cV0 dX7_judge_13 meX7_holdMarket clX7 kd_0 wm_ml_X7_119 (kX7_holdMarket hc60 hc) ⟨Nat.le_of_ble_eq_true rfl, Nat.le_of_ble_eq_true rfl⟩ ⟨rfl, rfl⟩ (Nat.le_of_ble_eq_true rfl) (fun v13 μ13 hp13 => ?_)
    obtain ⟨rfl, he13⟩ := hp13
    replace he13 := he13.symm
    subst he13
    refine y_ri ?_
    refine y_istore_n dX7_judge_16 rfl rfl (by decide) ?_
    refine y_iload_n dX7_judge_17 rfl rfl ?_
    refine y_bipush dX7_judge_18 ib_m5 ?_
    refine y_icmp_eq 34 dX7_judge_20 (by decide) (fun h20 => ?_) (fun h20 => ?_)
    · refine y_iload_n dX7_judge_34 rfl rfl ?_
      refine y_iret dX7_judge_35 ?_
      constructor <;> simp_all [-Int32.not_lt, xJudge]
    · refine y_iload_n dX7_judge_23 rfl rfl ?_
      refine y_bipush dX7_judge_24 ib_m3 ?_
      refine y_icmp_ne 36 dX7_judge_26 (by decide) (fun h26 => ?_) (fun h26 => ?_)
      · refine y_aload_n dX7_judge_36 rfl rfl ?_
        refine y_getr dX7_judge_37 4 clX7 kd_0 (by decide) wm_fl_X7_34 rfl rfl ?_
        refine y_iload_n dX7_judge_40 rfl rfl ?_
        refine y_cV1 dX7_judge_41 meX1_answer clX1 kd_5 wm_ml_X7_122 (kX1_answer) ⟨Nat.le_of_ble_eq_true rfl, Nat.le_of_ble_eq_true rfl⟩ ⟨rfl, rfl⟩ (Nat.le_of_ble_eq_true rfl) (fun v41 μ41 hp41 => ?_)
        obtain ⟨rfl, he41⟩ := hp41
        replace he41 := he41.symm
        subst he41
        refine y_ri ?_
        refine y_iret dX7_judge_44 ?_
        constructor <;> simp_all [-Int32.not_lt, xJudge]
      · refine y_iload_n dX7_judge_29 rfl rfl ?_
        refine y_iconst dX7_judge_30 ic_2 ?_
        refine y_icmp_lt 36 dX7_judge_31 (by decide) (fun h31 => ?_) (fun h31 => ?_)
        · refine y_aload_n dX7_judge_36 rfl rfl ?_
          refine y_getr dX7_judge_37 4 clX7 kd_0 (by decide) wm_fl_X7_34 rfl rfl ?_
          refine y_iload_n dX7_judge_40 rfl rfl ?_
          refine y_cV1 dX7_judge_41 meX1_answer clX1 kd_5 wm_ml_X7_122 (kX1_answer) ⟨Nat.le_of_ble_eq_true rfl, Nat.le_of_ble_eq_true rfl⟩ ⟨rfl, rfl⟩ (Nat.le_of_ble_eq_true rfl) (fun v41 μ41 hp41 => ?_)
          obtain ⟨rfl, he41⟩ := hp41
          replace he41 := he41.symm
          subst he41
          refine y_ri ?_
          refine y_iret dX7_judge_44 ?_
          constructor <;> simp_all [-Int32.not_lt, xJudge]
        · refine y_iload_n dX7_judge_34 rfl rfl ?_
          refine y_iret dX7_judge_35 ?_
          constructor <;> simp_all [-Int32.not_lt, xJudge]
  · refine y_bipush dX7_judge_9 ib_m2 ?_
    refine y_iret dX7_judge_11 ?_
    constructor <;> simp_all [-Int32.not_lt, xJudge]

set_option maxRecDepth 100000 in
set_option maxHeartbeats 4000000 in
theorem kX7_done {l : Launch} {G : GT} {μ : MemT} {c : Nat} (hc60 : c ≤ 60) (hc : μ 3 1 = nI c) : sw_Met l G yX7_done cX7_done 2 (some .int) (rmk 6 132) [.ref (G.2.1 0)] μ (fun v μ2 => v = some (.int (xDone c μ).1) ∧ μ2 = (xDone c μ).2) := by
  refine sw_Met.ofY (by decide) (Nat.le_of_ble_eq_true rfl) rfl ?_
  refine y_aload_n dX7_done_0 rfl rfl ?_
  refine y_cV0 dX7_done_1 meX7_holdMarket clX7 kd_0 wm_ml_X7_119 (kX7_holdMarket hc60 hc) ⟨Nat.le_of_ble_eq_true rfl, Nat.le_of_ble_eq_true rfl⟩ ⟨rfl, rfl⟩ (Nat.le_of_ble_eq_true rfl) (fun v1 μ1 hp1 => ?_)
  obtain ⟨rfl, he1⟩ := hp1
  replace he1 := he1.symm
  subst he1
  refine y_ri ?_
  refine y_istore_n dX7_done_4 rfl rfl (by decide) ?_
  refine y_iload_n dX7_done_5 rfl rfl ?_
  refine y_if_eq 11 dX7_done_6 (by decide) (fun h6 => ?_) (fun h6 => ?_)
  · refine y_aload_n dX7_done_11 rfl rfl ?_
    refine y_getr dX7_done_12 0 clX7 kd_0 (by decide) wm_fl_X7_10 rfl rfl ?_
    refine y_aload_n dX7_done_15 rfl rfl ?_
    refine y_getr dX7_done_16 4 clX7 kd_0 (by decide) wm_fl_X7_34 rfl rfl ?_
    refine y_getr dX7_done_19 0 clX1 kd_5 (by decide) wm_fl_X7_126 rfl rfl ?_
    refine y_cV1 dX7_done_22 meX4_copyFrom clX4 kd_18 wm_ml_X7_139 (kX4_copyFrom tw18 tw42 (by decide)) ⟨Nat.le_of_ble_eq_true rfl, Nat.le_of_ble_eq_true rfl⟩ ⟨rfl, rfl⟩ (Nat.le_of_ble_eq_true rfl) (fun v22 μ22 hp22 => ?_)
    obtain ⟨rfl, he22⟩ := hp22
    replace he22 := he22.symm
    subst he22
    refine y_rv ?_
    refine y_aload_n dX7_done_25 rfl rfl ?_
    refine y_getr dX7_done_26 3 clX7 kd_0 (by decide) wm_fl_X7_27 rfl rfl ?_
    refine y_iconst dX7_done_29 ic_0 ?_
    refine y_puti dX7_done_30 1 clX2 kd_3 (by decide) wm_fl_X7_113 rfl rfl rfl rfl (tyX2_ok 1 (by decide)) rfl rfl ?_
    refine y_aload_n dX7_done_33 rfl rfl ?_
    refine y_getr dX7_done_34 4 clX7 kd_0 (by decide) wm_fl_X7_34 rfl rfl ?_
    refine y_geti dX7_done_37 1 clX1 kd_5 (by decide) wm_fl_X7_143 rfl rfl ?_
    refine y_iret dX7_done_40 ?_
    constructor <;> simp_all [xDone, mset, twCopy]
  · refine y_iload_n dX7_done_9 rfl rfl ?_
    refine y_iret dX7_done_10 ?_
    constructor <;> simp_all [xDone, mset, twCopy]

set_option maxRecDepth 100000 in
set_option maxHeartbeats 4000000 in
theorem kX7_weighs {l : Launch} {G : GT} {μ : MemT} {x : Int32} : sw_Met l G yX7_weighs cX7_weighs 2 (some .int) (rmk 2 43) [.ref (G.2.1 0), .int x] μ (fun v μ2 => v = some (.int (xWeighs x μ)) ∧ μ2 = μ) := by
  refine sw_Met.ofY (by decide) (Nat.le_of_ble_eq_true rfl) rfl ?_
  refine y_aload_n dX7_weighs_0 rfl rfl ?_
  refine y_getr dX7_weighs_1 0 clX7 kd_0 (by decide) wm_fl_X7_10 rfl rfl ?_
  refine y_iload_n dX7_weighs_4 rfl rfl ?_
  refine y_cV1 dX7_weighs_5 meX4_has clX4 kd_18 wm_ml_X7_78 (kX4_has tw18) ⟨Nat.le_of_ble_eq_true rfl, Nat.le_of_ble_eq_true rfl⟩ ⟨rfl, rfl⟩ (Nat.le_of_ble_eq_true rfl) (fun v5 μ5 hp5 => ?_)
  obtain ⟨rfl, he5⟩ := hp5
  replace he5 := he5.symm
  subst he5
  refine y_ri ?_
  refine y_ifb_eq 22 dX7_weighs_8 (by decide) (fun h8 => ?_) (fun h8 => ?_)
  · refine y_iconst dX7_weighs_22 ic_m1 ?_
    refine y_iret dX7_weighs_23 ?_
    exact ⟨by simp_all [xWeighs, cl_8, isP_n], rfl⟩
  · obtain ⟨p, hp8, rfl, hpb⟩ := isP_ex h8
    refine y_aload_n dX7_weighs_11 rfl rfl ?_
    refine y_getr dX7_weighs_12 0 clX7 kd_0 (by decide) wm_fl_X7_10 rfl rfl ?_
    refine y_iload_n dX7_weighs_15 rfl rfl ?_
    refine y_cV1 dX7_weighs_16 meX4_poundsOf clX4 kd_18 wm_ml_X7_129 (kX4_poundsOf tw18 (by first | assumption | omega)) ⟨Nat.le_of_ble_eq_true rfl, Nat.le_of_ble_eq_true rfl⟩ ⟨rfl, rfl⟩ (Nat.le_of_ble_eq_true rfl) (fun v16 μ16 hp16 => ?_)
    obtain ⟨rfl, he16⟩ := hp16
    replace he16 := he16.symm
    subst he16
    refine y_ri ?_
    refine y_goto 23 dX7_weighs_19 (by decide) ?_
    refine y_iret dX7_weighs_23 ?_
    exact ⟨by simp_all [xWeighs, cl_8, isP_n], rfl⟩

set_option maxRecDepth 100000 in
set_option maxHeartbeats 4000000 in
theorem kX7_off {l : Launch} {G : GT} {μ : MemT} {x : Int32} : sw_Met l G yX7_off cX7_off 2 (some .int) (rmk 2 43) [.ref (G.2.1 0), .int x] μ (fun v μ2 => v = some (.int (xOff x μ)) ∧ μ2 = μ) := by
  refine sw_Met.ofY (by decide) (Nat.le_of_ble_eq_true rfl) rfl ?_
  refine y_aload_n dX7_off_0 rfl rfl ?_
  refine y_getr dX7_off_1 0 clX7 kd_0 (by decide) wm_fl_X7_10 rfl rfl ?_
  refine y_iload_n dX7_off_4 rfl rfl ?_
  refine y_cV1 dX7_off_5 meX4_has clX4 kd_18 wm_ml_X7_78 (kX4_has tw18) ⟨Nat.le_of_ble_eq_true rfl, Nat.le_of_ble_eq_true rfl⟩ ⟨rfl, rfl⟩ (Nat.le_of_ble_eq_true rfl) (fun v5 μ5 hp5 => ?_)
  obtain ⟨rfl, he5⟩ := hp5
  replace he5 := he5.symm
  subst he5
  refine y_ri ?_
  refine y_ifb_eq 36 dX7_off_8 (by decide) (fun h8 => ?_) (fun h8 => ?_)
  · refine y_iconst dX7_off_36 ic_m1 ?_
    refine y_iret dX7_off_37 ?_
    exact ⟨by simp_all [xOff, cl_8, isP_n], rfl⟩
  · obtain ⟨p, hp8, rfl, hpb⟩ := isP_ex h8
    refine y_aload_n dX7_off_11 rfl rfl ?_
    refine y_getr dX7_off_12 0 clX7 kd_0 (by decide) wm_fl_X7_10 rfl rfl ?_
    refine y_iload_n dX7_off_15 rfl rfl ?_
    refine y_cV1 dX7_off_16 meX4_poundsOf clX4 kd_18 wm_ml_X7_129 (kX4_poundsOf tw18 (by first | assumption | omega)) ⟨Nat.le_of_ble_eq_true rfl, Nat.le_of_ble_eq_true rfl⟩ ⟨rfl, rfl⟩ (Nat.le_of_ble_eq_true rfl) (fun v16 μ16 hp16 => ?_)
    obtain ⟨rfl, he16⟩ := hp16
    replace he16 := he16.symm
    subst he16
    refine y_ri ?_
    refine y_aload_n dX7_off_19 rfl rfl ?_
    refine y_getr dX7_off_20 0 clX7 kd_0 (by decide) wm_fl_X7_10 rfl rfl ?_
    refine y_getr dX7_off_23 0 clX4 kd_18 (by decide) wm_fl_X7_146 rfl rfl ?_
    refine y_iload_n dX7_off_26 rfl rfl ?_
    refine y_iald dX7_off_27 p kd_19 rfl (by first | assumption | decide | omega) (by decide) ?_
    refine y_isub dX7_off_28 ?_
    refine y_sipush dX7_off_29 is_1000 ?_
    refine y_iadd dX7_off_32 ?_
    refine y_goto 37 dX7_off_33 (by decide) ?_
    refine y_iret dX7_off_37 ?_
    exact ⟨by simp_all [xOff, cl_8, isP_n], rfl⟩

set_option maxRecDepth 100000 in
set_option maxHeartbeats 4000000 in
theorem kX7_out {l : Launch} {G : GT} {μ : MemT} {x : Int32} : sw_Met l G yX7_out cX7_out 2 (some .int) (rmk 3 59) [.ref (G.2.1 0), .int x] μ (fun v μ2 => v = some (.int (xOut x μ)) ∧ μ2 = μ) := by
  refine sw_Met.ofY (by decide) (Nat.le_of_ble_eq_true rfl) rfl ?_
  refine y_aload_n dX7_out_0 rfl rfl ?_
  refine y_getr dX7_out_1 0 clX7 kd_0 (by decide) wm_fl_X7_10 rfl rfl ?_
  refine y_iload_n dX7_out_4 rfl rfl ?_
  refine y_cV1 dX7_out_5 meX4_has clX4 kd_18 wm_ml_X7_78 (kX4_has tw18) ⟨Nat.le_of_ble_eq_true rfl, Nat.le_of_ble_eq_true rfl⟩ ⟨rfl, rfl⟩ (Nat.le_of_ble_eq_true rfl) (fun v5 μ5 hp5 => ?_)
  obtain ⟨rfl, he5⟩ := hp5
  replace he5 := he5.symm
  subst he5
  refine y_ri ?_
  refine y_ifb_eq 22 dX7_out_8 (by decide) (fun h8 => ?_) (fun h8 => ?_)
  · refine y_iconst dX7_out_22 ic_m1 ?_
    refine y_iret dX7_out_23 ?_
    exact ⟨by simp_all [xOut, cl_8, isP_n], rfl⟩
  · obtain ⟨p, hp8, rfl, hpb⟩ := isP_ex h8
    refine y_aload_n dX7_out_11 rfl rfl ?_
    refine y_getr dX7_out_12 0 clX7 kd_0 (by decide) wm_fl_X7_10 rfl rfl ?_
    refine y_iload_n dX7_out_15 rfl rfl ?_
    refine y_cV1 dX7_out_16 meX4_firstDayOff clX4 kd_18 wm_ml_X7_149 (kX4_firstDayOff tw18 (by first | assumption | omega)) ⟨Nat.le_of_ble_eq_true rfl, Nat.le_of_ble_eq_true rfl⟩ ⟨rfl, rfl⟩ (Nat.le_of_ble_eq_true rfl) (fun v16 μ16 hp16 => ?_)
    obtain ⟨rfl, he16⟩ := hp16
    replace he16 := he16.symm
    subst he16
    refine y_ri ?_
    refine y_goto 23 dX7_out_19 (by decide) ?_
    refine y_iret dX7_out_23 ?_
    exact ⟨by simp_all [xOut, cl_8, isP_n], rfl⟩

set_option maxRecDepth 100000 in
set_option maxHeartbeats 4000000 in
theorem kX7_even {l : Launch} {G : GT} {μ : MemT} {x y : Int32} : sw_Met l G yX7_even cX7_even 3 (some .int) (rmk 3 61) [.ref (G.2.1 0), .int x, .int y] μ (fun v μ2 => v = some (.int (xEven x y μ)) ∧ μ2 = μ) := by
  refine sw_Met.ofY (by decide) (Nat.le_of_ble_eq_true rfl) rfl ?_
  refine y_aload_n dX7_even_0 rfl rfl ?_
  refine y_getr dX7_even_1 0 clX7 kd_0 (by decide) wm_fl_X7_10 rfl rfl ?_
  refine y_iload_n dX7_even_4 rfl rfl ?_
  refine y_iload_n dX7_even_5 rfl rfl ?_
  refine y_cV2 dX7_even_6 meX4_hasTwo clX4 kd_18 wm_ml_X7_86 (kX4_hasTwo tw18) ⟨Nat.le_of_ble_eq_true rfl, Nat.le_of_ble_eq_true rfl⟩ ⟨rfl, rfl⟩ (Nat.le_of_ble_eq_true rfl) (fun v6 μ6 hp6 => ?_)
  obtain ⟨rfl, he6⟩ := hp6
  replace he6 := he6.symm
  subst he6
  refine y_ri ?_
  refine y_ifb_eq 24 dX7_even_9 (by decide) (fun h9 => ?_) (fun h9 => ?_)
  · refine y_iconst dX7_even_24 ic_m1 ?_
    refine y_iret dX7_even_25 ?_
    exact ⟨by simp_all [xEven, cl_8, isP_n], rfl⟩
  · simp only [Bool.and_eq_true, Bool.not_eq_true', decide_eq_false_iff_not] at h9
    obtain ⟨⟨hx1, hx2⟩, hx3⟩ := h9
    obtain ⟨p, hp8, rfl, hpb⟩ := isP_ex hx1
    obtain ⟨q, hq8, rfl, hqb⟩ := isP_ex hx2
    refine y_aload_n dX7_even_12 rfl rfl ?_
    refine y_getr dX7_even_13 0 clX7 kd_0 (by decide) wm_fl_X7_10 rfl rfl ?_
    refine y_iload_n dX7_even_16 rfl rfl ?_
    refine y_iload_n dX7_even_17 rfl rfl ?_
    refine y_cV2 dX7_even_18 meX4_firstDayAlike clX4 kd_18 wm_ml_X7_152 (kX4_firstDayAlike tw18 hp8 hq8) ⟨Nat.le_of_ble_eq_true rfl, Nat.le_of_ble_eq_true rfl⟩ ⟨rfl, rfl⟩ (Nat.le_of_ble_eq_true rfl) (fun v18 μ18 hp18 => ?_)
    obtain ⟨rfl, he18⟩ := hp18
    replace he18 := he18.symm
    subst he18
    refine y_ri ?_
    refine y_goto 25 dX7_even_21 (by decide) ?_
    refine y_iret dX7_even_25 ?_
    exact ⟨by simp_all [xEven, cl_8, isP_n], rfl⟩

set_option maxRecDepth 100000 in
set_option maxHeartbeats 4000000 in
theorem kX7_assize {l : Launch} {G : GT} {μ : MemT} {x : Int32} : sw_Met l G yX7_assize cX7_assize 2 (some .int) (rmk 4 89) [.ref (G.2.1 0), .int x] μ (fun v μ2 => v = some (.int (xAssize x μ)) ∧ μ2 = μ) := by
  refine sw_Met.ofY (by decide) (Nat.le_of_ble_eq_true rfl) rfl ?_
  refine y_iload_n dX7_assize_0 rfl rfl ?_
  refine y_iconst dX7_assize_1 ic_m1 ?_
  refine y_icmp_ne 15 dX7_assize_2 (by decide) (fun h2 => ?_) (fun h2 => ?_)
  · refine y_aload_n dX7_assize_15 rfl rfl ?_
    refine y_getr dX7_assize_16 0 clX7 kd_0 (by decide) wm_fl_X7_10 rfl rfl ?_
    refine y_iload_n dX7_assize_19 rfl rfl ?_
    refine y_cV1 dX7_assize_20 meX4_ranked clX4 kd_18 wm_ml_X7_175 (kX4_ranked tw18) ⟨Nat.le_of_ble_eq_true rfl, Nat.le_of_ble_eq_true rfl⟩ ⟨rfl, rfl⟩ (Nat.le_of_ble_eq_true rfl) (fun v20 μ20 hp20 => ?_)
    obtain ⟨rfl, he20⟩ := hp20
    replace he20 := he20.symm
    subst he20
    refine y_ri ?_
    refine y_iret dX7_assize_23 ?_
    exact ⟨by simp_all [xAssize], rfl⟩
  · refine y_aload_n dX7_assize_5 rfl rfl ?_
    refine y_getr dX7_assize_6 0 clX7 kd_0 (by decide) wm_fl_X7_10 rfl rfl ?_
    refine y_cV0 dX7_assize_9 meX4_headcount clX4 kd_18 wm_ml_X7_74 (kX4_headcount tw18) ⟨Nat.le_of_ble_eq_true rfl, Nat.le_of_ble_eq_true rfl⟩ ⟨rfl, rfl⟩ (Nat.le_of_ble_eq_true rfl) (fun v9 μ9 hp9 => ?_)
    obtain ⟨rfl, he9⟩ := hp9
    replace he9 := he9.symm
    subst he9
    refine y_ri ?_
    refine y_goto 23 dX7_assize_12 (by decide) ?_
    refine y_iret dX7_assize_23 ?_
    exact ⟨by simp_all [xAssize], rfl⟩

set_option maxRecDepth 100000 in
set_option maxHeartbeats 4000000 in
theorem kX7_just {l : Launch} {G : GT} {μ : MemT}  : sw_Met l G yX7_just cX7_just 1 (some .int) (rmk 4 88) [.ref (G.2.1 0)] μ (fun v μ2 => v = some (.int (xJust μ)) ∧ μ2 = μ) := by
  refine sw_Met.ofY (by decide) (Nat.le_of_ble_eq_true rfl) rfl ?_
  refine y_aload_n dX7_just_0 rfl rfl ?_
  refine y_getr dX7_just_1 0 clX7 kd_0 (by decide) wm_fl_X7_10 rfl rfl ?_
  refine y_cV0 dX7_just_4 meX4_mostAlike clX4 kd_18 wm_ml_X7_178 (kX4_mostAlike tw18) ⟨Nat.le_of_ble_eq_true rfl, Nat.le_of_ble_eq_true rfl⟩ ⟨rfl, rfl⟩ (Nat.le_of_ble_eq_true rfl) (fun v4 μ4 hp4 => ?_)
  obtain ⟨rfl, he4⟩ := hp4
  replace he4 := he4.symm
  subst he4
  refine y_ri ?_
  refine y_iret dX7_just_7 ?_
  exact ⟨rfl, rfl⟩

set_option maxRecDepth 100000 in
set_option maxHeartbeats 4000000 in
theorem kX7_make {l : Launch} {G : GT} {μ : MemT} {t : Nat} (ht : t < 256) (hth : μ 18 7 = nI t) {x : Int32} {B : Bool} {w : Int32} : sw_Met l G yX7_make cX7_make 4 (some .int) (rmk 5 122) [.ref (G.2.1 0), .int x, .int (bI B), .int w] μ (fun v μ2 => v = some (.int (xMake t x B w μ).1) ∧ μ2 = (xMake t x B w μ).2) := by
  refine sw_Met.ofY (by decide) (Nat.le_of_ble_eq_true rfl) rfl ?_
  refine y_iload_n dX7_make_0 rfl rfl ?_
  refine y_iconst dX7_make_1 ic_1 ?_
  refine y_sipush dX7_make_2 is_999 ?_
  refine y_cS3 dX7_make_5 meX7_within wm_ml_X7_66 (kX7_within (A := 1) (B := 999) rfl rfl) ⟨Nat.le_of_ble_eq_true rfl, Nat.le_of_ble_eq_true rfl⟩ ⟨rfl, rfl⟩ (Nat.le_of_ble_eq_true rfl) (fun v5 μ5 hp5 => ?_)
  obtain ⟨rfl, he5⟩ := hp5
  replace he5 := he5.symm
  subst he5
  refine y_ri ?_
  refine y_ifb_eq 20 dX7_make_8 (by decide) (fun h8 => ?_) (fun h8 => ?_)
  · refine y_bipush dX7_make_20 ib_m2 ?_
    refine y_iret dX7_make_22 ?_
    constructor <;> simp_all [xMake]
  · refine y_iload_n dX7_make_11 rfl rfl ?_
    refine y_iconst dX7_make_12 ic_0 ?_
    refine y_iconst dX7_make_13 ic_2 ?_
    refine y_cS3 dX7_make_14 meX7_within wm_ml_X7_66 (kX7_within (A := 0) (B := 2) rfl rfl) ⟨Nat.le_of_ble_eq_true rfl, Nat.le_of_ble_eq_true rfl⟩ ⟨rfl, rfl⟩ (Nat.le_of_ble_eq_true rfl) (fun v14 μ14 hp14 => ?_)
    obtain ⟨rfl, he14⟩ := hp14
    replace he14 := he14.symm
    subst he14
    refine y_ri ?_
    refine y_ifb_ne 23 dX7_make_17 (by decide) (fun h17 => ?_) (fun h17 => ?_)
    · refine y_aload_n dX7_make_23 rfl rfl ?_
      refine y_getr dX7_make_24 5 clX7 kd_0 (by decide) wm_fl_X7_41 rfl rfl ?_
      refine y_aload_n dX7_make_27 rfl rfl ?_
      refine y_getr dX7_make_28 0 clX7 kd_0 (by decide) wm_fl_X7_10 rfl rfl ?_
      refine y_iload_n dX7_make_31 rfl rfl ?_
      refine y_iload_n dX7_make_32 rfl rfl ?_
      refine y_cV3 dX7_make_33 meX3_seatAll clX3 kd_6 wm_ml_X7_156 (kX3_seatAll ht hth) ⟨Nat.le_of_ble_eq_true rfl, Nat.le_of_ble_eq_true rfl⟩ ⟨rfl, rfl⟩ (Nat.le_of_ble_eq_true rfl) (fun v33 μ33 hp33 => ?_)
      obtain ⟨rfl, he33⟩ := hp33
      replace he33 := he33.symm
      subst he33
      refine y_rv ?_
      refine y_iload_n dX7_make_36 rfl rfl ?_
      refine y_if_ne 50 dX7_make_37 (by decide) (fun h37 => ?_) (fun h37 => ?_)
      · refine y_iload_n dX7_make_50 rfl rfl ?_
        refine y_iconst dX7_make_51 ic_1 ?_
        refine y_icmp_ne 65 dX7_make_52 (by decide) (fun h52 => ?_) (fun h52 => ?_)
        · refine y_aload_n dX7_make_65 rfl rfl ?_
          refine y_getr dX7_make_66 5 clX7 kd_0 (by decide) wm_fl_X7_41 rfl rfl ?_
          refine y_geti dX7_make_69 6 clX3 kd_6 (by decide) wm_fl_X7_166 rfl rfl ?_
          refine y_iret dX7_make_72 ?_
          constructor <;> simp_all [xMake]
        · refine y_aload_n dX7_make_55 rfl rfl ?_
          refine y_getr dX7_make_56 5 clX7 kd_0 (by decide) wm_fl_X7_41 rfl rfl ?_
          refine y_geti dX7_make_59 5 clX3 kd_6 (by decide) wm_fl_X7_163 rfl rfl ?_
          refine y_goto 72 dX7_make_62 (by decide) ?_
          refine y_iret dX7_make_72 ?_
          constructor <;> simp_all [xMake]
      · refine y_aload_n dX7_make_40 rfl rfl ?_
        refine y_getr dX7_make_41 5 clX7 kd_0 (by decide) wm_fl_X7_41 rfl rfl ?_
        refine y_geti dX7_make_44 4 clX3 kd_6 (by decide) wm_fl_X7_160 rfl rfl ?_
        refine y_goto 72 dX7_make_47 (by decide) ?_
        refine y_iret dX7_make_72 ?_
        constructor <;> simp_all [xMake]
    · refine y_bipush dX7_make_20 ib_m2 ?_
      refine y_iret dX7_make_22 ?_
      constructor <;> simp_all [xMake]

set_option maxRecDepth 100000 in
set_option maxHeartbeats 4000000 in
theorem kX7_near {l : Launch} {G : GT} {μ : MemT} {t : Nat} (ht : t < 256) (hth : μ 18 7 = nI t) {x : Int32} {B : Bool} : sw_Met l G yX7_near cX7_near 3 (some .int) (rmk 5 122) [.ref (G.2.1 0), .int x, .int (bI B)] μ (fun v μ2 => v = some (.int (xNear t x B μ).1) ∧ μ2 = (xNear t x B μ).2) := by
  refine sw_Met.ofY (by decide) (Nat.le_of_ble_eq_true rfl) rfl ?_
  refine y_iload_n dX7_near_0 rfl rfl ?_
  refine y_iconst dX7_near_1 ic_1 ?_
  refine y_sipush dX7_near_2 is_999 ?_
  refine y_cS3 dX7_near_5 meX7_within wm_ml_X7_66 (kX7_within (A := 1) (B := 999) rfl rfl) ⟨Nat.le_of_ble_eq_true rfl, Nat.le_of_ble_eq_true rfl⟩ ⟨rfl, rfl⟩ (Nat.le_of_ble_eq_true rfl) (fun v5 μ5 hp5 => ?_)
  obtain ⟨rfl, he5⟩ := hp5
  replace he5 := he5.symm
  subst he5
  refine y_ri ?_
  refine y_ifb_ne 14 dX7_near_8 (by decide) (fun h8 => ?_) (fun h8 => ?_)
  · refine y_aload_n dX7_near_14 rfl rfl ?_
    refine y_getr dX7_near_15 5 clX7 kd_0 (by decide) wm_fl_X7_41 rfl rfl ?_
    refine y_aload_n dX7_near_18 rfl rfl ?_
    refine y_getr dX7_near_19 0 clX7 kd_0 (by decide) wm_fl_X7_10 rfl rfl ?_
    refine y_iload_n dX7_near_22 rfl rfl ?_
    refine y_iload_n dX7_near_23 rfl rfl ?_
    refine y_cV3 dX7_near_24 meX3_seatAll clX3 kd_6 wm_ml_X7_156 (kX3_seatAll ht hth) ⟨Nat.le_of_ble_eq_true rfl, Nat.le_of_ble_eq_true rfl⟩ ⟨rfl, rfl⟩ (Nat.le_of_ble_eq_true rfl) (fun v24 μ24 hp24 => ?_)
    obtain ⟨rfl, he24⟩ := hp24
    replace he24 := he24.symm
    subst he24
    refine y_rv ?_
    refine y_aload_n dX7_near_27 rfl rfl ?_
    refine y_getr dX7_near_28 5 clX7 kd_0 (by decide) wm_fl_X7_41 rfl rfl ?_
    refine y_geti dX7_near_31 7 clX3 kd_6 (by decide) wm_fl_X7_169 rfl rfl ?_
    refine y_iret dX7_near_34 ?_
    constructor <;> simp_all [xNear]
  · refine y_bipush dX7_near_11 ib_m2 ?_
    refine y_iret dX7_near_13 ?_
    constructor <;> simp_all [xNear]

set_option maxRecDepth 100000 in
set_option maxHeartbeats 4000000 in
theorem kX7_gap {l : Launch} {G : GT} {μ : MemT} {t : Nat} (ht : t < 256) (hth : μ 18 7 = nI t) {B : Bool} : sw_Met l G yX7_gap cX7_gap 2 (some .int) (rmk 5 122) [.ref (G.2.1 0), .int (bI B)] μ (fun v μ2 => v = some (.int (xGap t B μ).1) ∧ μ2 = (xGap t B μ).2) := by
  refine sw_Met.ofY (by decide) (Nat.le_of_ble_eq_true rfl) rfl ?_
  refine y_aload_n dX7_gap_0 rfl rfl ?_
  refine y_getr dX7_gap_1 5 clX7 kd_0 (by decide) wm_fl_X7_41 rfl rfl ?_
  refine y_aload_n dX7_gap_4 rfl rfl ?_
  refine y_getr dX7_gap_5 0 clX7 kd_0 (by decide) wm_fl_X7_10 rfl rfl ?_
  refine y_iload_n dX7_gap_8 rfl rfl ?_
  refine y_iconst dX7_gap_9 ic_1 ?_
  refine y_cV3 dX7_gap_10 meX3_seatAll clX3 kd_6 wm_ml_X7_156 (kX3_seatAll ht hth) ⟨Nat.le_of_ble_eq_true rfl, Nat.le_of_ble_eq_true rfl⟩ ⟨rfl, rfl⟩ (Nat.le_of_ble_eq_true rfl) (fun v10 μ10 hp10 => ?_)
  obtain ⟨rfl, he10⟩ := hp10
  replace he10 := he10.symm
  subst he10
  refine y_rv ?_
  refine y_aload_n dX7_gap_13 rfl rfl ?_
  refine y_getr dX7_gap_14 5 clX7 kd_0 (by decide) wm_fl_X7_41 rfl rfl ?_
  refine y_cV0 dX7_gap_17 meX3_leastUnmade clX3 kd_6 wm_ml_X7_172 (kX3_leastUnmade) ⟨Nat.le_of_ble_eq_true rfl, Nat.le_of_ble_eq_true rfl⟩ ⟨rfl, rfl⟩ (Nat.le_of_ble_eq_true rfl) (fun v17 μ17 hp17 => ?_)
  obtain ⟨rfl, he17⟩ := hp17
  replace he17 := he17.symm
  subst he17
  refine y_ri ?_
  refine y_iret dX7_gap_20 ?_
  exact ⟨rfl, rfl⟩

set_option maxRecDepth 100000 in
set_option maxHeartbeats 4000000 in
theorem kX7_forget {l : Launch} {G : GT} {μ : MemT}  : sw_Met l G yX7_forget cX7_forget 2 (some .int) (rmk 0 0) [.ref (G.2.1 0)] μ (fun v μ2 => v = some (.int (xForget μ).1) ∧ μ2 = (xForget μ).2) := by
  refine sw_Met.ofY (by decide) (Nat.le_of_ble_eq_true rfl) rfl ?_
  refine y_aload_n dX7_forget_0 rfl rfl ?_
  refine y_getr dX7_forget_1 0 clX7 kd_0 (by decide) wm_fl_X7_10 rfl rfl ?_
  refine y_geti dX7_forget_4 11 clX4 kd_18 (by decide) wm_fl_X7_203 rfl rfl ?_
  refine y_istore_n dX7_forget_7 rfl rfl (by decide) ?_
  refine y_aload_n dX7_forget_8 rfl rfl ?_
  refine y_getr dX7_forget_9 0 clX7 kd_0 (by decide) wm_fl_X7_10 rfl rfl ?_
  refine y_iconst dX7_forget_12 ic_0 ?_
  refine y_puti dX7_forget_13 11 clX4 kd_18 (by decide) wm_fl_X7_203 rfl rfl rfl rfl (tyX4_ok 11 (by decide)) rfl rfl ?_
  refine y_iload_n dX7_forget_16 rfl rfl ?_
  refine y_iret dX7_forget_17 ?_
  exact ⟨rfl, rfl⟩

set_option maxRecDepth 100000 in
set_option maxHeartbeats 4000000 in
theorem kX7_marry {l : Launch} {G : GT} {μ : MemT} {x y : Int32} {B : Bool} : sw_Met l G yX7_marry cX7_marry 4 (some .int) (rmk 2 44) [.ref (G.2.1 0), .int x, .int y, .int (bI B)] μ (fun v μ2 => v = some (.int (xMarry x y B μ).1) ∧ μ2 = (xMarry x y B μ).2) := by
  refine sw_Met.ofY (by decide) (Nat.le_of_ble_eq_true rfl) rfl ?_
  refine y_aload_n dX7_marry_0 rfl rfl ?_
  refine y_getr dX7_marry_1 0 clX7 kd_0 (by decide) wm_fl_X7_10 rfl rfl ?_
  refine y_iload_n dX7_marry_4 rfl rfl ?_
  refine y_iload_n dX7_marry_5 rfl rfl ?_
  refine y_cV2 dX7_marry_6 meX4_hasTwo clX4 kd_18 wm_ml_X7_86 (kX4_hasTwo tw18) ⟨Nat.le_of_ble_eq_true rfl, Nat.le_of_ble_eq_true rfl⟩ ⟨rfl, rfl⟩ (Nat.le_of_ble_eq_true rfl) (fun v6 μ6 hp6 => ?_)
  obtain ⟨rfl, he6⟩ := hp6
  replace he6 := he6.symm
  subst he6
  refine y_ri ?_
  refine y_ifb_ne 14 dX7_marry_9 (by decide) (fun h9 => ?_) (fun h9 => ?_)
  · simp only [Bool.and_eq_true, Bool.not_eq_true', decide_eq_false_iff_not] at h9
    obtain ⟨⟨hx1, hx2⟩, hx3⟩ := h9
    obtain ⟨p, hp8, rfl, hpb⟩ := isP_ex hx1
    obtain ⟨q, hq8, rfl, hqb⟩ := isP_ex hx2
    refine y_iload_n dX7_marry_14 rfl rfl ?_
    refine y_ifb_eq 33 dX7_marry_15 (by decide) (fun h15 => ?_) (fun h15 => ?_)
    · refine y_aload_n dX7_marry_33 rfl rfl ?_
      refine y_getr dX7_marry_34 0 clX7 kd_0 (by decide) wm_fl_X7_10 rfl rfl ?_
      refine y_iload_n dX7_marry_37 rfl rfl ?_
      refine y_iload_n dX7_marry_38 rfl rfl ?_
      refine y_cV2 dX7_marry_39 meX4_areMarried clX4 kd_18 wm_ml_X7_93 (kX4_areMarried tw18 hp8) ⟨Nat.le_of_ble_eq_true rfl, Nat.le_of_ble_eq_true rfl⟩ ⟨rfl, rfl⟩ (Nat.le_of_ble_eq_true rfl) (fun v39 μ39 hp39 => ?_)
      obtain ⟨rfl, he39⟩ := hp39
      replace he39 := he39.symm
      subst he39
      refine y_ri ?_
      refine y_ifb_ne 48 dX7_marry_42 (by decide) (fun h42 => ?_) (fun h42 => ?_)
      · refine y_iload_n dX7_marry_48 rfl rfl ?_
        refine y_ifb_eq 64 dX7_marry_49 (by decide) (fun _ => ?_) (fun hq => absurd (h15.symm.trans hq) (by decide))
        refine y_aload_n dX7_marry_64 rfl rfl ?_
        refine y_getr dX7_marry_65 0 clX7 kd_0 (by decide) wm_fl_X7_10 rfl rfl ?_
        refine y_iload_n dX7_marry_68 rfl rfl ?_
        refine y_cV1 dX7_marry_69 meX4_part clX4 kd_18 wm_ml_X7_100 (kX4_part tw18 hp8) ⟨Nat.le_of_ble_eq_true rfl, Nat.le_of_ble_eq_true rfl⟩ ⟨rfl, rfl⟩ (Nat.le_of_ble_eq_true rfl) (fun v69 μ69 hp69 => ?_)
        obtain ⟨rfl, he69⟩ := hp69
        replace he69 := he69.symm
        subst he69
        refine y_rv ?_
        refine y_aload_n dX7_marry_72 rfl rfl ?_
        refine y_getr dX7_marry_73 0 clX7 kd_0 (by decide) wm_fl_X7_10 rfl rfl ?_
        refine y_cV0 dX7_marry_76 meX4_marriages clX4 kd_18 wm_ml_X7_103 (kX4_marriages tw18) ⟨Nat.le_of_ble_eq_true rfl, Nat.le_of_ble_eq_true rfl⟩ ⟨rfl, rfl⟩ (Nat.le_of_ble_eq_true rfl) (fun v76 μ76 hp76 => ?_)
        obtain ⟨rfl, he76⟩ := hp76
        replace he76 := he76.symm
        subst he76
        refine y_ri ?_
        refine y_iret dX7_marry_79 ?_
        constructor <;> simp_all [xMarry, cl_8, isP_n]
      · refine y_bipush dX7_marry_45 ib_m3 ?_
        refine y_iret dX7_marry_47 ?_
        constructor <;> simp_all [xMarry, cl_8, isP_n]
    · refine y_aload_n dX7_marry_18 rfl rfl ?_
      refine y_getr dX7_marry_19 0 clX7 kd_0 (by decide) wm_fl_X7_10 rfl rfl ?_
      refine y_iload_n dX7_marry_22 rfl rfl ?_
      refine y_iload_n dX7_marry_23 rfl rfl ?_
      refine y_cV2 dX7_marry_24 meX4_mayMarry clX4 kd_18 wm_ml_X7_90 (kX4_mayMarry tw18 hp8 hq8) ⟨Nat.le_of_ble_eq_true rfl, Nat.le_of_ble_eq_true rfl⟩ ⟨rfl, rfl⟩ (Nat.le_of_ble_eq_true rfl) (fun v24 μ24 hp24 => ?_)
      obtain ⟨rfl, he24⟩ := hp24
      replace he24 := he24.symm
      subst he24
      refine y_ri ?_
      refine y_ifb_ne 48 dX7_marry_27 (by decide) (fun h27 => ?_) (fun h27 => ?_)
      · refine y_iload_n dX7_marry_48 rfl rfl ?_
        refine y_ifb_eq 64 dX7_marry_49 (by decide) (fun hq => absurd (h15.symm.trans hq) (by decide)) (fun _ => ?_)
        refine y_aload_n dX7_marry_52 rfl rfl ?_
        refine y_getr dX7_marry_53 0 clX7 kd_0 (by decide) wm_fl_X7_10 rfl rfl ?_
        refine y_iload_n dX7_marry_56 rfl rfl ?_
        refine y_iload_n dX7_marry_57 rfl rfl ?_
        refine y_cV2 dX7_marry_58 meX4_join clX4 kd_18 wm_ml_X7_96 (kX4_join tw18 hp8 hq8) ⟨Nat.le_of_ble_eq_true rfl, Nat.le_of_ble_eq_true rfl⟩ ⟨rfl, rfl⟩ (Nat.le_of_ble_eq_true rfl) (fun v58 μ58 hp58 => ?_)
        obtain ⟨rfl, he58⟩ := hp58
        replace he58 := he58.symm
        subst he58
        refine y_rv ?_
        refine y_goto 72 dX7_marry_61 (by decide) ?_
        refine y_aload_n dX7_marry_72 rfl rfl ?_
        refine y_getr dX7_marry_73 0 clX7 kd_0 (by decide) wm_fl_X7_10 rfl rfl ?_
        refine y_cV0 dX7_marry_76 meX4_marriages clX4 kd_18 wm_ml_X7_103 (kX4_marriages tw18) ⟨Nat.le_of_ble_eq_true rfl, Nat.le_of_ble_eq_true rfl⟩ ⟨rfl, rfl⟩ (Nat.le_of_ble_eq_true rfl) (fun v76 μ76 hp76 => ?_)
        obtain ⟨rfl, he76⟩ := hp76
        replace he76 := he76.symm
        subst he76
        refine y_ri ?_
        refine y_iret dX7_marry_79 ?_
        constructor <;> simp_all [xMarry, cl_8, isP_n]
      · refine y_goto 45 dX7_marry_30 (by decide) ?_
        refine y_bipush dX7_marry_45 ib_m3 ?_
        refine y_iret dX7_marry_47 ?_
        constructor <;> simp_all [xMarry, cl_8, isP_n]
  · refine y_iconst dX7_marry_12 ic_m1 ?_
    refine y_iret dX7_marry_13 ?_
    exact ⟨by rw [xMarry, if_pos h9], by rw [xMarry, if_pos h9]⟩

set_option maxRecDepth 100000 in
set_option maxHeartbeats 4000000 in
theorem kX7_behind {l : Launch} {G : GT} {μ : MemT} {c : Nat} (hc60 : c ≤ 60) (hc : μ 3 1 = nI c) {x w : Int32} : sw_Met l G yX7_behind cX7_behind 5 (some .int) (rmk 6 132) [.ref (G.2.1 0), .int x, .int w] μ (fun v μ2 => v = some (.int (xBehind c x w μ).1) ∧ μ2 = (xBehind c x w μ).2) := by
  refine sw_Met.ofY (by decide) (Nat.le_of_ble_eq_true rfl) rfl ?_
  refine y_aload_n dX7_behind_0 rfl rfl ?_
  refine y_getr dX7_behind_1 0 clX7 kd_0 (by decide) wm_fl_X7_10 rfl rfl ?_
  refine y_iload_n dX7_behind_4 rfl rfl ?_
  refine y_cV1 dX7_behind_5 meX4_has clX4 kd_18 wm_ml_X7_78 (kX4_has tw18) ⟨Nat.le_of_ble_eq_true rfl, Nat.le_of_ble_eq_true rfl⟩ ⟨rfl, rfl⟩ (Nat.le_of_ble_eq_true rfl) (fun v5 μ5 hp5 => ?_)
  obtain ⟨rfl, he5⟩ := hp5
  replace he5 := he5.symm
  subst he5
  refine y_ri ?_
  refine y_ifb_ne 13 dX7_behind_8 (by decide) (fun h8 => ?_) (fun h8 => ?_)
  · obtain ⟨p, hp8, rfl, hpb⟩ := isP_ex h8
    refine y_iload_n dX7_behind_13 rfl rfl ?_
    refine y_iconst dX7_behind_14 ic_0 ?_
    refine y_iconst dX7_behind_15 ic_2 ?_
    refine y_cS3 dX7_behind_16 meX7_within wm_ml_X7_66 (kX7_within (A := 0) (B := 2) rfl rfl) ⟨Nat.le_of_ble_eq_true rfl, Nat.le_of_ble_eq_true rfl⟩ ⟨rfl, rfl⟩ (Nat.le_of_ble_eq_true rfl) (fun v16 μ16 hp16 => ?_)
    obtain ⟨rfl, he16⟩ := hp16
    replace he16 := he16.symm
    subst he16
    refine y_ri ?_
    refine y_ifb_ne 25 dX7_behind_19 (by decide) (fun h19 => ?_) (fun h19 => ?_)
    · refine y_aload_n dX7_behind_25 rfl rfl ?_
      refine y_cV0 dX7_behind_26 meX7_holdMarket clX7 kd_0 wm_ml_X7_119 (kX7_holdMarket hc60 hc) ⟨Nat.le_of_ble_eq_true rfl, Nat.le_of_ble_eq_true rfl⟩ ⟨rfl, rfl⟩ (Nat.le_of_ble_eq_true rfl) (fun v26 μ26 hp26 => ?_)
      obtain ⟨rfl, he26⟩ := hp26
      replace he26 := he26.symm
      subst he26
      refine y_ri ?_
      refine y_istore_n dX7_behind_29 rfl rfl (by decide) ?_
      refine y_iload_n dX7_behind_30 rfl rfl ?_
      refine y_if_eq 36 dX7_behind_31 (by decide) (fun h31 => ?_) (fun h31 => ?_)
      · refine y_aload_n dX7_behind_36 rfl rfl ?_
        refine y_getr dX7_behind_37 4 clX7 kd_0 (by decide) wm_fl_X7_34 rfl rfl ?_
        refine y_getr dX7_behind_40 0 clX1 kd_5 (by decide) wm_fl_X7_126 rfl rfl ?_
        refine y_astore dX7_behind_43 rfl (by decide) ?_
        refine y_iload_n dX7_behind_45 rfl rfl ?_
        refine y_if_ne 58 dX7_behind_46 (by decide) (fun h46 => ?_) (fun h46 => ?_)
        · refine y_iload_n dX7_behind_58 rfl rfl ?_
          refine y_iconst dX7_behind_59 ic_1 ?_
          refine y_icmp_ne 73 dX7_behind_60 (by decide) (fun h60 => ?_) (fun h60 => ?_)
          · refine y_aload dX7_behind_73 rfl ?_
            refine y_geti dX7_behind_75 10 clX4 kd_42 (by decide) wm_fl_X7_136 rfl rfl ?_
            refine y_iret dX7_behind_78 ?_
            constructor <;> simp_all [xBehind, cl_8, isP_n]
          · refine y_aload dX7_behind_63 rfl ?_
            refine y_getr dX7_behind_65 1 clX4 kd_42 (by decide) wm_fl_X7_132 rfl rfl ?_
            refine y_iload_n dX7_behind_68 rfl rfl ?_
            refine y_iald dX7_behind_69 p kd_44 rfl (by first | assumption | decide | omega) (by decide) ?_
            refine y_goto 78 dX7_behind_70 (by decide) ?_
            refine y_iret dX7_behind_78 ?_
            constructor <;> simp_all [xBehind, cl_8, isP_n]
        · refine y_aload dX7_behind_49 rfl ?_
          refine y_iload_n dX7_behind_51 rfl rfl ?_
          refine y_cV1 dX7_behind_52 meX4_poundsOf clX4 kd_42 wm_ml_X7_129 (kX4_poundsOf tw42 hp8) ⟨Nat.le_of_ble_eq_true rfl, Nat.le_of_ble_eq_true rfl⟩ ⟨rfl, rfl⟩ (Nat.le_of_ble_eq_true rfl) (fun v52 μ52 hp52 => ?_)
          obtain ⟨rfl, he52⟩ := hp52
          replace he52 := he52.symm
          subst he52
          refine y_ri ?_
          refine y_goto 78 dX7_behind_55 (by decide) ?_
          refine y_iret dX7_behind_78 ?_
          constructor <;> simp_all [xBehind, cl_8, isP_n]
      · refine y_iload_n dX7_behind_34 rfl rfl ?_
        refine y_iret dX7_behind_35 ?_
        constructor <;> simp_all [xBehind, cl_8, isP_n]
    · refine y_bipush dX7_behind_22 ib_m2 ?_
      refine y_iret dX7_behind_24 ?_
      constructor <;> simp_all [xBehind, cl_8, isP_n]
  · refine y_iconst dX7_behind_11 ic_m1 ?_
    refine y_iret dX7_behind_12 ?_
    constructor <;> simp_all [xBehind, cl_8, isP_n]

set_option maxRecDepth 100000 in
set_option maxHeartbeats 4000000 in
theorem kX7_price {l : Launch} {G : GT} {μ : MemT} {t : Nat} (ht : t < 256) (hth : μ 18 7 = nI t) {g s w : Int32} : sw_Met l G yX7_price cX7_price 4 (some .int) (rmk 4 100) [.ref (G.2.1 0), .int g, .int s, .int w] μ (fun v μ2 => v = some (.int (xPrice t g s w μ).1) ∧ μ2 = (xPrice t g s w μ).2) := by
  refine sw_Met.ofY (by decide) (Nat.le_of_ble_eq_true rfl) rfl ?_
  refine y_aload_n dX7_price_0 rfl rfl ?_
  refine y_getr dX7_price_1 0 clX7 kd_0 (by decide) wm_fl_X7_10 rfl rfl ?_
  refine y_iload_n dX7_price_4 rfl rfl ?_
  refine y_cV1 dX7_price_5 meX4_hasAll clX4 kd_18 wm_ml_X7_181 (kX4_hasAll tw18) ⟨Nat.le_of_ble_eq_true rfl, Nat.le_of_ble_eq_true rfl⟩ ⟨rfl, rfl⟩ (Nat.le_of_ble_eq_true rfl) (fun v5 μ5 hp5 => ?_)
  obtain ⟨rfl, he5⟩ := hp5
  replace he5 := he5.symm
  subst he5
  refine y_ri ?_
  refine y_ifb_ne 13 dX7_price_8 (by decide) (fun h8 => ?_) (fun h8 => ?_)
  · refine y_iload_n dX7_price_13 rfl rfl ?_
    refine y_iconst dX7_price_14 ic_1 ?_
    refine y_sipush dX7_price_15 is_999 ?_
    refine y_cS3 dX7_price_18 meX7_within wm_ml_X7_66 (kX7_within (A := 1) (B := 999) rfl rfl) ⟨Nat.le_of_ble_eq_true rfl, Nat.le_of_ble_eq_true rfl⟩ ⟨rfl, rfl⟩ (Nat.le_of_ble_eq_true rfl) (fun v18 μ18 hp18 => ?_)
    obtain ⟨rfl, he18⟩ := hp18
    replace he18 := he18.symm
    subst he18
    refine y_ri ?_
    refine y_ifb_eq 33 dX7_price_21 (by decide) (fun h21 => ?_) (fun h21 => ?_)
    · refine y_bipush dX7_price_33 ib_m2 ?_
      refine y_iret dX7_price_35 ?_
      constructor <;> simp_all [xPrice]
    · refine y_iload_n dX7_price_24 rfl rfl ?_
      refine y_iconst dX7_price_25 ic_0 ?_
      refine y_iconst dX7_price_26 ic_1 ?_
      refine y_cS3 dX7_price_27 meX7_within wm_ml_X7_66 (kX7_within (A := 0) (B := 1) rfl rfl) ⟨Nat.le_of_ble_eq_true rfl, Nat.le_of_ble_eq_true rfl⟩ ⟨rfl, rfl⟩ (Nat.le_of_ble_eq_true rfl) (fun v27 μ27 hp27 => ?_)
      obtain ⟨rfl, he27⟩ := hp27
      replace he27 := he27.symm
      subst he27
      refine y_ri ?_
      refine y_ifb_ne 36 dX7_price_30 (by decide) (fun h30 => ?_) (fun h30 => ?_)
      · refine y_aload_n dX7_price_36 rfl rfl ?_
        refine y_getr dX7_price_37 0 clX7 kd_0 (by decide) wm_fl_X7_10 rfl rfl ?_
        refine y_iload_n dX7_price_40 rfl rfl ?_
        refine y_cV1 dX7_price_41 meX4_together clX4 kd_18 wm_ml_X7_184 (kX4_together tw18) ⟨Nat.le_of_ble_eq_true rfl, Nat.le_of_ble_eq_true rfl⟩ ⟨rfl, rfl⟩ (Nat.le_of_ble_eq_true rfl) (fun v41 μ41 hp41 => ?_)
        obtain ⟨rfl, he41⟩ := hp41
        replace he41 := he41.symm
        subst he41
        refine y_ri ?_
        refine y_ifb_ne 50 dX7_price_44 (by decide) (fun h44 => ?_) (fun h44 => ?_)
        · have h8b := h8
          rw [hth] at h8b
          obtain ⟨q, hq, rfl, hqs⟩ := subI_ex ht h8b
          refine y_aload_n dX7_price_50 rfl rfl ?_
          refine y_getr dX7_price_51 5 clX7 kd_0 (by decide) wm_fl_X7_41 rfl rfl ?_
          refine y_aload_n dX7_price_54 rfl rfl ?_
          refine y_getr dX7_price_55 0 clX7 kd_0 (by decide) wm_fl_X7_10 rfl rfl ?_
          refine y_iload_n dX7_price_58 rfl rfl ?_
          refine y_iload_n dX7_price_59 rfl rfl ?_
          refine y_cV3 dX7_price_60 meX3_sellDearest clX3 kd_6 wm_ml_X7_187 (kX3_sellDearest ht hth hq) ⟨Nat.le_of_ble_eq_true rfl, Nat.le_of_ble_eq_true rfl⟩ ⟨rfl, rfl⟩ (Nat.le_of_ble_eq_true rfl) (fun v60 μ60 hp60 => ?_)
          obtain ⟨rfl, he60⟩ := hp60
          replace he60 := he60.symm
          subst he60
          refine y_rv ?_
          refine y_iload_n dX7_price_63 rfl rfl ?_
          refine y_if_ne 77 dX7_price_64 (by decide) (fun h64 => ?_) (fun h64 => ?_)
          · refine y_aload_n dX7_price_77 rfl rfl ?_
            refine y_getr dX7_price_78 5 clX7 kd_0 (by decide) wm_fl_X7_41 rfl rfl ?_
            refine y_geti dX7_price_81 9 clX3 kd_6 (by decide) wm_fl_X7_194 rfl rfl ?_
            refine y_iret dX7_price_84 ?_
            have hcl : cl (nI q) = q := cl_n (by omega)
            constructor <;> simp_all [xPrice, sdM]
          · refine y_aload_n dX7_price_67 rfl rfl ?_
            refine y_getr dX7_price_68 5 clX7 kd_0 (by decide) wm_fl_X7_41 rfl rfl ?_
            refine y_geti dX7_price_71 8 clX3 kd_6 (by decide) wm_fl_X7_191 rfl rfl ?_
            refine y_goto 84 dX7_price_74 (by decide) ?_
            refine y_iret dX7_price_84 ?_
            have hcl : cl (nI q) = q := cl_n (by omega)
            constructor <;> simp_all [xPrice, sdM]
        · refine y_bipush dX7_price_47 ib_m3 ?_
          refine y_iret dX7_price_49 ?_
          constructor <;> simp_all [xPrice]
      · refine y_bipush dX7_price_33 ib_m2 ?_
        refine y_iret dX7_price_35 ?_
        constructor <;> simp_all [xPrice]
  · refine y_iconst dX7_price_11 ic_m1 ?_
    refine y_iret dX7_price_12 ?_
    constructor <;> simp_all [xPrice]

set_option maxRecDepth 100000 in
set_option maxHeartbeats 4000000 in
theorem kX7_seen {l : Launch} {G : GT} {μ : MemT} {x y h : Int32} {k : Nat} (hk : k ≤ 8) (hs : μ 18 11 = nI k) : sw_Met l G yX7_seen cX7_seen 4 (some .int) (rmk 2 43) [.ref (G.2.1 0), .int x, .int y, .int h] μ (fun v μ2 => v = some (.int (xSeen k x y h μ).1) ∧ μ2 = (xSeen k x y h μ).2) := by
  refine sw_Met.ofY (by decide) (Nat.le_of_ble_eq_true rfl) rfl ?_
  refine y_aload_n dX7_seen_0 rfl rfl ?_
  refine y_getr dX7_seen_1 0 clX7 kd_0 (by decide) wm_fl_X7_10 rfl rfl ?_
  refine y_iload_n dX7_seen_4 rfl rfl ?_
  refine y_iload_n dX7_seen_5 rfl rfl ?_
  refine y_cV2 dX7_seen_6 meX4_mayBeWeighed clX4 kd_18 wm_ml_X7_197 (kX4_mayBeWeighed tw18) ⟨Nat.le_of_ble_eq_true rfl, Nat.le_of_ble_eq_true rfl⟩ ⟨rfl, rfl⟩ (Nat.le_of_ble_eq_true rfl) (fun v6 μ6 hp6 => ?_)
  obtain ⟨rfl, he6⟩ := hp6
  replace he6 := he6.symm
  subst he6
  refine y_ri ?_
  refine y_ifb_ne 14 dX7_seen_9 (by decide) (fun h9 => ?_) (fun h9 => ?_)
  · refine y_iload_n dX7_seen_14 rfl rfl ?_
    refine y_iconst dX7_seen_15 ic_0 ?_
    refine y_iconst dX7_seen_16 ic_2 ?_
    refine y_cS3 dX7_seen_17 meX7_within wm_ml_X7_66 (kX7_within (A := 0) (B := 2) rfl rfl) ⟨Nat.le_of_ble_eq_true rfl, Nat.le_of_ble_eq_true rfl⟩ ⟨rfl, rfl⟩ (Nat.le_of_ble_eq_true rfl) (fun v17 μ17 hp17 => ?_)
    obtain ⟨rfl, he17⟩ := hp17
    replace he17 := he17.symm
    subst he17
    refine y_ri ?_
    refine y_ifb_ne 26 dX7_seen_20 (by decide) (fun h20 => ?_) (fun h20 => ?_)
    · refine y_aload_n dX7_seen_26 rfl rfl ?_
      refine y_getr dX7_seen_27 0 clX7 kd_0 (by decide) wm_fl_X7_10 rfl rfl ?_
      refine y_iload_n dX7_seen_30 rfl rfl ?_
      refine y_iload_n dX7_seen_31 rfl rfl ?_
      refine y_iload_n dX7_seen_32 rfl rfl ?_
      refine y_cV3 dX7_seen_33 meX4_addSight clX4 kd_18 wm_ml_X7_200 (kX4_addSight tw18 hk hs) ⟨Nat.le_of_ble_eq_true rfl, Nat.le_of_ble_eq_true rfl⟩ ⟨rfl, rfl⟩ (Nat.le_of_ble_eq_true rfl) (fun v33 μ33 hp33 => ?_)
      obtain ⟨rfl, he33⟩ := hp33
      replace he33 := he33.symm
      subst he33
      refine y_ri ?_
      refine y_ifb_eq 49 dX7_seen_36 (by decide) (fun h36 => ?_) (fun h36 => ?_)
      · refine y_bipush dX7_seen_49 ib_m4 ?_
        refine y_iret dX7_seen_51 ?_
        constructor <;> simp_all [-Nat.not_lt, xSeen, twSee, mset, upd]
      · refine y_aload_n dX7_seen_39 rfl rfl ?_
        refine y_getr dX7_seen_40 0 clX7 kd_0 (by decide) wm_fl_X7_10 rfl rfl ?_
        refine y_geti dX7_seen_43 11 clX4 kd_18 (by decide) wm_fl_X7_203 rfl rfl ?_
        refine y_goto 51 dX7_seen_46 (by decide) ?_
        refine y_iret dX7_seen_51 ?_
        constructor <;> simp_all [-Nat.not_lt, xSeen, twSee, mset, upd]
    · refine y_bipush dX7_seen_23 ib_m2 ?_
      refine y_iret dX7_seen_25 ?_
      constructor <;> simp_all [-Nat.not_lt, xSeen, twSee, mset, upd]
  · refine y_iconst dX7_seen_12 ic_m1 ?_
    refine y_iret dX7_seen_13 ?_
    constructor <;> simp_all [-Nat.not_lt, xSeen, twSee, mset, upd]

theorem wAll_le (k : Nat) (t : Int32) (sw sf ss sh l : Nat → Int32) {w : WsT} (h : w.2.2 ≤ 145) : (wAll k t sw sf ss sh l w).2.2 ≤ 145 := by
  have key : ∀ (n j : Nat) {w : WsT}, w.2.2 ≤ 145 → (itr (fun p w => if bt t p then wOf k sf ss sh l (nI p) (sw p) w else w) n j w).2.2 ≤ 145 := by
    intro n
    induction n with
    | zero => intro j w h; exact h
    | succ n ih =>
      intro j w h
      rw [itr_S]
      refine ih (j + 1) ?_
      split
      · exact wOf_le 19 0 h
      · exact h
  exact key 8 0 (wAdd_le h)
theorem wsX_le (k : Nat) (μ : MemT) : (wsX k μ).2.2 ≤ 145 := wAll_le k _ _ _ _ _ _ (Nat.zero_le _)
theorem find_4 (k : Nat) (μ : MemT) : findM k μ 11 4 = nI (wsX k μ).2.2 := wPut_4 _ _
theorem find_12 (k : Nat) (μ : MemT) : findM k μ 12 = (wsX k μ).1 := wPut_12 _ _
theorem find_13 (k : Nat) (μ : MemT) : findM k μ 13 = (wsX k μ).2.1 := wPut_13 _ _

set_option maxRecDepth 100000 in
set_option maxHeartbeats 4000000 in
theorem kX7_airs {l : Launch} {G : GT} {μ : MemT} {k : Nat} (hk : k ≤ 8) (hs : μ 18 11 = nI k) {w : Int32} : sw_Met l G yX7_airs cX7_airs 2 (some .int) (rmk 5 114) [.ref (G.2.1 0), .int w] μ (fun v μ2 => v = some (.int (xAirs k w μ).1) ∧ μ2 = (xAirs k w μ).2) := by
  refine sw_Met.ofY (by decide) (Nat.le_of_ble_eq_true rfl) rfl ?_
  refine y_iload_n dX7_airs_0 rfl rfl ?_
  refine y_iconst dX7_airs_1 ic_0 ?_
  refine y_iconst dX7_airs_2 ic_1 ?_
  refine y_cS3 dX7_airs_3 meX7_within wm_ml_X7_66 (kX7_within (A := 0) (B := 1) rfl rfl) ⟨Nat.le_of_ble_eq_true rfl, Nat.le_of_ble_eq_true rfl⟩ ⟨rfl, rfl⟩ (Nat.le_of_ble_eq_true rfl) (fun v3 μ3 hp3 => ?_)
  obtain ⟨rfl, he3⟩ := hp3
  replace he3 := he3.symm
  subst he3
  refine y_ri ?_
  refine y_ifb_ne 12 dX7_airs_6 (by decide) (fun h6 => ?_) (fun h6 => ?_)
  · refine y_aload_n dX7_airs_12 rfl rfl ?_
    refine y_getr dX7_airs_13 6 clX7 kd_0 (by decide) wm_fl_X7_48 rfl rfl ?_
    refine y_aload_n dX7_airs_16 rfl rfl ?_
    refine y_getr dX7_airs_17 0 clX7 kd_0 (by decide) wm_fl_X7_10 rfl rfl ?_
    refine y_cV1 dX7_airs_20 meX5_find clX5 kd_11 wm_ml_X7_206 (kX5_find hk hs) ⟨Nat.le_of_ble_eq_true rfl, Nat.le_of_ble_eq_true rfl⟩ ⟨rfl, rfl⟩ (Nat.le_of_ble_eq_true rfl) (fun v20 μ20 hp20 => ?_)
    obtain ⟨rfl, he20⟩ := hp20
    replace he20 := he20.symm
    subst he20
    refine y_rv ?_
    refine y_iload_n dX7_airs_23 rfl rfl ?_
    refine y_if_ne 37 dX7_airs_24 (by decide) (fun h24 => ?_) (fun h24 => ?_)
    · refine y_aload_n dX7_airs_37 rfl rfl ?_
      refine y_getr dX7_airs_38 6 clX7 kd_0 (by decide) wm_fl_X7_48 rfl rfl ?_
      refine y_cV0 dX7_airs_41 meX5_suspects clX5 kd_11 wm_ml_X7_210 (kX5_suspects (wsX_le k μ) (find_4 k μ)) ⟨Nat.le_of_ble_eq_true rfl, Nat.le_of_ble_eq_true rfl⟩ ⟨rfl, rfl⟩ (Nat.le_of_ble_eq_true rfl) (fun v41 μ41 hp41 => ?_)
      obtain ⟨rfl, he41⟩ := hp41
      replace he41 := he41.symm
      subst he41
      refine y_ri ?_
      refine y_iret dX7_airs_44 ?_
      constructor <;> simp_all [xAirs, find_4, find_12]
    · refine y_aload_n dX7_airs_27 rfl rfl ?_
      refine y_getr dX7_airs_28 6 clX7 kd_0 (by decide) wm_fl_X7_48 rfl rfl ?_
      refine y_geti dX7_airs_31 4 clX5 kd_11 (by decide) wm_fl_X7_209 rfl rfl ?_
      refine y_goto 44 dX7_airs_34 (by decide) ?_
      refine y_iret dX7_airs_44 ?_
      constructor <;> simp_all [xAirs, find_4, find_12]
  · refine y_bipush dX7_airs_9 ib_m2 ?_
    refine y_iret dX7_airs_11 ?_
    constructor <;> simp_all [xAirs, find_4, find_12]

set_option maxRecDepth 100000 in
set_option maxHeartbeats 4000000 in
theorem kX7_air {l : Launch} {G : GT} {μ : MemT} {k : Nat} (hk : k ≤ 8) (hs : μ 18 11 = nI k) {x : Int32} : sw_Met l G yX7_air cX7_air 2 (some .int) (rmk 5 114) [.ref (G.2.1 0), .int x] μ (fun v μ2 => v = some (.int (xAir k x μ).1) ∧ μ2 = (xAir k x μ).2) := by
  refine sw_Met.ofY (by decide) (Nat.le_of_ble_eq_true rfl) rfl ?_
  refine y_aload_n dX7_air_0 rfl rfl ?_
  refine y_getr dX7_air_1 0 clX7 kd_0 (by decide) wm_fl_X7_10 rfl rfl ?_
  refine y_iload_n dX7_air_4 rfl rfl ?_
  refine y_cV1 dX7_air_5 meX4_has clX4 kd_18 wm_ml_X7_78 (kX4_has tw18) ⟨Nat.le_of_ble_eq_true rfl, Nat.le_of_ble_eq_true rfl⟩ ⟨rfl, rfl⟩ (Nat.le_of_ble_eq_true rfl) (fun v5 μ5 hp5 => ?_)
  obtain ⟨rfl, he5⟩ := hp5
  replace he5 := he5.symm
  subst he5
  refine y_ri ?_
  refine y_ifb_ne 13 dX7_air_8 (by decide) (fun h8 => ?_) (fun h8 => ?_)
  · refine y_aload_n dX7_air_13 rfl rfl ?_
    refine y_getr dX7_air_14 6 clX7 kd_0 (by decide) wm_fl_X7_48 rfl rfl ?_
    refine y_aload_n dX7_air_17 rfl rfl ?_
    refine y_getr dX7_air_18 0 clX7 kd_0 (by decide) wm_fl_X7_10 rfl rfl ?_
    refine y_cV1 dX7_air_21 meX5_find clX5 kd_11 wm_ml_X7_206 (kX5_find hk hs) ⟨Nat.le_of_ble_eq_true rfl, Nat.le_of_ble_eq_true rfl⟩ ⟨rfl, rfl⟩ (Nat.le_of_ble_eq_true rfl) (fun v21 μ21 hp21 => ?_)
    obtain ⟨rfl, he21⟩ := hp21
    replace he21 := he21.symm
    subst he21
    refine y_rv ?_
    refine y_aload_n dX7_air_24 rfl rfl ?_
    refine y_getr dX7_air_25 6 clX7 kd_0 (by decide) wm_fl_X7_48 rfl rfl ?_
    refine y_iload_n dX7_air_28 rfl rfl ?_
    refine y_cV1 dX7_air_29 meX5_leastMore clX5 kd_11 wm_ml_X7_213 (kX5_leastMore (wsX_le k μ) (find_4 k μ)) ⟨Nat.le_of_ble_eq_true rfl, Nat.le_of_ble_eq_true rfl⟩ ⟨rfl, rfl⟩ (Nat.le_of_ble_eq_true rfl) (fun v29 μ29 hp29 => ?_)
    obtain ⟨rfl, he29⟩ := hp29
    replace he29 := he29.symm
    subst he29
    refine y_ri ?_
    refine y_iret dX7_air_32 ?_
    constructor <;> simp_all [xAir, find_12, find_13]
  · refine y_iconst dX7_air_11 ic_m1 ?_
    refine y_iret dX7_air_12 ?_
    constructor <;> simp_all [xAir, find_12, find_13]

set_option maxRecDepth 100000 in
set_option maxHeartbeats 4000000 in
theorem kX7_cross {l : Launch} {G : GT} {μ : MemT} {k : Nat} (hk : k ≤ 8) (hs : μ 18 11 = nI k) {w : Int32} : sw_Met l G yX7_cross cX7_cross 2 (some .int) (rmk 5 114) [.ref (G.2.1 0), .int w] μ (fun v μ2 => v = some (.int (xCross k w μ).1) ∧ μ2 = (xCross k w μ).2) := by
  refine sw_Met.ofY (by decide) (Nat.le_of_ble_eq_true rfl) rfl ?_
  refine y_iload_n dX7_cross_0 rfl rfl ?_
  refine y_iconst dX7_cross_1 ic_0 ?_
  refine y_iconst dX7_cross_2 ic_1 ?_
  refine y_cS3 dX7_cross_3 meX7_within wm_ml_X7_66 (kX7_within (A := 0) (B := 1) rfl rfl) ⟨Nat.le_of_ble_eq_true rfl, Nat.le_of_ble_eq_true rfl⟩ ⟨rfl, rfl⟩ (Nat.le_of_ble_eq_true rfl) (fun v3 μ3 hp3 => ?_)
  obtain ⟨rfl, he3⟩ := hp3
  replace he3 := he3.symm
  subst he3
  refine y_ri ?_
  refine y_ifb_ne 12 dX7_cross_6 (by decide) (fun h6 => ?_) (fun h6 => ?_)
  · refine y_aload_n dX7_cross_12 rfl rfl ?_
    refine y_getr dX7_cross_13 6 clX7 kd_0 (by decide) wm_fl_X7_48 rfl rfl ?_
    refine y_aload_n dX7_cross_16 rfl rfl ?_
    refine y_getr dX7_cross_17 0 clX7 kd_0 (by decide) wm_fl_X7_10 rfl rfl ?_
    refine y_cV1 dX7_cross_20 meX5_find clX5 kd_11 wm_ml_X7_206 (kX5_find hk hs) ⟨Nat.le_of_ble_eq_true rfl, Nat.le_of_ble_eq_true rfl⟩ ⟨rfl, rfl⟩ (Nat.le_of_ble_eq_true rfl) (fun v20 μ20 hp20 => ?_)
    obtain ⟨rfl, he20⟩ := hp20
    replace he20 := he20.symm
    subst he20
    refine y_rv ?_
    refine y_aload_n dX7_cross_23 rfl rfl ?_
    refine y_getr dX7_cross_24 6 clX7 kd_0 (by decide) wm_fl_X7_48 rfl rfl ?_
    refine y_aload_n dX7_cross_27 rfl rfl ?_
    refine y_getr dX7_cross_28 0 clX7 kd_0 (by decide) wm_fl_X7_10 rfl rfl ?_
    refine y_cV1 dX7_cross_31 meX5_choosePair clX5 kd_11 wm_ml_X7_216 (kX5_choosePair (wsX_le k μ) (find_4 k μ)) ⟨Nat.le_of_ble_eq_true rfl, Nat.le_of_ble_eq_true rfl⟩ ⟨rfl, rfl⟩ (Nat.le_of_ble_eq_true rfl) (fun v31 μ31 hp31 => ?_)
    obtain ⟨rfl, he31⟩ := hp31
    replace he31 := he31.symm
    subst he31
    refine y_rv ?_
    refine y_iload_n dX7_cross_34 rfl rfl ?_
    refine y_if_ne 48 dX7_cross_35 (by decide) (fun h35 => ?_) (fun h35 => ?_)
    · refine y_aload_n dX7_cross_48 rfl rfl ?_
      refine y_getr dX7_cross_49 6 clX7 kd_0 (by decide) wm_fl_X7_48 rfl rfl ?_
      refine y_geti dX7_cross_52 6 clX5 kd_11 (by decide) wm_fl_X7_222 rfl rfl ?_
      refine y_iret dX7_cross_55 ?_
      constructor <;> simp_all [xCross]
    · refine y_aload_n dX7_cross_38 rfl rfl ?_
      refine y_getr dX7_cross_39 6 clX7 kd_0 (by decide) wm_fl_X7_48 rfl rfl ?_
      refine y_geti dX7_cross_42 5 clX5 kd_11 (by decide) wm_fl_X7_219 rfl rfl ?_
      refine y_goto 55 dX7_cross_45 (by decide) ?_
      refine y_iret dX7_cross_55 ?_
      constructor <;> simp_all [xCross]
  · refine y_bipush dX7_cross_9 ib_m2 ?_
    refine y_iret dX7_cross_11 ?_
    constructor <;> simp_all [xCross]

set_option maxRecDepth 100000 in
set_option maxHeartbeats 4000000 in
theorem kX7_chance {l : Launch} {G : GT} {μ : MemT} {t0 : Nat} (ht : t0 < 256) (hth : μ 18 7 = nI t0) {x y t k w h : Int32} : sw_Met l G yX7_chance cX7_chance 7 (some .long) (rmk 3 91) [.ref (G.2.1 0), .int x, .int y, .int t, .int k, .int w, .int h] μ (fun v μ2 => v = some (.long (xChance x y t k w h μ).1) ∧ μ2 = (xChance x y t k w h μ).2) := by
  refine sw_Met.ofY (by decide) (Nat.le_of_ble_eq_true rfl) rfl ?_
  refine y_aload_n dX7_chance_0 rfl rfl ?_
  refine y_getr dX7_chance_1 0 clX7 kd_0 (by decide) wm_fl_X7_10 rfl rfl ?_
  refine y_iload_n dX7_chance_4 rfl rfl ?_
  refine y_iload_n dX7_chance_5 rfl rfl ?_
  refine y_cV2 dX7_chance_6 meX4_mayBeWeighed clX4 kd_18 wm_ml_X7_197 (kX4_mayBeWeighed tw18) ⟨Nat.le_of_ble_eq_true rfl, Nat.le_of_ble_eq_true rfl⟩ ⟨rfl, rfl⟩ (Nat.le_of_ble_eq_true rfl) (fun v6 μ6 hp6 => ?_)
  obtain ⟨rfl, he6⟩ := hp6
  replace he6 := he6.symm
  subst he6
  refine y_ri ?_
  refine y_ifb_ne 16 dX7_chance_9 (by decide) (fun h9 => ?_) (fun h9 => ?_)
  · refine y_iload_n dX7_chance_16 rfl rfl ?_
    refine y_iconst dX7_chance_17 ic_0 ?_
    refine y_bipush dX7_chance_18 ib_10 ?_
    refine y_cS3 dX7_chance_20 meX7_within wm_ml_X7_66 (kX7_within (A := 0) (B := 10) rfl rfl) ⟨Nat.le_of_ble_eq_true rfl, Nat.le_of_ble_eq_true rfl⟩ ⟨rfl, rfl⟩ (Nat.le_of_ble_eq_true rfl) (fun v20 μ20 hp20 => ?_)
    obtain ⟨rfl, he20⟩ := hp20
    replace he20 := he20.symm
    subst he20
    refine y_ri ?_
    refine y_ifb_eq 57 dX7_chance_23 (by decide) (fun h23 => ?_) (fun h23 => ?_)
    · refine y_ldc2 dX7_chance_57 wm_cl_X7_227 ?_
      refine y_lret dX7_chance_60 ?_
      constructor <;> simp_all [xChance, chM]
    · refine y_iload dX7_chance_26 rfl ?_
      refine y_iconst dX7_chance_28 ic_1 ?_
      refine y_bipush dX7_chance_29 ib_50 ?_
      refine y_cS3 dX7_chance_31 meX7_within wm_ml_X7_66 (kX7_within (A := 1) (B := 50) rfl rfl) ⟨Nat.le_of_ble_eq_true rfl, Nat.le_of_ble_eq_true rfl⟩ ⟨rfl, rfl⟩ (Nat.le_of_ble_eq_true rfl) (fun v31 μ31 hp31 => ?_)
      obtain ⟨rfl, he31⟩ := hp31
      replace he31 := he31.symm
      subst he31
      refine y_ri ?_
      refine y_ifb_eq 57 dX7_chance_34 (by decide) (fun h34 => ?_) (fun h34 => ?_)
      · refine y_ldc2 dX7_chance_57 wm_cl_X7_227 ?_
        refine y_lret dX7_chance_60 ?_
        constructor <;> simp_all [xChance, chM]
      · refine y_iload dX7_chance_37 rfl ?_
        refine y_iconst dX7_chance_39 ic_0 ?_
        refine y_iconst dX7_chance_40 ic_1 ?_
        refine y_cS3 dX7_chance_41 meX7_within wm_ml_X7_66 (kX7_within (A := 0) (B := 1) rfl rfl) ⟨Nat.le_of_ble_eq_true rfl, Nat.le_of_ble_eq_true rfl⟩ ⟨rfl, rfl⟩ (Nat.le_of_ble_eq_true rfl) (fun v41 μ41 hp41 => ?_)
        obtain ⟨rfl, he41⟩ := hp41
        replace he41 := he41.symm
        subst he41
        refine y_ri ?_
        refine y_ifb_eq 57 dX7_chance_44 (by decide) (fun h44 => ?_) (fun h44 => ?_)
        · refine y_ldc2 dX7_chance_57 wm_cl_X7_227 ?_
          refine y_lret dX7_chance_60 ?_
          constructor <;> simp_all [xChance, chM]
        · refine y_iload dX7_chance_47 rfl ?_
          refine y_iconst dX7_chance_49 ic_0 ?_
          refine y_iconst dX7_chance_50 ic_1 ?_
          refine y_cS3 dX7_chance_51 meX7_within wm_ml_X7_66 (kX7_within (A := 0) (B := 1) rfl rfl) ⟨Nat.le_of_ble_eq_true rfl, Nat.le_of_ble_eq_true rfl⟩ ⟨rfl, rfl⟩ (Nat.le_of_ble_eq_true rfl) (fun v51 μ51 hp51 => ?_)
          obtain ⟨rfl, he51⟩ := hp51
          replace he51 := he51.symm
          subst he51
          refine y_ri ?_
          refine y_ifb_ne 61 dX7_chance_54 (by decide) (fun h54 => ?_) (fun h54 => ?_)
          · have h9b := h9
            rw [mbw, hth, Bool.and_eq_true, Bool.and_eq_true] at h9b
            obtain ⟨a, ha, rfl, has⟩ := subI_ex ht h9b.1
            obtain ⟨b, hb, rfl, hbs⟩ := subI_ex ht h9b.2.1
            have hca : cl (nI a) = a := cl_n (by omega)
            have hcb : cl (nI b) = b := cl_n (by omega)
            refine y_iload dX7_chance_61 rfl ?_
            refine y_if_ne 85 dX7_chance_63 (by decide) (fun h63 => ?_) (fun h63 => ?_)
            · refine y_aload_n dX7_chance_85 rfl rfl ?_
              refine y_getr dX7_chance_86 7 clX7 kd_0 (by decide) wm_fl_X7_55 rfl rfl ?_
              refine y_aload_n dX7_chance_89 rfl rfl ?_
              refine y_getr dX7_chance_90 0 clX7 kd_0 (by decide) wm_fl_X7_10 rfl rfl ?_
              refine y_iload_n dX7_chance_93 rfl rfl ?_
              refine y_iload_n dX7_chance_94 rfl rfl ?_
              refine y_iload_n dX7_chance_95 rfl rfl ?_
              refine y_iload dX7_chance_96 rfl ?_
              refine y_cV5 dX7_chance_98 meX0_setMean clX0 kd_16 wm_ml_X7_233 (kX0_setMean) ⟨Nat.le_of_ble_eq_true rfl, Nat.le_of_ble_eq_true rfl⟩ ⟨rfl, rfl⟩ (Nat.le_of_ble_eq_true rfl) (fun v98 μ98 hp98 => ?_)
              obtain ⟨rfl, he98⟩ := hp98
              replace he98 := he98.symm
              subst he98
              refine y_rv ?_
              refine y_iload dX7_chance_101 rfl ?_
              refine y_if_ne 116 dX7_chance_103 (by decide) (fun h103 => ?_) (fun h103 => ?_)
              · refine y_aload_n dX7_chance_116 rfl rfl ?_
                refine y_getr dX7_chance_117 7 clX7 kd_0 (by decide) wm_fl_X7_55 rfl rfl ?_
                refine y_getl dX7_chance_120 1 clX0 kd_16 (by decide) wm_fl_X7_240 rfl rfl ?_
                refine y_lret dX7_chance_123 ?_
                constructor <;> simp_all [xChance, chM]
              · refine y_aload_n dX7_chance_106 rfl rfl ?_
                refine y_getr dX7_chance_107 7 clX7 kd_0 (by decide) wm_fl_X7_55 rfl rfl ?_
                refine y_getl dX7_chance_110 0 clX0 kd_16 (by decide) wm_fl_X7_236 rfl rfl ?_
                refine y_goto 123 dX7_chance_113 (by decide) ?_
                refine y_lret dX7_chance_123 ?_
                constructor <;> simp_all [xChance, chM]
            · refine y_aload_n dX7_chance_66 rfl rfl ?_
              refine y_getr dX7_chance_67 7 clX7 kd_0 (by decide) wm_fl_X7_55 rfl rfl ?_
              refine y_aload_n dX7_chance_70 rfl rfl ?_
              refine y_getr dX7_chance_71 0 clX7 kd_0 (by decide) wm_fl_X7_10 rfl rfl ?_
              refine y_iload_n dX7_chance_74 rfl rfl ?_
              refine y_iload_n dX7_chance_75 rfl rfl ?_
              refine y_iload_n dX7_chance_76 rfl rfl ?_
              refine y_iload dX7_chance_77 rfl ?_
              refine y_cV5 dX7_chance_79 meX0_setHeavier clX0 kd_16 wm_ml_X7_229 (kX0_setHeavier ha hb) ⟨Nat.le_of_ble_eq_true rfl, Nat.le_of_ble_eq_true rfl⟩ ⟨rfl, rfl⟩ (Nat.le_of_ble_eq_true rfl) (fun v79 μ79 hp79 => ?_)
              obtain ⟨rfl, he79⟩ := hp79
              replace he79 := he79.symm
              subst he79
              refine y_rv ?_
              refine y_goto 101 dX7_chance_82 (by decide) ?_
              refine y_iload dX7_chance_101 rfl ?_
              refine y_if_ne 116 dX7_chance_103 (by decide) (fun h103 => ?_) (fun h103 => ?_)
              · refine y_aload_n dX7_chance_116 rfl rfl ?_
                refine y_getr dX7_chance_117 7 clX7 kd_0 (by decide) wm_fl_X7_55 rfl rfl ?_
                refine y_getl dX7_chance_120 1 clX0 kd_16 (by decide) wm_fl_X7_240 rfl rfl ?_
                refine y_lret dX7_chance_123 ?_
                constructor <;> simp_all [xChance, chM]
              · refine y_aload_n dX7_chance_106 rfl rfl ?_
                refine y_getr dX7_chance_107 7 clX7 kd_0 (by decide) wm_fl_X7_55 rfl rfl ?_
                refine y_getl dX7_chance_110 0 clX0 kd_16 (by decide) wm_fl_X7_236 rfl rfl ?_
                refine y_goto 123 dX7_chance_113 (by decide) ?_
                refine y_lret dX7_chance_123 ?_
                constructor <;> simp_all [xChance, chM]
          · refine y_ldc2 dX7_chance_57 wm_cl_X7_227 ?_
            refine y_lret dX7_chance_60 ?_
            constructor <;> simp_all [xChance, chM]
  · refine y_ldc2 dX7_chance_12 wm_cl_X7_225 ?_
    refine y_lret dX7_chance_15 ?_
    constructor <;> simp_all [xChance, chM]

set_option maxRecDepth 100000 in
set_option maxHeartbeats 4000000 in
theorem kX7_year {l : Launch} {G : GT} {μ : MemT} {s m w : Int32} : sw_Met l G yX7_year cX7_year 4 (some .int) (rmk 4 94) [.ref (G.2.1 0), .int s, .int m, .int w] μ (fun v μ2 => v = some (.int (xYear s m w μ).1) ∧ μ2 = (xYear s m w μ).2) := by
  refine sw_Met.ofY (by decide) (Nat.le_of_ble_eq_true rfl) rfl ?_
  refine y_iload_n dX7_year_0 rfl rfl ?_
  refine y_iconst dX7_year_1 ic_0 ?_
  refine y_sipush dX7_year_2 is_9999 ?_
  refine y_cS3 dX7_year_5 meX7_within wm_ml_X7_66 (kX7_within (A := 0) (B := 9999) rfl rfl) ⟨Nat.le_of_ble_eq_true rfl, Nat.le_of_ble_eq_true rfl⟩ ⟨rfl, rfl⟩ (Nat.le_of_ble_eq_true rfl) (fun v5 μ5 hp5 => ?_)
  obtain ⟨rfl, he5⟩ := hp5
  replace he5 := he5.symm
  subst he5
  refine y_ri ?_
  refine y_ifb_eq 30 dX7_year_8 (by decide) (fun h8 => ?_) (fun h8 => ?_)
  · refine y_bipush dX7_year_30 ib_m2 ?_
    refine y_iret dX7_year_32 ?_
    constructor <;> simp_all [xYear]
  · refine y_iload_n dX7_year_11 rfl rfl ?_
    refine y_iconst dX7_year_12 ic_1 ?_
    refine y_bipush dX7_year_13 ib_99 ?_
    refine y_cS3 dX7_year_15 meX7_within wm_ml_X7_66 (kX7_within (A := 1) (B := 99) rfl rfl) ⟨Nat.le_of_ble_eq_true rfl, Nat.le_of_ble_eq_true rfl⟩ ⟨rfl, rfl⟩ (Nat.le_of_ble_eq_true rfl) (fun v15 μ15 hp15 => ?_)
    obtain ⟨rfl, he15⟩ := hp15
    replace he15 := he15.symm
    subst he15
    refine y_ri ?_
    refine y_ifb_eq 30 dX7_year_18 (by decide) (fun h18 => ?_) (fun h18 => ?_)
    · refine y_bipush dX7_year_30 ib_m2 ?_
      refine y_iret dX7_year_32 ?_
      constructor <;> simp_all [xYear]
    · refine y_iload_n dX7_year_21 rfl rfl ?_
      refine y_iconst dX7_year_22 ic_0 ?_
      refine y_iconst dX7_year_23 ic_2 ?_
      refine y_cS3 dX7_year_24 meX7_within wm_ml_X7_66 (kX7_within (A := 0) (B := 2) rfl rfl) ⟨Nat.le_of_ble_eq_true rfl, Nat.le_of_ble_eq_true rfl⟩ ⟨rfl, rfl⟩ (Nat.le_of_ble_eq_true rfl) (fun v24 μ24 hp24 => ?_)
      obtain ⟨rfl, he24⟩ := hp24
      replace he24 := he24.symm
      subst he24
      refine y_ri ?_
      refine y_ifb_ne 33 dX7_year_27 (by decide) (fun h27 => ?_) (fun h27 => ?_)
      · obtain ⟨q, hq99, rfl⟩ := inR1_ex (n := 99) h18
        have hcl : cl (nI q) = q := cl_n (by omega)
        refine y_aload_n dX7_year_33 rfl rfl ?_
        refine y_getr dX7_year_34 8 clX7 kd_0 (by decide) wm_fl_X7_62 rfl rfl ?_
        refine y_aload_n dX7_year_37 rfl rfl ?_
        refine y_getr dX7_year_38 0 clX7 kd_0 (by decide) wm_fl_X7_10 rfl rfl ?_
        refine y_iload_n dX7_year_41 rfl rfl ?_
        refine y_iload_n dX7_year_42 rfl rfl ?_
        refine y_cV3 dX7_year_43 meX6_pass clX6 kd_17 wm_ml_X7_243 (kX6_pass (by omega)) ⟨Nat.le_of_ble_eq_true rfl, Nat.le_of_ble_eq_true rfl⟩ ⟨rfl, rfl⟩ (Nat.le_of_ble_eq_true rfl) (fun v43 μ43 hp43 => ?_)
        obtain ⟨rfl, he43⟩ := hp43
        replace he43 := he43.symm
        subst he43
        refine y_rv ?_
        refine y_iload_n dX7_year_46 rfl rfl ?_
        refine y_if_ne 60 dX7_year_47 (by decide) (fun h47 => ?_) (fun h47 => ?_)
        · refine y_iload_n dX7_year_60 rfl rfl ?_
          refine y_iconst dX7_year_61 ic_1 ?_
          refine y_icmp_ne 75 dX7_year_62 (by decide) (fun h62 => ?_) (fun h62 => ?_)
          · refine y_aload_n dX7_year_75 rfl rfl ?_
            refine y_getr dX7_year_76 8 clX7 kd_0 (by decide) wm_fl_X7_62 rfl rfl ?_
            refine y_geti dX7_year_79 3 clX6 kd_17 (by decide) wm_fl_X7_252 rfl rfl ?_
            refine y_iret dX7_year_82 ?_
            constructor <;> simp_all [xYear]
          · refine y_aload_n dX7_year_65 rfl rfl ?_
            refine y_getr dX7_year_66 8 clX7 kd_0 (by decide) wm_fl_X7_62 rfl rfl ?_
            refine y_geti dX7_year_69 2 clX6 kd_17 (by decide) wm_fl_X7_249 rfl rfl ?_
            refine y_goto 82 dX7_year_72 (by decide) ?_
            refine y_iret dX7_year_82 ?_
            constructor <;> simp_all [xYear]
        · refine y_aload_n dX7_year_50 rfl rfl ?_
          refine y_getr dX7_year_51 8 clX7 kd_0 (by decide) wm_fl_X7_62 rfl rfl ?_
          refine y_geti dX7_year_54 1 clX6 kd_17 (by decide) wm_fl_X7_246 rfl rfl ?_
          refine y_goto 82 dX7_year_57 (by decide) ?_
          refine y_iret dX7_year_82 ?_
          constructor <;> simp_all [xYear]
      · refine y_bipush dX7_year_30 ib_m2 ?_
        refine y_iret dX7_year_32 ?_
        constructor <;> simp_all [xYear]

set_option maxRecDepth 100000 in
set_option maxHeartbeats 4000000 in
theorem kX7_image {l : Launch} {G : GT} {μ : MemT} {x : Int32} : sw_Met l G yX7_image cX7_image 2 (some .int) (rmk 2 51) [.ref (G.2.1 0), .int x] μ (fun v μ2 => v = some (.int (xImage x μ).1) ∧ μ2 = (xImage x μ).2) := by
  refine sw_Met.ofY (by decide) (Nat.le_of_ble_eq_true rfl) rfl ?_
  refine y_iload_n dX7_image_0 rfl rfl ?_
  refine y_iconst dX7_image_1 ic_0 ?_
  refine y_iconst dX7_image_2 ic_1 ?_
  refine y_cS3 dX7_image_3 meX7_within wm_ml_X7_66 (kX7_within (A := 0) (B := 1) rfl rfl) ⟨Nat.le_of_ble_eq_true rfl, Nat.le_of_ble_eq_true rfl⟩ ⟨rfl, rfl⟩ (Nat.le_of_ble_eq_true rfl) (fun v3 μ3 hp3 => ?_)
  obtain ⟨rfl, he3⟩ := hp3
  replace he3 := he3.symm
  subst he3
  refine y_ri ?_
  refine y_ifb_ne 12 dX7_image_6 (by decide) (fun h6 => ?_) (fun h6 => ?_)
  · obtain ⟨q, hq1, rfl⟩ := inR_ex (n := 1) h6
    rcases (show q = 0 ∨ q = 1 by omega) with rfl | rfl
    · refine y_aload_n dX7_image_12 rfl rfl ?_
      refine y_getr dX7_image_13 1 clX7 kd_0 (by decide) wm_fl_X7_16 rfl rfl ?_
      refine y_iload_n dX7_image_16 rfl rfl ?_
      refine y_aald dX7_image_17 0 kd_1 rfl (by first | assumption | decide | omega) ?_
      refine y_aload_n dX7_image_18 rfl rfl ?_
      refine y_getr dX7_image_19 0 clX7 kd_0 (by decide) wm_fl_X7_10 rfl rfl ?_
      refine y_cV1 dX7_image_22 meX4_copyFrom clX4 kd_26 wm_ml_X7_139 (kX4_copyFrom tw26 tw18 (by decide)) ⟨Nat.le_of_ble_eq_true rfl, Nat.le_of_ble_eq_true rfl⟩ ⟨rfl, rfl⟩ (Nat.le_of_ble_eq_true rfl) (fun v22 μ22 hp22 => ?_)
      obtain ⟨rfl, he22⟩ := hp22
      replace he22 := he22.symm
      subst he22
      refine y_rv ?_
      refine y_aload_n dX7_image_25 rfl rfl ?_
      refine y_getr dX7_image_26 2 clX7 kd_0 (by decide) wm_fl_X7_20 rfl rfl ?_
      refine y_iload_n dX7_image_29 rfl rfl ?_
      refine y_iconst dX7_image_30 ic_1 ?_
      refine y_zast dX7_image_31 0 kd_2 rfl (by first | assumption | decide | omega) (by decide) ?_
      refine y_iconst dX7_image_32 ic_1 ?_
      refine y_iret dX7_image_33 ?_
      constructor <;> simp_all [xImage, imB, cl_n, nar_z1, twCopy, mset]
    · refine y_aload_n dX7_image_12 rfl rfl ?_
      refine y_getr dX7_image_13 1 clX7 kd_0 (by decide) wm_fl_X7_16 rfl rfl ?_
      refine y_iload_n dX7_image_16 rfl rfl ?_
      refine y_aald dX7_image_17 1 kd_1 rfl (by first | assumption | decide | omega) ?_
      refine y_aload_n dX7_image_18 rfl rfl ?_
      refine y_getr dX7_image_19 0 clX7 kd_0 (by decide) wm_fl_X7_10 rfl rfl ?_
      refine y_cV1 dX7_image_22 meX4_copyFrom clX4 kd_34 wm_ml_X7_139 (kX4_copyFrom tw34 tw18 (by decide)) ⟨Nat.le_of_ble_eq_true rfl, Nat.le_of_ble_eq_true rfl⟩ ⟨rfl, rfl⟩ (Nat.le_of_ble_eq_true rfl) (fun v22 μ22 hp22 => ?_)
      obtain ⟨rfl, he22⟩ := hp22
      replace he22 := he22.symm
      subst he22
      refine y_rv ?_
      refine y_aload_n dX7_image_25 rfl rfl ?_
      refine y_getr dX7_image_26 2 clX7 kd_0 (by decide) wm_fl_X7_20 rfl rfl ?_
      refine y_iload_n dX7_image_29 rfl rfl ?_
      refine y_iconst dX7_image_30 ic_1 ?_
      refine y_zast dX7_image_31 1 kd_2 rfl (by first | assumption | decide | omega) (by decide) ?_
      refine y_iconst dX7_image_32 ic_1 ?_
      refine y_iret dX7_image_33 ?_
      constructor <;> simp_all [xImage, imB, cl_n, nar_z1, twCopy, mset]
  · refine y_bipush dX7_image_9 ib_m2 ?_
    refine y_iret dX7_image_11 ?_
    constructor <;> simp_all [xImage]

set_option maxRecDepth 100000 in
set_option maxHeartbeats 4000000 in
theorem kX7_restore {l : Launch} {G : GT} {μ : MemT} {x : Int32} : sw_Met l G yX7_restore cX7_restore 2 (some .int) (rmk 2 51) [.ref (G.2.1 0), .int x] μ (fun v μ2 => v = some (.int (xRestore x μ).1) ∧ μ2 = (xRestore x μ).2) := by
  refine sw_Met.ofY (by decide) (Nat.le_of_ble_eq_true rfl) rfl ?_
  refine y_iload_n dX7_restore_0 rfl rfl ?_
  refine y_iconst dX7_restore_1 ic_0 ?_
  refine y_iconst dX7_restore_2 ic_1 ?_
  refine y_cS3 dX7_restore_3 meX7_within wm_ml_X7_66 (kX7_within (A := 0) (B := 1) rfl rfl) ⟨Nat.le_of_ble_eq_true rfl, Nat.le_of_ble_eq_true rfl⟩ ⟨rfl, rfl⟩ (Nat.le_of_ble_eq_true rfl) (fun v3 μ3 hp3 => ?_)
  obtain ⟨rfl, he3⟩ := hp3
  replace he3 := he3.symm
  subst he3
  refine y_ri ?_
  refine y_ifb_ne 12 dX7_restore_6 (by decide) (fun h6 => ?_) (fun h6 => ?_)
  · obtain ⟨q, hq1, rfl⟩ := inR_ex (n := 1) h6
    rcases (show q = 0 ∨ q = 1 by omega) with rfl | rfl
    · refine y_aload_n dX7_restore_12 rfl rfl ?_
      refine y_getr dX7_restore_13 2 clX7 kd_0 (by decide) wm_fl_X7_20 rfl rfl ?_
      refine y_iload_n dX7_restore_16 rfl rfl ?_
      refine y_zald dX7_restore_17 0 kd_2 rfl (by first | assumption | decide | omega) (by decide) ?_
      refine y_if_ne 24 dX7_restore_18 (by decide) (fun h18 => ?_) (fun h18 => ?_)
      · refine y_aload_n dX7_restore_24 rfl rfl ?_
        refine y_getr dX7_restore_25 0 clX7 kd_0 (by decide) wm_fl_X7_10 rfl rfl ?_
        refine y_aload_n dX7_restore_28 rfl rfl ?_
        refine y_getr dX7_restore_29 1 clX7 kd_0 (by decide) wm_fl_X7_16 rfl rfl ?_
        refine y_iload_n dX7_restore_32 rfl rfl ?_
        refine y_aald dX7_restore_33 0 kd_1 rfl (by first | assumption | decide | omega) ?_
        refine y_cV1 dX7_restore_34 meX4_copyFrom clX4 kd_18 wm_ml_X7_139 (kX4_copyFrom tw18 tw26 (by decide)) ⟨Nat.le_of_ble_eq_true rfl, Nat.le_of_ble_eq_true rfl⟩ ⟨rfl, rfl⟩ (Nat.le_of_ble_eq_true rfl) (fun v34 μ34 hp34 => ?_)
        obtain ⟨rfl, he34⟩ := hp34
        replace he34 := he34.symm
        subst he34
        refine y_rv ?_
        refine y_iconst dX7_restore_37 ic_1 ?_
        refine y_iret dX7_restore_38 ?_
        constructor <;> simp_all [xRestore, imB, cl_n]
      · refine y_bipush dX7_restore_21 ib_m3 ?_
        refine y_iret dX7_restore_23 ?_
        constructor <;> simp_all [xRestore, imB, cl_n]
    · refine y_aload_n dX7_restore_12 rfl rfl ?_
      refine y_getr dX7_restore_13 2 clX7 kd_0 (by decide) wm_fl_X7_20 rfl rfl ?_
      refine y_iload_n dX7_restore_16 rfl rfl ?_
      refine y_zald dX7_restore_17 1 kd_2 rfl (by first | assumption | decide | omega) (by decide) ?_
      refine y_if_ne 24 dX7_restore_18 (by decide) (fun h18 => ?_) (fun h18 => ?_)
      · refine y_aload_n dX7_restore_24 rfl rfl ?_
        refine y_getr dX7_restore_25 0 clX7 kd_0 (by decide) wm_fl_X7_10 rfl rfl ?_
        refine y_aload_n dX7_restore_28 rfl rfl ?_
        refine y_getr dX7_restore_29 1 clX7 kd_0 (by decide) wm_fl_X7_16 rfl rfl ?_
        refine y_iload_n dX7_restore_32 rfl rfl ?_
        refine y_aald dX7_restore_33 1 kd_1 rfl (by first | assumption | decide | omega) ?_
        refine y_cV1 dX7_restore_34 meX4_copyFrom clX4 kd_18 wm_ml_X7_139 (kX4_copyFrom tw18 tw34 (by decide)) ⟨Nat.le_of_ble_eq_true rfl, Nat.le_of_ble_eq_true rfl⟩ ⟨rfl, rfl⟩ (Nat.le_of_ble_eq_true rfl) (fun v34 μ34 hp34 => ?_)
        obtain ⟨rfl, he34⟩ := hp34
        replace he34 := he34.symm
        subst he34
        refine y_rv ?_
        refine y_iconst dX7_restore_37 ic_1 ?_
        refine y_iret dX7_restore_38 ?_
        constructor <;> simp_all [xRestore, imB, cl_n]
      · refine y_bipush dX7_restore_21 ib_m3 ?_
        refine y_iret dX7_restore_23 ?_
        constructor <;> simp_all [xRestore, imB, cl_n]
  · refine y_bipush dX7_restore_9 ib_m2 ?_
    refine y_iret dX7_restore_11 ?_
    constructor <;> simp_all [xRestore]

set_option maxRecDepth 100000 in
set_option maxHeartbeats 4000000 in
theorem kX7_tellPerson {l : Launch} {G : GT} {μ : MemT} {x k : Int32} : sw_Met l G yX7_tellPerson cX7_tellPerson 3 (some .int) (rmk 1 21) [.ref (G.2.1 0), .int x, .int k] μ (fun v μ2 => v = some (.int (xTell x k μ)) ∧ μ2 = μ) := by
  refine sw_Met.ofY (by decide) (Nat.le_of_ble_eq_true rfl) rfl ?_
  refine y_aload_n dX7_tellPerson_0 rfl rfl ?_
  refine y_getr dX7_tellPerson_1 0 clX7 kd_0 (by decide) wm_fl_X7_10 rfl rfl ?_
  refine y_iload_n dX7_tellPerson_4 rfl rfl ?_
  refine y_cV1 dX7_tellPerson_5 meX4_has clX4 kd_18 wm_ml_X7_78 (kX4_has tw18) ⟨Nat.le_of_ble_eq_true rfl, Nat.le_of_ble_eq_true rfl⟩ ⟨rfl, rfl⟩ (Nat.le_of_ble_eq_true rfl) (fun v5 μ5 hp5 => ?_)
  obtain ⟨rfl, he5⟩ := hp5
  replace he5 := he5.symm
  subst he5
  refine y_ri ?_
  refine y_ifb_ne 14 dX7_tellPerson_8 (by decide) (fun h8 => ?_) (fun h8 => ?_)
  · obtain ⟨p, hp8, rfl, hpb⟩ := isP_ex h8
    refine y_iload_n dX7_tellPerson_14 rfl rfl ?_
    refine y_case 0 (fun hs15 => ?_) (fun hn15_0 => ?_)
    · refine y_tableIn 44 dX7_tellPerson_15 (by decide) (by decide) rfl (by decide) ?_
      refine y_aload_n dX7_tellPerson_44 rfl rfl ?_
      refine y_getr dX7_tellPerson_45 0 clX7 kd_0 (by decide) wm_fl_X7_10 rfl rfl ?_
      refine y_getr dX7_tellPerson_48 0 clX4 kd_18 (by decide) wm_fl_X7_146 rfl rfl ?_
      refine y_iload_n dX7_tellPerson_51 rfl rfl ?_
      refine y_iald dX7_tellPerson_52 p kd_19 rfl (by first | assumption | decide | omega) (by decide) ?_
      refine y_iret dX7_tellPerson_53 ?_
      exact ⟨by simp_all [xTell, cl_8, isP_n], rfl⟩
    refine y_case 1 (fun hs15 => ?_) (fun hn15_1 => ?_)
    · refine y_tableIn 54 dX7_tellPerson_15 (by decide) (by decide) rfl (by decide) ?_
      refine y_aload_n dX7_tellPerson_54 rfl rfl ?_
      refine y_getr dX7_tellPerson_55 0 clX7 kd_0 (by decide) wm_fl_X7_10 rfl rfl ?_
      refine y_getr dX7_tellPerson_58 1 clX4 kd_18 (by decide) wm_fl_X7_132 rfl rfl ?_
      refine y_iload_n dX7_tellPerson_61 rfl rfl ?_
      refine y_iald dX7_tellPerson_62 p kd_20 rfl (by first | assumption | decide | omega) (by decide) ?_
      refine y_iret dX7_tellPerson_63 ?_
      exact ⟨by simp_all [xTell, cl_8, isP_n], rfl⟩
    refine y_case 2 (fun hs15 => ?_) (fun hn15_2 => ?_)
    · refine y_tableIn 64 dX7_tellPerson_15 (by decide) (by decide) rfl (by decide) ?_
      refine y_aload_n dX7_tellPerson_64 rfl rfl ?_
      refine y_getr dX7_tellPerson_65 0 clX7 kd_0 (by decide) wm_fl_X7_10 rfl rfl ?_
      refine y_getr dX7_tellPerson_68 2 clX4 kd_18 (by decide) wm_fl_X7_264 rfl rfl ?_
      refine y_iload_n dX7_tellPerson_71 rfl rfl ?_
      refine y_iald dX7_tellPerson_72 p kd_21 rfl (by first | assumption | decide | omega) (by decide) ?_
      refine y_bipush dX7_tellPerson_73 ib_9 ?_
      refine y_iadd dX7_tellPerson_75 ?_
      refine y_iret dX7_tellPerson_76 ?_
      exact ⟨by simp_all [xTell, cl_8, isP_n], rfl⟩
    refine y_case 3 (fun hs15 => ?_) (fun hn15_3 => ?_)
    · refine y_tableIn 77 dX7_tellPerson_15 (by decide) (by decide) rfl (by decide) ?_
      refine y_aload_n dX7_tellPerson_77 rfl rfl ?_
      refine y_getr dX7_tellPerson_78 0 clX7 kd_0 (by decide) wm_fl_X7_10 rfl rfl ?_
      refine y_getr dX7_tellPerson_81 3 clX4 kd_18 (by decide) wm_fl_X7_267 rfl rfl ?_
      refine y_iload_n dX7_tellPerson_84 rfl rfl ?_
      refine y_iald dX7_tellPerson_85 p kd_22 rfl (by first | assumption | decide | omega) (by decide) ?_
      refine y_iret dX7_tellPerson_86 ?_
      exact ⟨by simp_all [xTell, cl_8, isP_n], rfl⟩
    refine y_tableOut 87 dX7_tellPerson_15 (sw_out4 hn15_0 hn15_1 hn15_2 hn15_3) (by decide) ?_
    refine y_bipush dX7_tellPerson_87 ib_m2 ?_
    refine y_iret dX7_tellPerson_89 ?_
    exact ⟨by simp_all [xTell, cl_8, isP_n], rfl⟩
  · refine y_bipush dX7_tellPerson_11 ib_m2 ?_
    refine y_iret dX7_tellPerson_13 ?_
    exact ⟨by simp_all [xTell, cl_8, isP_n], rfl⟩

set_option maxRecDepth 100000 in
set_option maxHeartbeats 4000000 in
theorem kX7_told {l : Launch} {G : GT} {μ : MemT} {x : Int32} : sw_Met l G yX7_told cX7_told 2 (some .int) (rmk 2 43) [.ref (G.2.1 0), .int x] μ (fun v μ2 => v = some (.int (xTold x μ)) ∧ μ2 = μ) := by
  refine sw_Met.ofY (by decide) (Nat.le_of_ble_eq_true rfl) rfl ?_
  refine y_iload_n dX7_told_0 rfl rfl ?_
  refine y_case 0 (fun hs1 => ?_) (fun hn1_0 => ?_)
  · refine y_tableIn 40 dX7_told_1 (by decide) (by decide) rfl (by decide) ?_
    refine y_aload_n dX7_told_40 rfl rfl ?_
    refine y_getr dX7_told_41 3 clX7 kd_0 (by decide) wm_fl_X7_27 rfl rfl ?_
    refine y_geti dX7_told_44 1 clX2 kd_3 (by decide) wm_fl_X7_113 rfl rfl ?_
    refine y_iret dX7_told_47 ?_
    exact ⟨by simp_all [xTold], rfl⟩
  refine y_case 1 (fun hs1 => ?_) (fun hn1_1 => ?_)
  · refine y_tableIn 48 dX7_told_1 (by decide) (by decide) rfl (by decide) ?_
    refine y_aload_n dX7_told_48 rfl rfl ?_
    refine y_getr dX7_told_49 0 clX7 kd_0 (by decide) wm_fl_X7_10 rfl rfl ?_
    refine y_geti dX7_told_52 7 clX4 kd_18 (by decide) wm_fl_X7_255 rfl rfl ?_
    refine y_iret dX7_told_55 ?_
    exact ⟨by simp_all [xTold], rfl⟩
  refine y_case 2 (fun hs1 => ?_) (fun hn1_2 => ?_)
  · refine y_tableIn 56 dX7_told_1 (by decide) (by decide) rfl (by decide) ?_
    refine y_aload_n dX7_told_56 rfl rfl ?_
    refine y_getr dX7_told_57 0 clX7 kd_0 (by decide) wm_fl_X7_10 rfl rfl ?_
    refine y_geti dX7_told_60 8 clX4 kd_18 (by decide) wm_fl_X7_258 rfl rfl ?_
    refine y_iret dX7_told_63 ?_
    exact ⟨by simp_all [xTold], rfl⟩
  refine y_case 3 (fun hs1 => ?_) (fun hn1_3 => ?_)
  · refine y_tableIn 64 dX7_told_1 (by decide) (by decide) rfl (by decide) ?_
    refine y_aload_n dX7_told_64 rfl rfl ?_
    refine y_getr dX7_told_65 0 clX7 kd_0 (by decide) wm_fl_X7_10 rfl rfl ?_
    refine y_geti dX7_told_68 9 clX4 kd_18 (by decide) wm_fl_X7_106 rfl rfl ?_
    refine y_iret dX7_told_71 ?_
    exact ⟨by simp_all [xTold], rfl⟩
  refine y_case 4 (fun hs1 => ?_) (fun hn1_4 => ?_)
  · refine y_tableIn 72 dX7_told_1 (by decide) (by decide) rfl (by decide) ?_
    refine y_aload_n dX7_told_72 rfl rfl ?_
    refine y_getr dX7_told_73 0 clX7 kd_0 (by decide) wm_fl_X7_10 rfl rfl ?_
    refine y_geti dX7_told_76 10 clX4 kd_18 (by decide) wm_fl_X7_136 rfl rfl ?_
    refine y_iret dX7_told_79 ?_
    exact ⟨by simp_all [xTold], rfl⟩
  refine y_case 5 (fun hs1 => ?_) (fun hn1_5 => ?_)
  · refine y_tableIn 80 dX7_told_1 (by decide) (by decide) rfl (by decide) ?_
    refine y_aload_n dX7_told_80 rfl rfl ?_
    refine y_getr dX7_told_81 0 clX7 kd_0 (by decide) wm_fl_X7_10 rfl rfl ?_
    refine y_geti dX7_told_84 11 clX4 kd_18 (by decide) wm_fl_X7_203 rfl rfl ?_
    refine y_iret dX7_told_87 ?_
    exact ⟨by simp_all [xTold], rfl⟩
  refine y_tableOut 88 dX7_told_1 (sw_out6 hn1_0 hn1_1 hn1_2 hn1_3 hn1_4 hn1_5) (by decide) ?_
  refine y_iload_n dX7_told_88 rfl rfl ?_
  refine y_bipush dX7_told_89 ib_10 ?_
  refine y_icmp_ge 99 dX7_told_91 (by decide) (fun h91 => ?_) (fun h91 => ?_)
  · refine y_aload_n dX7_told_99 rfl rfl ?_
    refine y_iload_n dX7_told_100 rfl rfl ?_
    refine y_bipush dX7_told_101 ib_10 ?_
    refine y_idiv dX7_told_103 (by decide) ?_
    refine y_iconst dX7_told_104 ic_1 ?_
    refine y_isub dX7_told_105 ?_
    refine y_iload_n dX7_told_106 rfl rfl ?_
    refine y_bipush dX7_told_107 ib_10 ?_
    refine y_irem dX7_told_109 (by decide) ?_
    refine y_cV2 dX7_told_110 meX7_tellPerson clX7 kd_0 wm_ml_X7_261 (kX7_tellPerson) ⟨Nat.le_of_ble_eq_true rfl, Nat.le_of_ble_eq_true rfl⟩ ⟨rfl, rfl⟩ (Nat.le_of_ble_eq_true rfl) (fun v110 μ110 hp110 => ?_)
    obtain ⟨rfl, he110⟩ := hp110
    replace he110 := he110.symm
    subst he110
    refine y_ri ?_
    refine y_iret dX7_told_113 ?_
    refine ⟨?_, rfl⟩
    first
      | (simp [xTold, Int32.not_lt.mpr h91, *]; done)
      | (simp [xTold, Int32.not_le.mp h91, *]; done)
  · refine y_bipush dX7_told_94 ib_m2 ?_
    refine y_goto 113 dX7_told_96 (by decide) ?_
    refine y_iret dX7_told_113 ?_
    refine ⟨?_, rfl⟩
    first
      | (simp [xTold, Int32.not_lt.mpr h91, *]; done)
      | (simp [xTold, Int32.not_le.mp h91, *]; done)
