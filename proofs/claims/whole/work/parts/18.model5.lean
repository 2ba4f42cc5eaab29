/-! the reference: worlds -/
def arS (a b t : Int32) : Bool := inR a 1 255 && (inR b 1 255 && (subI (a ||| b) t && decide (a &&& b = 0)))
def mSeen (k : Nat) (a b h : Int32) (μ : MemT) : Int32 × MemT := if arS a b (μ 58 0) = false then (-1, μ) else if inR h 0 2 = false then (-2, μ) else if k = 8 then (-4, μ) else (nI (k + 1), mset (mset (mset (mset μ 63 (upd (μ 63) k a)) 64 (upd (μ 64) k b)) 65 (upd (μ 65) k h)) 58 (upd (μ 58) 11 (nI (k + 1))))
def mForget (μ : MemT) : Int32 × MemT := (μ 58 11, mset μ 58 (upd (μ 58) 11 0))
def ayI (t : Int32) (sw : Nat → Int32) (s x d : Int32) : Int32 := itr (fun p a => a + (if bt (s &&& t) p then sw p + (if nI p = x then d else 0) else 0)) 8 0 0
def haI (t : Int32) (sw : Nat → Int32) (a b x d : Int32) : Int32 := if ¬ 0 ≤ ayI t sw a x d - ayI t sw b x d then 0 else if ayI t sw a x d - ayI t sw b x d = 0 then 1 else 2
def iwS (μ : MemT) (x d : Int32) (j : Nat) (b : Bool) : Bool := b && decide (haI (μ 58 0) (μ 59) (μ 63 j) (μ 64 j) x d = μ 65 j)
def isW (k : Nat) (μ : MemT) (x d : Int32) : Bool := itr (iwS μ x d) k 0 true
def mPut (w : WsT) (μ : MemT) : MemT := mset (mset (mset μ 75 w.1) 76 w.2.1) 58 (upd (μ 58) 36 (nI w.2.2))
theorem mPut_mPut (w z : WsT) (μ : MemT) : mPut w (mPut z μ) = mPut w μ := by
  funext k
  simp only [mPut, mset]
  repeat' split
  all_goals simp_all [upd_upd, mset]
theorem mPut_75 (w : WsT) (μ : MemT) : mPut w μ 75 = w.1 := by simp [mPut, mset]
theorem mPut_76 (w : WsT) (μ : MemT) : mPut w μ 76 = w.2.1 := by simp [mPut, mset]
theorem mPut_36 (w : WsT) (μ : MemT) : mPut w μ 58 36 = nI w.2.2 := by simp [mPut, mset, upd]
theorem mPut_ne (w : WsT) (μ : MemT) {k : Nat} (h1 : k ≠ 58) (h2 : k ≠ 75) (h3 : k ≠ 76) : mPut w μ k = μ k := by simp [mPut, mset, h1, h2, h3]
theorem mPut_f (w : WsT) (μ : MemT) {k : Nat} (h1 : k ≠ 36) : mPut w μ 58 k = μ 58 k := by simp [mPut, mset, upd, h1]
def mwS (k : Nat) (μ : MemT) (p j : Nat) (w : WsT) : WsT := if isP (μ 58 0) (nI p) = true ∧ ¬ dI j = 0 ∧ ¬ μ 59 p + dI j ≤ 0 ∧ isW k μ (nI p) (dI j) = true then wAdd true (nI p) (dI j) w else w
def mwP (k : Nat) (μ : MemT) (p : Nat) (w : WsT) : WsT := itr (mwS k μ p) 19 0 w
def mWs (k : Nat) (μ : MemT) : WsT := itr (mwP k μ) 8 0 (wAdd (isW k μ (-6) 0) (-6) 0 (μ 75, μ 76, 0))
def mFind (k : Nat) (μ : MemT) : MemT := mPut (mWs k μ) μ
theorem wAdd_1 (b : Bool) (x d : Int32) (w : WsT) : (wAdd b x d w).2.2 ≤ w.2.2 + 1 := by
  unfold wAdd
  split
  · exact Nat.le_refl _
  · exact Nat.le_succ _
theorem mwS_le (k : Nat) (μ : MemT) (p : Nat) {j B : Nat} {w : WsT} (hj : j < 19) (h : w.2.2 ≤ B + (if j ≤ 9 then j else j - 1)) : (mwS k μ p j w).2.2 ≤ B + (if j + 1 ≤ 9 then j + 1 else j + 1 - 1) := by
  unfold mwS
  split
  · rename_i q
    have h9 : j ≠ 9 := fun e => q.2.1 (by rw [e]; rfl)
    have := wAdd_1 true (nI p) (dI j) w
    split at h <;> split <;> omega
  · split at h <;> split <;> omega
theorem mwP_le (k : Nat) (μ : MemT) (p : Nat) {B : Nat} {w : WsT} (h : w.2.2 ≤ B) : (mwP k μ p w).2.2 ≤ B + 18 := by
  have key : ∀ (n j : Nat) (w : WsT), j + n = 19 → w.2.2 ≤ B + (if j ≤ 9 then j else j - 1) → (itr (mwS k μ p) n j w).2.2 ≤ B + 18 := by
    intro n
    induction n with
    | zero => intro j w hj h; have : j = 19 := by omega
              subst this; rw [itr_0]; simpa using h
    | succ n ih => intro j w hj h; rw [itr_S]; exact ih (j + 1) _ (by omega) (mwS_le k μ p (by omega) h)
  exact key 19 0 w rfl (by simpa using h)
theorem mWs_le (k : Nat) (μ : MemT) : (mWs k μ).2.2 ≤ 145 := by
  have key : ∀ (n j : Nat) (w : WsT), j + n = 8 → w.2.2 ≤ 1 + 18 * j → (itr (mwP k μ) n j w).2.2 ≤ 145 := by
    intro n
    induction n with
    | zero => intro j w hj h; rw [itr_0]; omega
    | succ n ih => intro j w hj h; rw [itr_S]; exact ih (j + 1) _ (by omega) (by have := mwP_le k μ j h; omega)
  exact key 8 0 _ rfl (wAdd_1 _ _ _ _)
theorem mFind_36 (k : Nat) (μ : MemT) : mFind k μ 58 36 = nI (mWs k μ).2.2 := mPut_36 _ _
theorem mFind_75 (k : Nat) (μ : MemT) : mFind k μ 75 = (mWs k μ).1 := mPut_75 _ _
theorem mFind_76 (k : Nat) (μ : MemT) : mFind k μ 76 = (mWs k μ).2.1 := mPut_76 _ _
def aiI (w : Nat → Int32) (j : Nat) (m : Int32) : Int32 := m ||| (if w j < 0 then (0 : Int32) else 1 <<< (w j &&& 31))
def mAirs (k : Nat) (w : Int32) (μ : MemT) : Int32 × MemT := if inR w 0 1 = false then (-2, μ) else (if w = 0 then nI (mWs k μ).2.2 else itr (aiI (mWs k μ).1) (mWs k μ).2.2 0 0, mFind k μ)
def mAirV (x : Int32) (w : WsT) : Int32 := match fnd (fun j => decide (w.1 j = x)) w.2.2 0 with
  | none => -6
  | some j => w.2.1 j + 100
def mAir (k : Nat) (x : Int32) (μ : MemT) : Int32 × MemT := if isP (μ 58 0) x = false then (-1, μ) else (mAirV x (mWs k μ), mFind k μ)
def mlS (x y : Int32) (μ : MemT) (j : Nat) (w : Int32 × Int32) : Int32 × Int32 := (w.1 + (if haI (μ 58 0) (μ 59) (1 <<< (x &&& 31)) (1 <<< (y &&& 31)) (μ 75 j) (μ 76 j) = 0 then 1 else 0), w.2 + (if haI (μ 58 0) (μ 59) (1 <<< (x &&& 31)) (1 <<< (y &&& 31)) (μ 75 j) (μ 76 j) = 1 then 1 else 0))
def mlR (c : Nat) (x y : Int32) (μ : MemT) : Int32 × Int32 := itr (mlS x y μ) c 0 (0, 0)
def mxI (a b : Int32) : Int32 := if a ≤ b then b else a
def mLeft (c : Nat) (x y : Int32) (μ : MemT) : Int32 := mxI (nI c - (mlR c x y μ).1 - (mlR c x y μ).2) (mxI (mlR c x y μ).1 (mlR c x y μ).2)
def crS (c : Nat) (m : MemT) (p q : Nat) (w : Int32 × Int32) : Int32 × Int32 := if ¬ m 58 36 ≤ 0 ∧ (isP (m 58 0) (nI p) && isP (m 58 0) (nI q) && !decide (nI p = nI q)) = true ∧ (w.1 < 0 ∨ ¬ w.2 ≤ mLeft c (nI p) (nI q) m) then (10 * nI p + nI q, mLeft c (nI p) (nI q) m) else w
def crP (c : Nat) (m : MemT) (p : Nat) (w : Int32 × Int32) : Int32 × Int32 := itr (crS c m p) (8 - (p + 1)) (p + 1) w
def crR (c : Nat) (m : MemT) : Int32 × Int32 := itr (crP c m) 8 0 (-6, 0)
def mCross (k : Nat) (w : Int32) (μ : MemT) : Int32 × MemT := if inR w 0 1 = false then (-2, μ) else (if (crR (mWs k μ).2.2 (mFind k μ)).1 < 0 ∨ w = 0 then (crR (mWs k μ).2.2 (mFind k μ)).1 else (crR (mWs k μ).2.2 (mFind k μ)).2, mFind k μ)

set_option maxRecDepth 100000 in
set_option maxHeartbeats 4000000 in
theorem kX8_areSides {l : Launch} {G : GT} {μ : MemT} {x y : Int32} : sw_Met l G yX8_areSides cX8_areSides 3 (some .boolean) (rmk 1 25) [.ref (G.2.1 58), .int x, .int y] μ (fun v μ2 => v = some (.int (bI (arS x y (μ 58 0)))) ∧ μ2 = μ) := by
  refine sw_Met.ofY (by decide) (Nat.le_of_ble_eq_true rfl) rfl ?_
  refine y_iload_n dX8_areSides_0 rfl rfl ?_
  refine y_i2l dX8_areSides_1 ?_
  refine y_lconst dX8_areSides_2 lc_1 ?_
  refine y_ldc2 dX8_areSides_3 wm_cl_X8_247 ?_
  refine y_cS3 dX8_areSides_6 meX8_in wm_ml_X8_77 (kX8_in (A := 1) (B := 255) rfl rfl) ⟨Nat.le_of_ble_eq_true rfl, Nat.le_of_ble_eq_true rfl⟩ ⟨rfl, rfl⟩ (Nat.le_of_ble_eq_true rfl) (fun v6 μ6 hp6 => ?_)
  obtain ⟨rfl, he6⟩ := hp6
  replace he6 := he6.symm
  subst he6
  refine y_ri ?_
  refine y_ifb_eq 47 dX8_areSides_9 (by decide) (fun h9 => ?_) (fun h9 => ?_)
  · refine y_iconst dX8_areSides_47 ic_0 ?_
    refine y_zret dX8_areSides_48 rfl ?_
    refine ⟨e_b0 ?_, rfl⟩
    simp_all [arS, subI]
  · refine y_iload_n dX8_areSides_12 rfl rfl ?_
    refine y_i2l dX8_areSides_13 ?_
    refine y_lconst dX8_areSides_14 lc_1 ?_
    refine y_ldc2 dX8_areSides_15 wm_cl_X8_247 ?_
    refine y_cS3 dX8_areSides_18 meX8_in wm_ml_X8_77 (kX8_in (A := 1) (B := 255) rfl rfl) ⟨Nat.le_of_ble_eq_true rfl, Nat.le_of_ble_eq_true rfl⟩ ⟨rfl, rfl⟩ (Nat.le_of_ble_eq_true rfl) (fun v18 μ18 hp18 => ?_)
    obtain ⟨rfl, he18⟩ := hp18
    replace he18 := he18.symm
    subst he18
    refine y_ri ?_
    refine y_ifb_eq 47 dX8_areSides_21 (by decide) (fun h21 => ?_) (fun h21 => ?_)
    · refine y_iconst dX8_areSides_47 ic_0 ?_
      refine y_zret dX8_areSides_48 rfl ?_
      refine ⟨e_b0 ?_, rfl⟩
      simp_all [arS, subI]
    · refine y_iload_n dX8_areSides_24 rfl rfl ?_
      refine y_iload_n dX8_areSides_25 rfl rfl ?_
      refine y_ior dX8_areSides_26 ?_
      refine y_aload_n dX8_areSides_27 rfl rfl ?_
      refine y_geti dX8_areSides_28 0 clX8 kd_58 (by decide) wm_fl_X8_81 rfl rfl ?_
      refine y_iconst dX8_areSides_31 ic_m1 ?_
      refine y_ixor dX8_areSides_32 ?_
      refine y_iand dX8_areSides_33 ?_
      refine y_if_ne 47 dX8_areSides_34 (by decide) (fun h34 => ?_) (fun h34 => ?_)
      · refine y_iconst dX8_areSides_47 ic_0 ?_
        refine y_zret dX8_areSides_48 rfl ?_
        refine ⟨e_b0 ?_, rfl⟩
        simp_all [arS, subI]
      · refine y_iload_n dX8_areSides_37 rfl rfl ?_
        refine y_iload_n dX8_areSides_38 rfl rfl ?_
        refine y_iand dX8_areSides_39 ?_
        refine y_if_ne 47 dX8_areSides_40 (by decide) (fun h40 => ?_) (fun h40 => ?_)
        · refine y_iconst dX8_areSides_47 ic_0 ?_
          refine y_zret dX8_areSides_48 rfl ?_
          refine ⟨e_b0 ?_, rfl⟩
          simp_all [arS, subI]
        · refine y_iconst dX8_areSides_43 ic_1 ?_
          refine y_goto 48 dX8_areSides_44 (by decide) ?_
          refine y_zret dX8_areSides_48 rfl ?_
          refine ⟨e_b1 ?_, rfl⟩
          simp_all [arS, subI]

set_option maxRecDepth 100000 in
set_option maxHeartbeats 4000000 in
theorem kX8_seen {l : Launch} {G : GT} {μ : MemT} {k : Nat} (hk : k ≤ 8) (hs : μ 58 11 = nI k) {x y h : Int32} : sw_Met l G yX8_seen cX8_seen 4 (some .int) (rmk 2 47) [.ref (G.2.1 58), .int x, .int y, .int h] μ (fun v μ2 => v = some (.int (mSeen k x y h μ).1) ∧ μ2 = (mSeen k x y h μ).2) := by
  refine sw_Met.ofY (by decide) (Nat.le_of_ble_eq_true rfl) rfl ?_
  refine y_aload_n dX8_seen_0 rfl rfl ?_
  refine y_iload_n dX8_seen_1 rfl rfl ?_
  refine y_iload_n dX8_seen_2 rfl rfl ?_
  refine y_cV2 dX8_seen_3 meX8_areSides clX8 kd_58 wm_ml_X8_249 (kX8_areSides) ⟨Nat.le_of_ble_eq_true rfl, Nat.le_of_ble_eq_true rfl⟩ ⟨rfl, rfl⟩ (Nat.le_of_ble_eq_true rfl) (fun v3 μ3 hp3 => ?_)
  obtain ⟨rfl, he3⟩ := hp3
  replace he3 := he3.symm
  subst he3
  refine y_ri ?_
  refine y_ifb_ne 11 dX8_seen_6 (by decide) (fun h6 => ?_) (fun h6 => ?_)
  · refine y_iload_n dX8_seen_11 rfl rfl ?_
    refine y_i2l dX8_seen_12 ?_
    refine y_lconst dX8_seen_13 lc_0 ?_
    refine y_ldc2 dX8_seen_14 wm_cl_X8_230 ?_
    refine y_cS3 dX8_seen_17 meX8_in wm_ml_X8_77 (kX8_in (A := 0) (B := 2) rfl rfl) ⟨Nat.le_of_ble_eq_true rfl, Nat.le_of_ble_eq_true rfl⟩ ⟨rfl, rfl⟩ (Nat.le_of_ble_eq_true rfl) (fun v17 μ17 hp17 => ?_)
    obtain ⟨rfl, he17⟩ := hp17
    replace he17 := he17.symm
    subst he17
    refine y_ri ?_
    refine y_ifb_ne 26 dX8_seen_20 (by decide) (fun h20 => ?_) (fun h20 => ?_)
    · refine y_aload_n dX8_seen_26 rfl rfl ?_
      refine y_geti dX8_seen_27 11 clX8 kd_58 (by decide) wm_fl_X8_252 rfl rfl ?_
      refine y_bipush dX8_seen_30 ib_8 ?_
      refine y_icmp_ne 38 dX8_seen_32 (by decide) (fun h32 => ?_) (fun h32 => ?_)
      · have hk2 : ¬ k = 8 := fun q => h32 (by rw [hs, q]; rfl)
        refine y_aload_n dX8_seen_38 rfl rfl ?_
        refine y_getr dX8_seen_39 8 clX8 kd_58 (by decide) wm_fl_X8_22 rfl rfl ?_
        refine y_aload_n dX8_seen_42 rfl rfl ?_
        refine y_geti dX8_seen_43 11 clX8 kd_58 (by decide) wm_fl_X8_252 rfl rfl ?_
        refine y_iload_n dX8_seen_46 rfl rfl ?_
        refine y_iast dX8_seen_47 k kd_63 hs (by omega) (by decide) ?_
        refine y_aload_n dX8_seen_48 rfl rfl ?_
        refine y_getr dX8_seen_49 9 clX8 kd_58 (by decide) wm_fl_X8_25 rfl rfl ?_
        refine y_aload_n dX8_seen_52 rfl rfl ?_
        refine y_geti dX8_seen_53 11 clX8 kd_58 (by decide) wm_fl_X8_252 rfl rfl ?_
        refine y_iload_n dX8_seen_56 rfl rfl ?_
        refine y_iast dX8_seen_57 k kd_64 hs (by omega) (by decide) ?_
        refine y_aload_n dX8_seen_58 rfl rfl ?_
        refine y_getr dX8_seen_59 10 clX8 kd_58 (by decide) wm_fl_X8_28 rfl rfl ?_
        refine y_aload_n dX8_seen_62 rfl rfl ?_
        refine y_geti dX8_seen_63 11 clX8 kd_58 (by decide) wm_fl_X8_252 rfl rfl ?_
        refine y_iload_n dX8_seen_66 rfl rfl ?_
        refine y_iast dX8_seen_67 k kd_65 hs (by omega) (by decide) ?_
        refine y_aload_n dX8_seen_68 rfl rfl ?_
        refine y_dup dX8_seen_69 rfl ?_
        refine y_geti dX8_seen_70 11 clX8 kd_58 (by decide) wm_fl_X8_252 rfl rfl ?_
        refine y_iconst dX8_seen_73 ic_1 ?_
        refine y_iadd dX8_seen_74 ?_
        refine y_puti dX8_seen_75 11 clX8 kd_58 (by decide) wm_fl_X8_252 rfl rfl rfl rfl (tyX8_ok 11 (by decide)) rfl rfl ?_
        refine y_aload_n dX8_seen_78 rfl rfl ?_
        refine y_geti dX8_seen_79 11 clX8 kd_58 (by decide) wm_fl_X8_252 rfl rfl ?_
        refine y_iret dX8_seen_82 ?_
        constructor <;> simp_all [mSeen, mset_mset, mset, upd, nI_1]
      · have hk2 : k = 8 := by rw [hs] at h32; exact (nI_eq (b := 8) (by omega) (by decide)).mp h32
        refine y_bipush dX8_seen_35 ib_m4 ?_
        refine y_iret dX8_seen_37 ?_
        constructor <;> simp_all [mSeen, mset_mset, mset, upd, nI_1]
    · refine y_bipush dX8_seen_23 ib_m2 ?_
      refine y_iret dX8_seen_25 ?_
      constructor <;> simp_all [mSeen, mset_mset, mset, upd, nI_1]
  · refine y_iconst dX8_seen_9 ic_m1 ?_
    refine y_iret dX8_seen_10 ?_
    constructor <;> simp_all [mSeen, mset_mset, mset, upd, nI_1]

set_option maxRecDepth 100000 in
set_option maxHeartbeats 4000000 in
theorem kX8_forget {l : Launch} {G : GT} {μ : MemT}  : sw_Met l G yX8_forget cX8_forget 2 (some .int) (rmk 0 0) [.ref (G.2.1 58)] μ (fun v μ2 => v = some (.int (mForget μ).1) ∧ μ2 = (mForget μ).2) := by
  refine sw_Met.ofY (by decide) (Nat.le_of_ble_eq_true rfl) rfl ?_
  refine y_aload_n dX8_forget_0 rfl rfl ?_
  refine y_geti dX8_forget_1 11 clX8 kd_58 (by decide) wm_fl_X8_252 rfl rfl ?_
  refine y_istore_n dX8_forget_4 rfl rfl (by decide) ?_
  refine y_aload_n dX8_forget_5 rfl rfl ?_
  refine y_iconst dX8_forget_6 ic_0 ?_
  refine y_puti dX8_forget_7 11 clX8 kd_58 (by decide) wm_fl_X8_252 rfl rfl rfl rfl (tyX8_ok 11 (by decide)) rfl rfl ?_
  refine y_iload_n dX8_forget_10 rfl rfl ?_
  refine y_iret dX8_forget_11 ?_
  exact ⟨rfl, rfl⟩

set_option maxRecDepth 100000 in
set_option maxHeartbeats 4000000 in
theorem kX8_airyOf {l : Launch} {G : GT} {μ : MemT} {s x d : Int32} : sw_Met l G yX8_airyOf cX8_airyOf 7 (some .int) (rmk 0 0) [.ref (G.2.1 58), .int s, .int x, .int d] μ (fun v μ2 => v = some (.int (ayI (μ 58 0) (μ 59) s x d)) ∧ μ2 = μ) := by
  refine sw_Met.ofY (by decide) (Nat.le_of_ble_eq_true rfl) rfl ?_
  refine y_iconst dX8_airyOf_0 ic_0 ?_
  refine y_istore dX8_airyOf_1 rfl (by decide) ?_
  refine y_iconst (v := nI 0) dX8_airyOf_3 icn_0 ?_
  refine y_istore dX8_airyOf_4 rfl (by decide) ?_
  refine y_loop1 (fun (j : Nat) (a : Int32) => [some (.ref (G.2.1 58)), some (.int s), some (.int x), some (.int d), some (.int a), some (.int (nI j)), none]) (fun (j : Nat) (a : Int32) => μ) (fun (j : Nat) (a : Int32) => itr (fun p a => a + (if bt (s &&& μ 58 0) p then μ 59 p + (if nI p = x then d else 0) else 0)) (8 - j) j a = itr (fun p a => a + (if bt (s &&& μ 58 0) p then μ 59 p + (if nI p = x then d else 0) else 0)) 8 0 (0)) 8 (fun a hv6 => ?_) (fun j a hj hv6 ih6 => ?_) 0 (0) (Nat.zero_le _) (rfl)
  · refine y_iload dX8_airyOf_6 rfl ?_
    refine y_bipush dX8_airyOf_8 ib_8 ?_
    refine y_icmp_ge 66 dX8_airyOf_10 (by decide) (fun _ => ?_) (fun hq => absurd (by decide) hq)
    refine y_iload dX8_airyOf_66 rfl ?_
    refine y_iret dX8_airyOf_68 ?_
    exact ⟨by rw [itr_ex hv6]; rfl, rfl⟩
  · refine y_iload dX8_airyOf_6 rfl ?_
    refine y_bipush dX8_airyOf_8 ib_8 ?_
    refine y_icmp_ge 66 dX8_airyOf_10 (by decide) (fun hq => absurd hq (nI_ge (b := 8) hj (by decide))) (fun _ => ?_)
    refine y_aload_n dX8_airyOf_13 rfl rfl ?_
    refine y_getr dX8_airyOf_14 4 clX8 kd_58 (by decide) wm_fl_X8_7 rfl rfl ?_
    refine y_iload dX8_airyOf_17 rfl ?_
    refine y_iald dX8_airyOf_19 j kd_59 rfl (by first | assumption | decide | omega) (by decide) ?_
    refine y_iload dX8_airyOf_20 rfl ?_
    refine y_iload_n dX8_airyOf_22 rfl rfl ?_
    refine y_icmp_ne 30 dX8_airyOf_23 (by decide) (fun h23 => ?_) (fun h23 => ?_)
    · refine y_iconst dX8_airyOf_30 ic_0 ?_
      refine y_iadd dX8_airyOf_31 ?_
      refine y_istore dX8_airyOf_32 rfl (by decide) ?_
      refine y_iload dX8_airyOf_34 rfl ?_
      refine y_iload_n dX8_airyOf_36 rfl rfl ?_
      refine y_aload_n dX8_airyOf_37 rfl rfl ?_
      refine y_geti dX8_airyOf_38 0 clX8 kd_58 (by decide) wm_fl_X8_81 rfl rfl ?_
      refine y_iand dX8_airyOf_41 ?_
      refine y_iload dX8_airyOf_42 rfl ?_
      refine y_ishr dX8_airyOf_44 ?_
      refine y_iconst dX8_airyOf_45 ic_1 ?_
      refine y_iand dX8_airyOf_46 ?_
      refine y_iconst dX8_airyOf_47 ic_1 ?_
      refine y_icmp_ne 56 dX8_airyOf_48 (by decide) (fun h48 => ?_) (fun h48 => ?_)
      · refine y_iconst dX8_airyOf_56 ic_0 ?_
        refine y_iadd dX8_airyOf_57 ?_
        refine y_istore dX8_airyOf_58 rfl (by decide) ?_
        refine y_iinc (v := nI (j + 1)) dX8_airyOf_60 rfl (nI_i1 _) rfl (by decide) ?_
        refine y_goto 6 dX8_airyOf_63 (by decide) ?_
        exact y_drop 6 (ih6 _ (itr_nx hj hv6 (by clear ih6 hv6; simp_all [bt, bitI])))
      · refine y_iload dX8_airyOf_51 rfl ?_
        refine y_goto 57 dX8_airyOf_53 (by decide) ?_
        refine y_iadd dX8_airyOf_57 ?_
        refine y_istore dX8_airyOf_58 rfl (by decide) ?_
        refine y_iinc (v := nI (j + 1)) dX8_airyOf_60 rfl (nI_i1 _) rfl (by decide) ?_
        refine y_goto 6 dX8_airyOf_63 (by decide) ?_
        exact y_drop 6 (ih6 _ (itr_nx hj hv6 (by clear ih6 hv6; simp_all [bt, bitI])))
    · refine y_iload_n dX8_airyOf_26 rfl rfl ?_
      refine y_goto 31 dX8_airyOf_27 (by decide) ?_
      refine y_iadd dX8_airyOf_31 ?_
      refine y_istore dX8_airyOf_32 rfl (by decide) ?_
      refine y_iload dX8_airyOf_34 rfl ?_
      refine y_iload_n dX8_airyOf_36 rfl rfl ?_
      refine y_aload_n dX8_airyOf_37 rfl rfl ?_
      refine y_geti dX8_airyOf_38 0 clX8 kd_58 (by decide) wm_fl_X8_81 rfl rfl ?_
      refine y_iand dX8_airyOf_41 ?_
      refine y_iload dX8_airyOf_42 rfl ?_
      refine y_ishr dX8_airyOf_44 ?_
      refine y_iconst dX8_airyOf_45 ic_1 ?_
      refine y_iand dX8_airyOf_46 ?_
      refine y_iconst dX8_airyOf_47 ic_1 ?_
      refine y_icmp_ne 56 dX8_airyOf_48 (by decide) (fun h48 => ?_) (fun h48 => ?_)
      · refine y_iconst dX8_airyOf_56 ic_0 ?_
        refine y_iadd dX8_airyOf_57 ?_
        refine y_istore dX8_airyOf_58 rfl (by decide) ?_
        refine y_iinc (v := nI (j + 1)) dX8_airyOf_60 rfl (nI_i1 _) rfl (by decide) ?_
        refine y_goto 6 dX8_airyOf_63 (by decide) ?_
        exact y_drop 6 (ih6 _ (itr_nx hj hv6 (by clear ih6 hv6; simp_all [bt, bitI])))
      · refine y_iload dX8_airyOf_51 rfl ?_
        refine y_goto 57 dX8_airyOf_53 (by decide) ?_
        refine y_iadd dX8_airyOf_57 ?_
        refine y_istore dX8_airyOf_58 rfl (by decide) ?_
        refine y_iinc (v := nI (j + 1)) dX8_airyOf_60 rfl (nI_i1 _) rfl (by decide) ?_
        refine y_goto 6 dX8_airyOf_63 (by decide) ?_
        exact y_drop 6 (ih6 _ (itr_nx hj hv6 (by clear ih6 hv6; simp_all [bt, bitI])))

set_option maxRecDepth 100000 in
set_option maxHeartbeats 4000000 in
theorem kX8_howAcross {l : Launch} {G : GT} {μ : MemT} {a b x d : Int32} : sw_Met l G yX8_howAcross cX8_howAcross 6 (some .int) (rmk 1 26) [.ref (G.2.1 58), .int a, .int b, .int x, .int d] μ (fun v μ2 => v = some (.int (haI (μ 58 0) (μ 59) a b x d)) ∧ μ2 = μ) := by
  refine sw_Met.ofY (by decide) (Nat.le_of_ble_eq_true rfl) rfl ?_
  refine y_aload_n dX8_howAcross_0 rfl rfl ?_
  refine y_iload_n dX8_howAcross_1 rfl rfl ?_
  refine y_iload_n dX8_howAcross_2 rfl rfl ?_
  refine y_iload dX8_howAcross_3 rfl ?_
  refine y_cV3 dX8_howAcross_5 meX8_airyOf clX8 kd_58 wm_ml_X8_255 (kX8_airyOf) ⟨Nat.le_of_ble_eq_true rfl, Nat.le_of_ble_eq_true rfl⟩ ⟨rfl, rfl⟩ (Nat.le_of_ble_eq_true rfl) (fun v5 μ5 hp5 => ?_)
  obtain ⟨rfl, he5⟩ := hp5
  replace he5 := he5.symm
  subst he5
  refine y_ri ?_
  refine y_aload_n dX8_howAcross_8 rfl rfl ?_
  refine y_iload_n dX8_howAcross_9 rfl rfl ?_
  refine y_iload_n dX8_howAcross_10 rfl rfl ?_
  refine y_iload dX8_howAcross_11 rfl ?_
  refine y_cV3 dX8_howAcross_13 meX8_airyOf clX8 kd_58 wm_ml_X8_255 (kX8_airyOf) ⟨Nat.le_of_ble_eq_true rfl, Nat.le_of_ble_eq_true rfl⟩ ⟨rfl, rfl⟩ (Nat.le_of_ble_eq_true rfl) (fun v13 μ13 hp13 => ?_)
  obtain ⟨rfl, he13⟩ := hp13
  replace he13 := he13.symm
  subst he13
  refine y_ri ?_
  refine y_isub dX8_howAcross_16 ?_
  refine y_istore dX8_howAcross_17 rfl (by decide) ?_
  refine y_iload dX8_howAcross_19 rfl ?_
  refine y_if_ge 28 dX8_howAcross_21 (by decide) (fun h21 => ?_) (fun h21 => ?_)
  · refine y_iload dX8_howAcross_28 rfl ?_
    refine y_if_ne 37 dX8_howAcross_30 (by decide) (fun h30 => ?_) (fun h30 => ?_)
    · refine y_iconst dX8_howAcross_37 ic_2 ?_
      refine y_iret dX8_howAcross_38 ?_
      exact ⟨by simp_all [-Int32.not_le, -Int32.not_lt, haI], rfl⟩
    · refine y_iconst dX8_howAcross_33 ic_1 ?_
      refine y_goto 38 dX8_howAcross_34 (by decide) ?_
      refine y_iret dX8_howAcross_38 ?_
      exact ⟨by simp_all [-Int32.not_le, -Int32.not_lt, haI], rfl⟩
  · refine y_iconst dX8_howAcross_24 ic_0 ?_
    refine y_goto 38 dX8_howAcross_25 (by decide) ?_
    refine y_iret dX8_howAcross_38 ?_
    exact ⟨by simp_all [-Int32.not_le, -Int32.not_lt, haI], rfl⟩

set_option maxRecDepth 100000 in
set_option maxHeartbeats 4000000 in
theorem kX8_isWorld {l : Launch} {G : GT} {μ : MemT} {k : Nat} (hk : k ≤ 8) (hs : μ 58 11 = nI k) {x d : Int32} : sw_Met l G yX8_isWorld cX8_isWorld 5 (some .boolean) (rmk 2 51) [.ref (G.2.1 58), .int x, .int d] μ (fun v μ2 => v = some (.int (bI (isW k μ x d))) ∧ μ2 = μ) := by
  refine sw_Met.ofY (by decide) (Nat.le_of_ble_eq_true rfl) rfl ?_
  refine y_iconst dX8_isWorld_0 ic_1 ?_
  refine y_istore_n dX8_isWorld_1 rfl rfl (by decide) ?_
  refine y_iconst (v := nI 0) dX8_isWorld_2 icn_0 ?_
  refine y_istore dX8_isWorld_3 rfl (by decide) ?_
  refine y_loop1 (fun (j : Nat) (b : Bool) => [some (.ref (G.2.1 58)), some (.int x), some (.int d), some (.int (bI b)), some (.int (nI j))]) (fun (j : Nat) (b : Bool) => μ) (fun (j : Nat) (b : Bool) => itr (iwS μ x d) (k - j) j b = isW k μ x d) k (fun b hv5 => ?_) (fun j b hj hv5 ih5 => ?_) 0 (true) (Nat.zero_le _) (rfl)
  · refine y_iload dX8_isWorld_5 rfl ?_
    refine y_aload_n dX8_isWorld_7 rfl rfl ?_
    refine y_geti dX8_isWorld_8 11 clX8 kd_58 (by decide) wm_fl_X8_252 rfl rfl ?_
    refine y_icmp_ge 60 dX8_isWorld_11 (by decide) (fun _ => ?_) (fun hq => absurd (by rw [hs]; exact Int32.le_refl _) hq)
    refine y_iload_n dX8_isWorld_60 rfl rfl ?_
    refine y_zret dX8_isWorld_61 (bI_nar _) ?_
    exact ⟨by rw [itr_ex hv5], rfl⟩
  · refine y_iload dX8_isWorld_5 rfl ?_
    refine y_aload_n dX8_isWorld_7 rfl rfl ?_
    refine y_geti dX8_isWorld_8 11 clX8 kd_58 (by decide) wm_fl_X8_252 rfl rfl ?_
    refine y_icmp_ge 60 dX8_isWorld_11 (by decide) (fun hq => absurd (by rw [hs] at hq; exact hq) (nI_ge hj (by omega))) (fun _ => ?_)
    refine y_iload_n dX8_isWorld_14 rfl rfl ?_
    refine y_ifb_eq 52 dX8_isWorld_15 (by decide) (fun h15 => ?_) (fun h15 => ?_)
    · refine y_iconst dX8_isWorld_52 ic_0 ?_
      refine y_istore_n dX8_isWorld_53 rfl rfl (by decide) ?_
      refine y_iinc (v := nI (j + 1)) dX8_isWorld_54 rfl (nI_i1 _) rfl (by decide) ?_
      refine y_goto 5 dX8_isWorld_57 (by decide) ?_
      exact ih5 false (itr_nx hj hv5 (by clear ih5 hv5; simp_all [iwS]))
    · refine y_aload_n dX8_isWorld_18 rfl rfl ?_
      refine y_aload_n dX8_isWorld_19 rfl rfl ?_
      refine y_getr dX8_isWorld_20 8 clX8 kd_58 (by decide) wm_fl_X8_22 rfl rfl ?_
      refine y_iload dX8_isWorld_23 rfl ?_
      refine y_iald dX8_isWorld_25 j kd_63 rfl (by omega) (by decide) ?_
      refine y_aload_n dX8_isWorld_26 rfl rfl ?_
      refine y_getr dX8_isWorld_27 9 clX8 kd_58 (by decide) wm_fl_X8_25 rfl rfl ?_
      refine y_iload dX8_isWorld_30 rfl ?_
      refine y_iald dX8_isWorld_32 j kd_64 rfl (by omega) (by decide) ?_
      refine y_iload_n dX8_isWorld_33 rfl rfl ?_
      refine y_iload_n dX8_isWorld_34 rfl rfl ?_
      refine y_cV4 dX8_isWorld_35 meX8_howAcross clX8 kd_58 wm_ml_X8_259 (kX8_howAcross) ⟨Nat.le_of_ble_eq_true rfl, Nat.le_of_ble_eq_true rfl⟩ ⟨rfl, rfl⟩ (Nat.le_of_ble_eq_true rfl) (fun v35 μ35 hp35 => ?_)
      obtain ⟨rfl, he35⟩ := hp35
      replace he35 := he35.symm
      subst he35
      refine y_ri ?_
      refine y_aload_n dX8_isWorld_38 rfl rfl ?_
      refine y_getr dX8_isWorld_39 10 clX8 kd_58 (by decide) wm_fl_X8_28 rfl rfl ?_
      refine y_iload dX8_isWorld_42 rfl ?_
      refine y_iald dX8_isWorld_44 j kd_65 rfl (by omega) (by decide) ?_
      refine y_icmp_ne 52 dX8_isWorld_45 (by decide) (fun h45 => ?_) (fun h45 => ?_)
      · refine y_iconst dX8_isWorld_52 ic_0 ?_
        refine y_istore_n dX8_isWorld_53 rfl rfl (by decide) ?_
        refine y_iinc (v := nI (j + 1)) dX8_isWorld_54 rfl (nI_i1 _) rfl (by decide) ?_
        refine y_goto 5 dX8_isWorld_57 (by decide) ?_
        exact ih5 false (itr_nx hj hv5 (by clear ih5 hv5; simp_all [iwS]))
      · refine y_iconst dX8_isWorld_48 ic_1 ?_
        refine y_goto 53 dX8_isWorld_49 (by decide) ?_
        refine y_istore_n dX8_isWorld_53 rfl rfl (by decide) ?_
        refine y_iinc (v := nI (j + 1)) dX8_isWorld_54 rfl (nI_i1 _) rfl (by decide) ?_
        refine y_goto 5 dX8_isWorld_57 (by decide) ?_
        exact ih5 true (itr_nx hj hv5 (by clear ih5 hv5; simp_all [iwS]))

set_option maxRecDepth 100000 in
set_option maxHeartbeats 4000000 in
theorem kX8_addWorld {l : Launch} {G : GT} {μ : MemT} {c : Nat} (hc145 : c < 145) (hc : μ 58 36 = nI c) {x d : Int32} : sw_Met l G yX8_addWorld cX8_addWorld 3 none (rmk 0 0) [.ref (G.2.1 58), .int x, .int d] μ (fun v μ2 => v = none ∧ μ2 = mPut (wAdd true x d (μ 75, μ 76, c)) μ) := by
  refine sw_Met.ofY (by decide) (Nat.le_of_ble_eq_true rfl) rfl ?_
  refine y_aload_n dX8_addWorld_0 rfl rfl ?_
  refine y_getr dX8_addWorld_1 34 clX8 kd_58 (by decide) wm_fl_X8_59 rfl rfl ?_
  refine y_aload_n dX8_addWorld_4 rfl rfl ?_
  refine y_geti dX8_addWorld_5 36 clX8 kd_58 (by decide) wm_fl_X8_263 rfl rfl ?_
  refine y_iload_n dX8_addWorld_8 rfl rfl ?_
  refine y_iast dX8_addWorld_9 c kd_75 hc hc145 (by decide) ?_
  refine y_aload_n dX8_addWorld_10 rfl rfl ?_
  refine y_getr dX8_addWorld_11 35 clX8 kd_58 (by decide) wm_fl_X8_62 rfl rfl ?_
  refine y_aload_n dX8_addWorld_14 rfl rfl ?_
  refine y_geti dX8_addWorld_15 36 clX8 kd_58 (by decide) wm_fl_X8_263 rfl rfl ?_
  refine y_iload_n dX8_addWorld_18 rfl rfl ?_
  refine y_iast dX8_addWorld_19 c kd_76 hc hc145 (by decide) ?_
  refine y_aload_n dX8_addWorld_20 rfl rfl ?_
  refine y_dup dX8_addWorld_21 rfl ?_
  refine y_geti dX8_addWorld_22 36 clX8 kd_58 (by decide) wm_fl_X8_263 rfl rfl ?_
  refine y_iconst dX8_addWorld_25 ic_1 ?_
  refine y_iadd dX8_addWorld_26 ?_
  refine y_puti dX8_addWorld_27 36 clX8 kd_58 (by decide) wm_fl_X8_263 rfl rfl rfl rfl (tyX8_ok 36 (by decide)) rfl rfl ?_
  refine y_vret dX8_addWorld_30 ?_
  refine ⟨rfl, ?_⟩
  rw [wAdd, if_pos ⟨hc145, rfl⟩]
  simp [mPut, hc, nI_1, mset_mset, mset]

set_option maxRecDepth 100000 in
set_option maxHeartbeats 4000000 in
theorem kX8_findWorlds {l : Launch} {G : GT} {μ : MemT} {k : Nat} (hk : k ≤ 8) (hs : μ 58 11 = nI k)  : sw_Met l G yX8_findWorlds cX8_findWorlds 3 none (rmk 3 75) [.ref (G.2.1 58)] μ (fun v μ2 => v = none ∧ μ2 = mFind k μ) := by
  refine sw_Met.ofY (by decide) (Nat.le_of_ble_eq_true rfl) rfl ?_
  refine y_aload_n dX8_findWorlds_0 rfl rfl ?_
  refine y_iconst dX8_findWorlds_1 ic_0 ?_
  refine y_puti dX8_findWorlds_2 36 clX8 kd_58 (by decide) wm_fl_X8_263 rfl rfl rfl rfl (tyX8_ok 36 (by decide)) rfl rfl ?_
  refine y_aload_n dX8_findWorlds_5 rfl rfl ?_
  refine y_eq (show _ = mPut (μ 75, μ 76, 0) μ by simp only [mPut]; rw [mset_same μ 75, mset_same μ 76]; rfl) rfl rfl ?_
  refine y_bipush dX8_findWorlds_6 ib_m6 ?_
  refine y_iconst dX8_findWorlds_8 ic_0 ?_
  refine y_cV2 dX8_findWorlds_9 meX8_isWorld clX8 kd_58 wm_ml_X8_266 (kX8_isWorld hk (by exact hs)) ⟨Nat.le_of_ble_eq_true rfl, Nat.le_of_ble_eq_true rfl⟩ ⟨rfl, rfl⟩ (Nat.le_of_ble_eq_true rfl) (fun v9 μ9 hp9 => ?_)
  obtain ⟨rfl, he9⟩ := hp9
  replace he9 := he9.symm
  subst he9
  refine y_ri ?_
  refine y_ifb_eq 22 dX8_findWorlds_12 (by decide) (fun h12 => ?_) (fun h12 => ?_)
  · refine y_iconst (v := nI 0) dX8_findWorlds_22 icn_0 ?_
    refine y_istore_n dX8_findWorlds_23 rfl rfl (by decide) ?_
    refine y_eq (show _ = mPut (wAdd (isW k μ (-6) 0) (-6) 0 (μ 75, μ 76, 0)) μ by rw [show isW k μ (-6) 0 = false from h12]; rw [wAdd, if_neg (fun q => absurd q.2 (by decide))]) rfl rfl ?_
    refine y_loop1 (fun (j : Nat) (w : WsT) => [some (.ref (G.2.1 58)), some (.int (nI j)), none]) (fun (j : Nat) (w : WsT) => mPut w μ) (fun (j : Nat) (w : WsT) => itr (mwP k μ) (8 - j) j w = mWs k μ ∧ w.2.2 ≤ 1 + 18 * j) 8 (fun w hv24 => ?_) (fun j w hj hv24 ih24 => ?_) 0 (wAdd (isW k μ (-6) 0) (-6) 0 (μ 75, μ 76, 0)) (Nat.zero_le _) (⟨rfl, wAdd_1 _ _ _ _⟩)
    · refine y_iload_n dX8_findWorlds_24 rfl rfl ?_
      refine y_bipush dX8_findWorlds_25 ib_8 ?_
      refine y_icmp_ge 89 dX8_findWorlds_27 (by decide) (fun _ => ?_) (fun hq => absurd (by decide) hq)
      refine y_vret dX8_findWorlds_89 ?_
      exact ⟨rfl, by rw [mFind, itr_ex hv24.1]⟩
    · refine y_iload_n dX8_findWorlds_24 rfl rfl ?_
      refine y_bipush dX8_findWorlds_25 ib_8 ?_
      refine y_icmp_ge 89 dX8_findWorlds_27 (by decide) (fun hq => absurd hq (nI_ge (b := 8) hj (by decide))) (fun _ => ?_)
      refine y_bipush dX8_findWorlds_30 ib_m9 ?_
      refine y_istore_n dX8_findWorlds_32 rfl rfl (by decide) ?_
      refine y_loop1 (fun (jd : Nat) (u : WsT) => [some (.ref (G.2.1 58)), some (.int (nI j)), some (.int (dI jd))]) (fun (jd : Nat) (u : WsT) => mPut u μ) (fun (jd : Nat) (u : WsT) => itr (mwS k μ j) (19 - jd) jd u = mwP k μ j w ∧ u.2.2 ≤ 1 + 18 * j + (if jd ≤ 9 then jd else jd - 1)) 19 (fun u hv33 => ?_) (fun jd u hjd hv33 ih33 => ?_) 0 (w) (Nat.zero_le _) (⟨rfl, by simpa using hv24.2⟩)
      · have hz := itr_ex hv33.1
        clear hv33
        subst hz
        refine y_iload_n dX8_findWorlds_33 rfl rfl ?_
        refine y_bipush dX8_findWorlds_34 ib_9 ?_
        refine y_icmp_gt 83 dX8_findWorlds_36 (by decide) (fun _ => ?_) (fun hq => absurd (by decide) hq)
        refine y_iinc (v := nI (j + 1)) dX8_findWorlds_83 rfl (nI_i1 _) rfl (by decide) ?_
        refine y_goto 24 dX8_findWorlds_86 (by decide) ?_
        exact y_drop 2 (ih24 _ ⟨itr_nx hj hv24.1 rfl, by have := mwP_le k μ j hv24.2; omega⟩)
      · refine y_iload_n dX8_findWorlds_33 rfl rfl ?_
        refine y_bipush dX8_findWorlds_34 ib_9 ?_
        refine y_icmp_gt 83 dX8_findWorlds_36 (by decide) (fun hq => absurd hq (dI_le hjd)) (fun _ => ?_)
        refine y_aload_n dX8_findWorlds_39 rfl rfl ?_
        refine y_iload_n dX8_findWorlds_40 rfl rfl ?_
        refine y_cV1 dX8_findWorlds_41 meX8_isPerson clX8 kd_58 wm_ml_X8_84 (kX8_isPerson) ⟨Nat.le_of_ble_eq_true rfl, Nat.le_of_ble_eq_true rfl⟩ ⟨rfl, rfl⟩ (Nat.le_of_ble_eq_true rfl) (fun v41 μ41 hp41 => ?_)
        obtain ⟨rfl, he41⟩ := hp41
        replace he41 := he41.symm
        subst he41
        refine y_ri ?_
        refine y_ifb_eq 77 dX8_findWorlds_44 (by decide) (fun h44 => ?_) (fun h44 => ?_)
        · refine y_iinc dX8_findWorlds_77 rfl (ii_1 _) rfl (by decide) ?_
          refine y_goto 33 dX8_findWorlds_80 (by decide) ?_
          exact y_eq (μ2 := mPut (mwS k μ j jd u) μ) (by rw [mwS, if_neg (fun q => absurd (q.1.symm.trans h44) (by decide))]) (by rw [dI_S]; rfl) rfl (ih33 _ ⟨itr_nx hjd hv33.1 rfl, mwS_le k μ j hjd hv33.2⟩)
        · refine y_iload_n dX8_findWorlds_47 rfl rfl ?_
          refine y_if_eq 77 dX8_findWorlds_48 (by decide) (fun h48 => ?_) (fun h48 => ?_)
          · refine y_iinc dX8_findWorlds_77 rfl (ii_1 _) rfl (by decide) ?_
            refine y_goto 33 dX8_findWorlds_80 (by decide) ?_
            exact y_eq (μ2 := mPut (mwS k μ j jd u) μ) (by rw [mwS, if_neg (fun q => q.2.1 h48)]) (by rw [dI_S]; rfl) rfl (ih33 _ ⟨itr_nx hjd hv33.1 rfl, mwS_le k μ j hjd hv33.2⟩)
          · refine y_aload_n dX8_findWorlds_51 rfl rfl ?_
            refine y_getr dX8_findWorlds_52 4 clX8 kd_58 (by decide) wm_fl_X8_7 rfl rfl ?_
            refine y_iload_n dX8_findWorlds_55 rfl rfl ?_
            refine y_iald dX8_findWorlds_56 j kd_59 rfl (by first | assumption | decide | omega) (by decide) ?_
            refine y_iload_n dX8_findWorlds_57 rfl rfl ?_
            refine y_iadd dX8_findWorlds_58 ?_
            refine y_if_le 77 dX8_findWorlds_59 (by decide) (fun h59 => ?_) (fun h59 => ?_)
            · refine y_iinc dX8_findWorlds_77 rfl (ii_1 _) rfl (by decide) ?_
              refine y_goto 33 dX8_findWorlds_80 (by decide) ?_
              exact y_eq (μ2 := mPut (mwS k μ j jd u) μ) (by rw [mwS, if_neg (fun q => q.2.2.1 h59)]) (by rw [dI_S]; rfl) rfl (ih33 _ ⟨itr_nx hjd hv33.1 rfl, mwS_le k μ j hjd hv33.2⟩)
            · refine y_aload_n dX8_findWorlds_62 rfl rfl ?_
              refine y_iload_n dX8_findWorlds_63 rfl rfl ?_
              refine y_iload_n dX8_findWorlds_64 rfl rfl ?_
              refine y_cV2 dX8_findWorlds_65 meX8_isWorld clX8 kd_58 wm_ml_X8_266 (kX8_isWorld hk (by exact hs)) ⟨Nat.le_of_ble_eq_true rfl, Nat.le_of_ble_eq_true rfl⟩ ⟨rfl, rfl⟩ (Nat.le_of_ble_eq_true rfl) (fun v65 μ65 hp65 => ?_)
              obtain ⟨rfl, he65⟩ := hp65
              replace he65 := he65.symm
              subst he65
              refine y_ri ?_
              refine y_ifb_eq 77 dX8_findWorlds_68 (by decide) (fun h68 => ?_) (fun h68 => ?_)
              · refine y_iinc dX8_findWorlds_77 rfl (ii_1 _) rfl (by decide) ?_
                refine y_goto 33 dX8_findWorlds_80 (by decide) ?_
                exact y_eq (μ2 := mPut (mwS k μ j jd u) μ) (by rw [mwS, if_neg (fun q => absurd (q.2.2.2.symm.trans h68) (by decide))]) (by rw [dI_S]; rfl) rfl (ih33 _ ⟨itr_nx hjd hv33.1 rfl, mwS_le k μ j hjd hv33.2⟩)
              · refine y_aload_n dX8_findWorlds_71 rfl rfl ?_
                refine y_iload_n dX8_findWorlds_72 rfl rfl ?_
                refine y_iload_n dX8_findWorlds_73 rfl rfl ?_
                refine y_cV2 dX8_findWorlds_74 meX8_addWorld clX8 kd_58 wm_ml_X8_269 (kX8_addWorld (c := u.2.2) (by have := hv33.2; split at this <;> omega) (mPut_36 _ _)) ⟨Nat.le_of_ble_eq_true rfl, Nat.le_of_ble_eq_true rfl⟩ ⟨rfl, rfl⟩ (Nat.le_of_ble_eq_true rfl) (fun v74 μ74 hp74 => ?_)
                obtain ⟨rfl, he74⟩ := hp74
                replace he74 := he74.symm
                subst he74
                refine y_rv ?_
                refine y_iinc dX8_findWorlds_77 rfl (ii_1 _) rfl (by decide) ?_
                refine y_goto 33 dX8_findWorlds_80 (by decide) ?_
                exact y_eq (μ2 := mPut (mwS k μ j jd u) μ) (by rw [mPut_mPut, mPut_75, mPut_76, mwS, if_pos ⟨h44, h48, h59, h68⟩]) (by rw [dI_S]; rfl) rfl (ih33 _ ⟨itr_nx hjd hv33.1 rfl, mwS_le k μ j hjd hv33.2⟩)
  · refine y_aload_n dX8_findWorlds_15 rfl rfl ?_
    refine y_bipush dX8_findWorlds_16 ib_m6 ?_
    refine y_iconst dX8_findWorlds_18 ic_0 ?_
    refine y_cV2 dX8_findWorlds_19 meX8_addWorld clX8 kd_58 wm_ml_X8_269 (kX8_addWorld (c := 0) (by decide) rfl) ⟨Nat.le_of_ble_eq_true rfl, Nat.le_of_ble_eq_true rfl⟩ ⟨rfl, rfl⟩ (Nat.le_of_ble_eq_true rfl) (fun v19 μ19 hp19 => ?_)
    obtain ⟨rfl, he19⟩ := hp19
    replace he19 := he19.symm
    subst he19
    refine y_rv ?_
    refine y_iconst (v := nI 0) dX8_findWorlds_22 icn_0 ?_
    refine y_istore_n dX8_findWorlds_23 rfl rfl (by decide) ?_
    refine y_eq (show _ = mPut (wAdd (isW k μ (-6) 0) (-6) 0 (μ 75, μ 76, 0)) μ by rw [show isW k μ (-6) 0 = true from h12]; rw [mPut_mPut, mPut_75, mPut_76]) rfl rfl ?_
    refine y_loop1 (fun (j : Nat) (w : WsT) => [some (.ref (G.2.1 58)), some (.int (nI j)), none]) (fun (j : Nat) (w : WsT) => mPut w μ) (fun (j : Nat) (w : WsT) => itr (mwP k μ) (8 - j) j w = mWs k μ ∧ w.2.2 ≤ 1 + 18 * j) 8 (fun w hv24 => ?_) (fun j w hj hv24 ih24 => ?_) 0 (wAdd (isW k μ (-6) 0) (-6) 0 (μ 75, μ 76, 0)) (Nat.zero_le _) (⟨rfl, wAdd_1 _ _ _ _⟩)
    · refine y_iload_n dX8_findWorlds_24 rfl rfl ?_
      refine y_bipush dX8_findWorlds_25 ib_8 ?_
      refine y_icmp_ge 89 dX8_findWorlds_27 (by decide) (fun _ => ?_) (fun hq => absurd (by decide) hq)
      refine y_vret dX8_findWorlds_89 ?_
      exact ⟨rfl, by rw [mFind, itr_ex hv24.1]⟩
    · refine y_iload_n dX8_findWorlds_24 rfl rfl ?_
      refine y_bipush dX8_findWorlds_25 ib_8 ?_
      refine y_icmp_ge 89 dX8_findWorlds_27 (by decide) (fun hq => absurd hq (nI_ge (b := 8) hj (by decide))) (fun _ => ?_)
      refine y_bipush dX8_findWorlds_30 ib_m9 ?_
      refine y_istore_n dX8_findWorlds_32 rfl rfl (by decide) ?_
      refine y_loop1 (fun (jd : Nat) (u : WsT) => [some (.ref (G.2.1 58)), some (.int (nI j)), some (.int (dI jd))]) (fun (jd : Nat) (u : WsT) => mPut u μ) (fun (jd : Nat) (u : WsT) => itr (mwS k μ j) (19 - jd) jd u = mwP k μ j w ∧ u.2.2 ≤ 1 + 18 * j + (if jd ≤ 9 then jd else jd - 1)) 19 (fun u hv33 => ?_) (fun jd u hjd hv33 ih33 => ?_) 0 (w) (Nat.zero_le _) (⟨rfl, by simpa using hv24.2⟩)
      · have hz := itr_ex hv33.1
        clear hv33
        subst hz
        refine y_iload_n dX8_findWorlds_33 rfl rfl ?_
        refine y_bipush dX8_findWorlds_34 ib_9 ?_
        refine y_icmp_gt 83 dX8_findWorlds_36 (by decide) (fun _ => ?_) (fun hq => absurd (by decide) hq)
        refine y_iinc (v := nI (j + 1)) dX8_findWorlds_83 rfl (nI_i1 _) rfl (by decide) ?_
        refine y_goto 24 dX8_findWorlds_86 (by decide) ?_
        exact y_drop 2 (ih24 _ ⟨itr_nx hj hv24.1 rfl, by have := mwP_le k μ j hv24.2; omega⟩)
      · refine y_iload_n dX8_findWorlds_33 rfl rfl ?_
        refine y_bipush dX8_findWorlds_34 ib_9 ?_
        refine y_icmp_gt 83 dX8_findWorlds_36 (by decide) (fun hq => absurd hq (dI_le hjd)) (fun _ => ?_)
        refine y_aload_n dX8_findWorlds_39 rfl rfl ?_
        refine y_iload_n dX8_findWorlds_40 rfl rfl ?_
        refine y_cV1 dX8_findWorlds_41 meX8_isPerson clX8 kd_58 wm_ml_X8_84 (kX8_isPerson) ⟨Nat.le_of_ble_eq_true rfl, Nat.le_of_ble_eq_true rfl⟩ ⟨rfl, rfl⟩ (Nat.le_of_ble_eq_true rfl) (fun v41 μ41 hp41 => ?_)
        obtain ⟨rfl, he41⟩ := hp41
        replace he41 := he41.symm
        subst he41
        refine y_ri ?_
        refine y_ifb_eq 77 dX8_findWorlds_44 (by decide) (fun h44 => ?_) (fun h44 => ?_)
        · refine y_iinc dX8_findWorlds_77 rfl (ii_1 _) rfl (by decide) ?_
          refine y_goto 33 dX8_findWorlds_80 (by decide) ?_
          exact y_eq (μ2 := mPut (mwS k μ j jd u) μ) (by rw [mwS, if_neg (fun q => absurd (q.1.symm.trans h44) (by decide))]) (by rw [dI_S]; rfl) rfl (ih33 _ ⟨itr_nx hjd hv33.1 rfl, mwS_le k μ j hjd hv33.2⟩)
        · refine y_iload_n dX8_findWorlds_47 rfl rfl ?_
          refine y_if_eq 77 dX8_findWorlds_48 (by decide) (fun h48 => ?_) (fun h48 => ?_)
          · refine y_iinc dX8_findWorlds_77 rfl (ii_1 _) rfl (by decide) ?_
            refine y_goto 33 dX8_findWorlds_80 (by decide) ?_
            exact y_eq (μ2 := mPut (mwS k μ j jd u) μ) (by rw [mwS, if_neg (fun q => q.2.1 h48)]) (by rw [dI_S]; rfl) rfl (ih33 _ ⟨itr_nx hjd hv33.1 rfl, mwS_le k μ j hjd hv33.2⟩)
          · refine y_aload_n dX8_findWorlds_51 rfl rfl ?_
            refine y_getr dX8_findWorlds_52 4 clX8 kd_58 (by decide) wm_fl_X8_7 rfl rfl ?_
            refine y_iload_n dX8_findWorlds_55 rfl rfl ?_
            refine y_iald dX8_findWorlds_56 j kd_59 rfl (by first | assumption | decide | omega) (by decide) ?_
            refine y_iload_n dX8_findWorlds_57 rfl rfl ?_
            refine y_iadd dX8_findWorlds_58 ?_
            refine y_if_le 77 dX8_findWorlds_59 (by decide) (fun h59 => ?_) (fun h59 => ?_)
            · refine y_iinc dX8_findWorlds_77 rfl (ii_1 _) rfl (by decide) ?_
              refine y_goto 33 dX8_findWorlds_80 (by decide) ?_
              exact y_eq (μ2 := mPut (mwS k μ j jd u) μ) (by rw [mwS, if_neg (fun q => q.2.2.1 h59)]) (by rw [dI_S]; rfl) rfl (ih33 _ ⟨itr_nx hjd hv33.1 rfl, mwS_le k μ j hjd hv33.2⟩)
            · refine y_aload_n dX8_findWorlds_62 rfl rfl ?_
              refine y_iload_n dX8_findWorlds_63 rfl rfl ?_
              refine y_iload_n dX8_findWorlds_64 rfl rfl ?_
              refine y_cV2 dX8_findWorlds_65 meX8_isWorld clX8 kd_58 wm_ml_X8_266 (kX8_isWorld hk (by exact hs)) ⟨Nat.le_of_ble_eq_true rfl, Nat.le_of_ble_eq_true rfl⟩ ⟨rfl, rfl⟩ (Nat.le_of_ble_eq_true rfl) (fun v65 μ65 hp65 => ?_)
              obtain ⟨rfl, he65⟩ := hp65
              replace he65 := he65.symm
              subst he65
              refine y_ri ?_
              refine y_ifb_eq 77 dX8_findWorlds_68 (by decide) (fun h68 => ?_) (fun h68 => ?_)
              · refine y_iinc dX8_findWorlds_77 rfl (ii_1 _) rfl (by decide) ?_
                refine y_goto 33 dX8_findWorlds_80 (by decide) ?_
                exact y_eq (μ2 := mPut (mwS k μ j jd u) μ) (by rw [mwS, if_neg (fun q => absurd (q.2.2.2.symm.trans h68) (by decide))]) (by rw [dI_S]; rfl) rfl (ih33 _ ⟨itr_nx hjd hv33.1 rfl, mwS_le k μ j hjd hv33.2⟩)
              · refine y_aload_n dX8_findWorlds_71 rfl rfl ?_
                refine y_iload_n dX8_findWorlds_72 rfl rfl ?_
                refine y_iload_n dX8_findWorlds_73 rfl rfl ?_
                refine y_cV2 dX8_findWorlds_74 meX8_addWorld clX8 kd_58 wm_ml_X8_269 (kX8_addWorld (c := u.2.2) (by have := hv33.2; split at this <;> omega) (mPut_36 _ _)) ⟨Nat.le_of_ble_eq_true rfl, Nat.le_of_ble_eq_true rfl⟩ ⟨rfl, rfl⟩ (Nat.le_of_ble_eq_true rfl) (fun v74 μ74 hp74 => ?_)
                obtain ⟨rfl, he74⟩ := hp74
                replace he74 := he74.symm
                subst he74
                refine y_rv ?_
                refine y_iinc dX8_findWorlds_77 rfl (ii_1 _) rfl (by decide) ?_
                refine y_goto 33 dX8_findWorlds_80 (by decide) ?_
                exact y_eq (μ2 := mPut (mwS k μ j jd u) μ) (by rw [mPut_mPut, mPut_75, mPut_76, mwS, if_pos ⟨h44, h48, h59, h68⟩]) (by rw [dI_S]; rfl) rfl (ih33 _ ⟨itr_nx hjd hv33.1 rfl, mwS_le k μ j hjd hv33.2⟩)

set_option maxRecDepth 100000 in
set_option maxHeartbeats 4000000 in
theorem kX8_airs {l : Launch} {G : GT} {μ : MemT} {k : Nat} (hk : k ≤ 8) (hs : μ 58 11 = nI k) {x : Int32} : sw_Met l G yX8_airs cX8_airs 4 (some .int) (rmk 4 97) [.ref (G.2.1 58), .int x] μ (fun v μ2 => v = some (.int (mAirs k x μ).1) ∧ μ2 = (mAirs k x μ).2) := by
  refine sw_Met.ofY (by decide) (Nat.le_of_ble_eq_true rfl) rfl ?_
  refine y_iload_n dX8_airs_0 rfl rfl ?_
  refine y_i2l dX8_airs_1 ?_
  refine y_lconst dX8_airs_2 lc_0 ?_
  refine y_lconst dX8_airs_3 lc_1 ?_
  refine y_cS3 dX8_airs_4 meX8_in wm_ml_X8_77 (kX8_in (A := 0) (B := 1) rfl rfl) ⟨Nat.le_of_ble_eq_true rfl, Nat.le_of_ble_eq_true rfl⟩ ⟨rfl, rfl⟩ (Nat.le_of_ble_eq_true rfl) (fun v4 μ4 hp4 => ?_)
  obtain ⟨rfl, he4⟩ := hp4
  replace he4 := he4.symm
  subst he4
  refine y_ri ?_
  refine y_ifb_ne 13 dX8_airs_7 (by decide) (fun h7 => ?_) (fun h7 => ?_)
  · refine y_aload_n dX8_airs_13 rfl rfl ?_
    refine y_cV0 dX8_airs_14 meX8_findWorlds clX8 kd_58 wm_ml_X8_273 (kX8_findWorlds hk hs) ⟨Nat.le_of_ble_eq_true rfl, Nat.le_of_ble_eq_true rfl⟩ ⟨rfl, rfl⟩ (Nat.le_of_ble_eq_true rfl) (fun v14 μ14 hp14 => ?_)
    obtain ⟨rfl, he14⟩ := hp14
    replace he14 := he14.symm
    subst he14
    refine y_rv ?_
    refine y_iconst dX8_airs_17 ic_0 ?_
    refine y_istore_n dX8_airs_18 rfl rfl (by decide) ?_
    refine y_iconst (v := nI 0) dX8_airs_19 icn_0 ?_
    refine y_istore_n dX8_airs_20 rfl rfl (by decide) ?_
    refine y_loop1 (fun (j : Nat) (m : Int32) => [some (.ref (G.2.1 58)), some (.int x), some (.int m), some (.int (nI j))]) (fun (j : Nat) (m : Int32) => mFind k μ) (fun (j : Nat) (m : Int32) => itr (aiI (mWs k μ).1) ((mWs k μ).2.2 - j) j m = itr (aiI (mWs k μ).1) (mWs k μ).2.2 0 0) (mWs k μ).2.2 (fun m hv21 => ?_) (fun j m hj hv21 ih21 => ?_) 0 (0) (Nat.zero_le _) (rfl)
    · refine y_iload_n dX8_airs_21 rfl rfl ?_
      refine y_aload_n dX8_airs_22 rfl rfl ?_
      refine y_geti dX8_airs_23 36 clX8 kd_58 (by decide) wm_fl_X8_263 rfl rfl ?_
      refine y_icmp_ge 59 dX8_airs_26 (by decide) (fun _ => ?_) (fun hq => absurd (by rw [mFind_36 k μ]; exact Int32.le_refl _) hq)
      refine y_iload_n dX8_airs_59 rfl rfl ?_
      refine y_if_ne 70 dX8_airs_60 (by decide) (fun h60 => ?_) (fun h60 => ?_)
      · refine y_iload_n dX8_airs_70 rfl rfl ?_
        refine y_iret dX8_airs_71 ?_
        have hz := itr_ex hv21
        subst hz
        clear hv21
        constructor <;> simp_all [mAirs, mFind_36]
      · refine y_aload_n dX8_airs_63 rfl rfl ?_
        refine y_geti dX8_airs_64 36 clX8 kd_58 (by decide) wm_fl_X8_263 rfl rfl ?_
        refine y_goto 71 dX8_airs_67 (by decide) ?_
        refine y_iret dX8_airs_71 ?_
        have hz := itr_ex hv21
        subst hz
        clear hv21
        constructor <;> simp_all [mAirs, mFind_36]
    · refine y_iload_n dX8_airs_21 rfl rfl ?_
      refine y_aload_n dX8_airs_22 rfl rfl ?_
      refine y_geti dX8_airs_23 36 clX8 kd_58 (by decide) wm_fl_X8_263 rfl rfl ?_
      refine y_icmp_ge 59 dX8_airs_26 (by decide) (fun hq => absurd (by rw [mFind_36 k μ] at hq; exact hq) (nI_ge hj (by have := mWs_le k μ; omega))) (fun _ => ?_)
      refine y_iload_n dX8_airs_29 rfl rfl ?_
      refine y_aload_n dX8_airs_30 rfl rfl ?_
      refine y_getr dX8_airs_31 34 clX8 kd_58 (by decide) wm_fl_X8_59 rfl rfl ?_
      refine y_iload_n dX8_airs_34 rfl rfl ?_
      refine y_iald dX8_airs_35 j kd_75 rfl (by have := mWs_le k μ; omega) (by decide) ?_
      refine y_if_lt 50 dX8_airs_36 (by decide) (fun h36 => ?_) (fun h36 => ?_)
      · refine y_iconst dX8_airs_50 ic_0 ?_
        refine y_ior dX8_airs_51 ?_
        refine y_istore_n dX8_airs_52 rfl rfl (by decide) ?_
        refine y_iinc (v := nI (j + 1)) dX8_airs_53 rfl (nI_i1 _) rfl (by decide) ?_
        refine y_goto 21 dX8_airs_56 (by decide) ?_
        exact ih21 _ (itr_nx hj hv21 (by clear ih21 hv21; rw [mFind_75] at *; simp_all [-Int32.not_lt, aiI]))
      · refine y_iconst dX8_airs_39 ic_1 ?_
        refine y_aload_n dX8_airs_40 rfl rfl ?_
        refine y_getr dX8_airs_41 34 clX8 kd_58 (by decide) wm_fl_X8_59 rfl rfl ?_
        refine y_iload_n dX8_airs_44 rfl rfl ?_
        refine y_iald dX8_airs_45 j kd_75 rfl (by have := mWs_le k μ; omega) (by decide) ?_
        refine y_ishl dX8_airs_46 ?_
        refine y_goto 51 dX8_airs_47 (by decide) ?_
        refine y_ior dX8_airs_51 ?_
        refine y_istore_n dX8_airs_52 rfl rfl (by decide) ?_
        refine y_iinc (v := nI (j + 1)) dX8_airs_53 rfl (nI_i1 _) rfl (by decide) ?_
        refine y_goto 21 dX8_airs_56 (by decide) ?_
        exact ih21 _ (itr_nx hj hv21 (by clear ih21 hv21; rw [mFind_75] at *; simp_all [-Int32.not_lt, aiI]))
  · refine y_bipush dX8_airs_10 ib_m2 ?_
    refine y_iret dX8_airs_12 ?_
    constructor <;> simp_all [mAirs]

set_option maxRecDepth 100000 in
set_option maxHeartbeats 4000000 in
theorem kX8_air {l : Launch} {G : GT} {μ : MemT} {k : Nat} (hk : k ≤ 8) (hs : μ 58 11 = nI k) {x : Int32} : sw_Met l G yX8_air cX8_air 3 (some .int) (rmk 4 97) [.ref (G.2.1 58), .int x] μ (fun v μ2 => v = some (.int (mAir k x μ).1) ∧ μ2 = (mAir k x μ).2) := by
  refine sw_Met.ofY (by decide) (Nat.le_of_ble_eq_true rfl) rfl ?_
  refine y_aload_n dX8_air_0 rfl rfl ?_
  refine y_iload_n dX8_air_1 rfl rfl ?_
  refine y_cV1 dX8_air_2 meX8_isPerson clX8 kd_58 wm_ml_X8_84 (kX8_isPerson) ⟨Nat.le_of_ble_eq_true rfl, Nat.le_of_ble_eq_true rfl⟩ ⟨rfl, rfl⟩ (Nat.le_of_ble_eq_true rfl) (fun v2 μ2 hp2 => ?_)
  obtain ⟨rfl, he2⟩ := hp2
  replace he2 := he2.symm
  subst he2
  refine y_ri ?_
  refine y_ifb_ne 10 dX8_air_5 (by decide) (fun h5 => ?_) (fun h5 => ?_)
  · refine y_aload_n dX8_air_10 rfl rfl ?_
    refine y_cV0 dX8_air_11 meX8_findWorlds clX8 kd_58 wm_ml_X8_273 (kX8_findWorlds hk hs) ⟨Nat.le_of_ble_eq_true rfl, Nat.le_of_ble_eq_true rfl⟩ ⟨rfl, rfl⟩ (Nat.le_of_ble_eq_true rfl) (fun v11 μ11 hp11 => ?_)
    obtain ⟨rfl, he11⟩ := hp11
    replace he11 := he11.symm
    subst he11
    refine y_rv ?_
    refine y_iconst (v := nI 0) dX8_air_14 icn_0 ?_
    refine y_istore_n dX8_air_15 rfl rfl (by decide) ?_
    refine y_loop0 (fun (j : Nat)  => [some (.ref (G.2.1 58)), some (.int x), some (.int (nI j))]) (fun (j : Nat)  => mFind k μ) (fun (j : Nat)  => fnd (fun j => decide ((mWs k μ).1 j = x)) ((mWs k μ).2.2 - j) j = fnd (fun j => decide ((mWs k μ).1 j = x)) (mWs k μ).2.2 0) (mWs k μ).2.2 (fun  hv16 => ?_) (fun j hj hv16 ih16 => ?_) 0  (Nat.zero_le _) (rfl)
    · refine y_iload_n dX8_air_16 rfl rfl ?_
      refine y_aload_n dX8_air_17 rfl rfl ?_
      refine y_geti dX8_air_18 36 clX8 kd_58 (by decide) wm_fl_X8_263 rfl rfl ?_
      refine y_icmp_ge 50 dX8_air_21 (by decide) (fun _ => ?_) (fun hq => absurd (by rw [mFind_36 k μ]; exact Int32.le_refl _) hq)
      refine y_bipush dX8_air_50 ib_m6 ?_
      refine y_iret dX8_air_52 ?_
      have e := fnd_ex hv16
      clear hv16
      constructor
      · simp_all [mAir, mAirV]
      · simp_all [mAir]
    · refine y_iload_n dX8_air_16 rfl rfl ?_
      refine y_aload_n dX8_air_17 rfl rfl ?_
      refine y_geti dX8_air_18 36 clX8 kd_58 (by decide) wm_fl_X8_263 rfl rfl ?_
      refine y_icmp_ge 50 dX8_air_21 (by decide) (fun hq => absurd (by rw [mFind_36 k μ] at hq; exact hq) (nI_ge hj (by have := mWs_le k μ; omega))) (fun _ => ?_)
      refine y_aload_n dX8_air_24 rfl rfl ?_
      refine y_getr dX8_air_25 34 clX8 kd_58 (by decide) wm_fl_X8_59 rfl rfl ?_
      refine y_iload_n dX8_air_28 rfl rfl ?_
      refine y_iald dX8_air_29 j kd_75 rfl (by have := mWs_le k μ; omega) (by decide) ?_
      refine y_iload_n dX8_air_30 rfl rfl ?_
      refine y_icmp_ne 44 dX8_air_31 (by decide) (fun h31 => ?_) (fun h31 => ?_)
      · refine y_iinc (v := nI (j + 1)) dX8_air_44 rfl (nI_i1 _) rfl (by decide) ?_
        refine y_goto 16 dX8_air_47 (by decide) ?_
        exact ih16 (fnd_nx hj hv16 (decide_eq_false (by rw [mFind_75] at h31; exact h31)))
      · refine y_aload_n dX8_air_34 rfl rfl ?_
        refine y_getr dX8_air_35 35 clX8 kd_58 (by decide) wm_fl_X8_62 rfl rfl ?_
        refine y_iload_n dX8_air_38 rfl rfl ?_
        refine y_iald dX8_air_39 j kd_76 rfl (by have := mWs_le k μ; omega) (by decide) ?_
        refine y_bipush dX8_air_40 ib_100 ?_
        refine y_iadd dX8_air_42 ?_
        refine y_iret dX8_air_43 ?_
        have e := fnd_hit hj hv16 (decide_eq_true (by rw [mFind_75] at h31; exact h31))
        clear hv16 ih16
        constructor
        · simp_all [mAir, mAirV, mFind_76]
        · simp_all [mAir]
  · refine y_iconst dX8_air_8 ic_m1 ?_
    refine y_iret dX8_air_9 ?_
    constructor <;> simp_all [mAir]

set_option maxRecDepth 100000 in
set_option maxHeartbeats 4000000 in
theorem kX8_mostLeft {l : Launch} {G : GT} {μ : MemT} {c : Nat} (hc145 : c ≤ 145) (hc : μ 58 36 = nI c) {x y : Int32} : sw_Met l G yX8_mostLeft cX8_mostLeft 7 (some .int) (rmk 2 51) [.ref (G.2.1 58), .int x, .int y] μ (fun v μ2 => v = some (.int (mLeft c x y μ)) ∧ μ2 = μ) := by
  refine sw_Met.ofY (by decide) (Nat.le_of_ble_eq_true rfl) rfl ?_
  refine y_iconst dX8_mostLeft_0 ic_0 ?_
  refine y_istore_n dX8_mostLeft_1 rfl rfl (by decide) ?_
  refine y_iconst dX8_mostLeft_2 ic_0 ?_
  refine y_istore dX8_mostLeft_3 rfl (by decide) ?_
  refine y_iconst (v := nI 0) dX8_mostLeft_5 icn_0 ?_
  refine y_istore dX8_mostLeft_6 rfl (by decide) ?_
  refine y_loop2 (fun (j : Nat) (a : Int32) (b : Int32) => [some (.ref (G.2.1 58)), some (.int x), some (.int y), some (.int a), some (.int b), some (.int (nI j)), none]) (fun (j : Nat) (a : Int32) (b : Int32) => μ) (fun (j : Nat) (a : Int32) (b : Int32) => itr (mlS x y μ) (c - j) j (a, b) = mlR c x y μ) c (fun a b hv8 => ?_) (fun j a b hj hv8 ih8 => ?_) 0 (0) (0) (Nat.zero_le _) (rfl)
  · refine y_iload dX8_mostLeft_8 rfl ?_
    refine y_aload_n dX8_mostLeft_10 rfl rfl ?_
    refine y_geti dX8_mostLeft_11 36 clX8 kd_58 (by decide) wm_fl_X8_263 rfl rfl ?_
    refine y_icmp_ge 78 dX8_mostLeft_14 (by decide) (fun _ => ?_) (fun hq => absurd (by rw [hc]; exact Int32.le_refl _) hq)
    refine y_aload_n dX8_mostLeft_78 rfl rfl ?_
    refine y_geti dX8_mostLeft_79 36 clX8 kd_58 (by decide) wm_fl_X8_263 rfl rfl ?_
    refine y_iload_n dX8_mostLeft_82 rfl rfl ?_
    refine y_isub dX8_mostLeft_83 ?_
    refine y_iload dX8_mostLeft_84 rfl ?_
    refine y_isub dX8_mostLeft_86 ?_
    refine y_istore dX8_mostLeft_87 rfl (by decide) ?_
    refine y_iload_n dX8_mostLeft_89 rfl rfl ?_
    refine y_iload dX8_mostLeft_90 rfl ?_
    refine y_icmp_le 99 dX8_mostLeft_92 (by decide) (fun h92 => ?_) (fun h92 => ?_)
    · refine y_iload dX8_mostLeft_99 rfl ?_
      refine y_istore dX8_mostLeft_101 rfl (by decide) ?_
      refine y_iload dX8_mostLeft_103 rfl ?_
      refine y_iload dX8_mostLeft_105 rfl ?_
      refine y_icmp_le 115 dX8_mostLeft_107 (by decide) (fun h107 => ?_) (fun h107 => ?_)
      · refine y_iload dX8_mostLeft_115 rfl ?_
        refine y_iret dX8_mostLeft_117 ?_
        have hz := (itr_ex hv8).symm
        clear hv8
        refine ⟨?_, rfl⟩
        simp_all [-Int32.not_le, -Int32.not_lt, mLeft, mxI]
      · refine y_iload dX8_mostLeft_110 rfl ?_
        refine y_goto 117 dX8_mostLeft_112 (by decide) ?_
        refine y_iret dX8_mostLeft_117 ?_
        have hz := (itr_ex hv8).symm
        clear hv8
        refine ⟨?_, rfl⟩
        simp_all [-Int32.not_le, -Int32.not_lt, mLeft, mxI]
    · refine y_iload_n dX8_mostLeft_95 rfl rfl ?_
      refine y_goto 101 dX8_mostLeft_96 (by decide) ?_
      refine y_istore dX8_mostLeft_101 rfl (by decide) ?_
      refine y_iload dX8_mostLeft_103 rfl ?_
      refine y_iload dX8_mostLeft_105 rfl ?_
      refine y_icmp_le 115 dX8_mostLeft_107 (by decide) (fun h107 => ?_) (fun h107 => ?_)
      · refine y_iload dX8_mostLeft_115 rfl ?_
        refine y_iret dX8_mostLeft_117 ?_
        have hz := (itr_ex hv8).symm
        clear hv8
        refine ⟨?_, rfl⟩
        simp_all [-Int32.not_le, -Int32.not_lt, mLeft, mxI]
      · refine y_iload dX8_mostLeft_110 rfl ?_
        refine y_goto 117 dX8_mostLeft_112 (by decide) ?_
        refine y_iret dX8_mostLeft_117 ?_
        have hz := (itr_ex hv8).symm
        clear hv8
        refine ⟨?_, rfl⟩
        simp_all [-Int32.not_le, -Int32.not_lt, mLeft, mxI]
  · refine y_iload dX8_mostLeft_8 rfl ?_
    refine y_aload_n dX8_mostLeft_10 rfl rfl ?_
    refine y_geti dX8_mostLeft_11 36 clX8 kd_58 (by decide) wm_fl_X8_263 rfl rfl ?_
    refine y_icmp_ge 78 dX8_mostLeft_14 (by decide) (fun hq => absurd (by rw [hc] at hq; exact hq) (nI_ge hj (by omega))) (fun _ => ?_)
    refine y_aload_n dX8_mostLeft_17 rfl rfl ?_
    refine y_iconst dX8_mostLeft_18 ic_1 ?_
    refine y_iload_n dX8_mostLeft_19 rfl rfl ?_
    refine y_ishl dX8_mostLeft_20 ?_
    refine y_iconst dX8_mostLeft_21 ic_1 ?_
    refine y_iload_n dX8_mostLeft_22 rfl rfl ?_
    refine y_ishl dX8_mostLeft_23 ?_
    refine y_aload_n dX8_mostLeft_24 rfl rfl ?_
    refine y_getr dX8_mostLeft_25 34 clX8 kd_58 (by decide) wm_fl_X8_59 rfl rfl ?_
    refine y_iload dX8_mostLeft_28 rfl ?_
    refine y_iald dX8_mostLeft_30 j kd_75 rfl (by omega) (by decide) ?_
    refine y_aload_n dX8_mostLeft_31 rfl rfl ?_
    refine y_getr dX8_mostLeft_32 35 clX8 kd_58 (by decide) wm_fl_X8_62 rfl rfl ?_
    refine y_iload dX8_mostLeft_35 rfl ?_
    refine y_iald dX8_mostLeft_37 j kd_76 rfl (by omega) (by decide) ?_
    refine y_cV4 dX8_mostLeft_38 meX8_howAcross clX8 kd_58 wm_ml_X8_259 (kX8_howAcross) ⟨Nat.le_of_ble_eq_true rfl, Nat.le_of_ble_eq_true rfl⟩ ⟨rfl, rfl⟩ (Nat.le_of_ble_eq_true rfl) (fun v38 μ38 hp38 => ?_)
    obtain ⟨rfl, he38⟩ := hp38
    replace he38 := he38.symm
    subst he38
    refine y_ri ?_
    refine y_istore dX8_mostLeft_41 rfl (by decide) ?_
    refine y_iload_n dX8_mostLeft_43 rfl rfl ?_
    refine y_iload dX8_mostLeft_44 rfl ?_
    refine y_if_ne 53 dX8_mostLeft_46 (by decide) (fun h46 => ?_) (fun h46 => ?_)
    · refine y_iconst dX8_mostLeft_53 ic_0 ?_
      refine y_iadd dX8_mostLeft_54 ?_
      refine y_istore_n dX8_mostLeft_55 rfl rfl (by decide) ?_
      refine y_iload dX8_mostLeft_56 rfl ?_
      refine y_iload dX8_mostLeft_58 rfl ?_
      refine y_iconst dX8_mostLeft_60 ic_1 ?_
      refine y_icmp_ne 68 dX8_mostLeft_61 (by decide) (fun h61 => ?_) (fun h61 => ?_)
      · refine y_iconst dX8_mostLeft_68 ic_0 ?_
        refine y_iadd dX8_mostLeft_69 ?_
        refine y_istore dX8_mostLeft_70 rfl (by decide) ?_
        refine y_iinc (v := nI (j + 1)) dX8_mostLeft_72 rfl (nI_i1 _) rfl (by decide) ?_
        refine y_goto 8 dX8_mostLeft_75 (by decide) ?_
        exact y_drop 6 (ih8 _ _ (itr_nx hj hv8 (by clear ih8 hv8; simp_all [mlS])))
      · refine y_iconst dX8_mostLeft_64 ic_1 ?_
        refine y_goto 69 dX8_mostLeft_65 (by decide) ?_
        refine y_iadd dX8_mostLeft_69 ?_
        refine y_istore dX8_mostLeft_70 rfl (by decide) ?_
        refine y_iinc (v := nI (j + 1)) dX8_mostLeft_72 rfl (nI_i1 _) rfl (by decide) ?_
        refine y_goto 8 dX8_mostLeft_75 (by decide) ?_
        exact y_drop 6 (ih8 _ _ (itr_nx hj hv8 (by clear ih8 hv8; simp_all [mlS])))
    · refine y_iconst dX8_mostLeft_49 ic_1 ?_
      refine y_goto 54 dX8_mostLeft_50 (by decide) ?_
      refine y_iadd dX8_mostLeft_54 ?_
      refine y_istore_n dX8_mostLeft_55 rfl rfl (by decide) ?_
      refine y_iload dX8_mostLeft_56 rfl ?_
      refine y_iload dX8_mostLeft_58 rfl ?_
      refine y_iconst dX8_mostLeft_60 ic_1 ?_
      refine y_icmp_ne 68 dX8_mostLeft_61 (by decide) (fun h61 => ?_) (fun h61 => ?_)
      · refine y_iconst dX8_mostLeft_68 ic_0 ?_
        refine y_iadd dX8_mostLeft_69 ?_
        refine y_istore dX8_mostLeft_70 rfl (by decide) ?_
        refine y_iinc (v := nI (j + 1)) dX8_mostLeft_72 rfl (nI_i1 _) rfl (by decide) ?_
        refine y_goto 8 dX8_mostLeft_75 (by decide) ?_
        exact y_drop 6 (ih8 _ _ (itr_nx hj hv8 (by clear ih8 hv8; simp_all [mlS])))
      · refine y_iconst dX8_mostLeft_64 ic_1 ?_
        refine y_goto 69 dX8_mostLeft_65 (by decide) ?_
        refine y_iadd dX8_mostLeft_69 ?_
        refine y_istore dX8_mostLeft_70 rfl (by decide) ?_
        refine y_iinc (v := nI (j + 1)) dX8_mostLeft_72 rfl (nI_i1 _) rfl (by decide) ?_
        refine y_goto 8 dX8_mostLeft_75 (by decide) ?_
        exact y_drop 6 (ih8 _ _ (itr_nx hj hv8 (by clear ih8 hv8; simp_all [mlS])))

set_option maxRecDepth 100000 in
set_option maxHeartbeats 4000000 in
theorem kX8_cross {l : Launch} {G : GT} {μ : MemT} {k : Nat} (hk : k ≤ 8) (hs : μ 58 11 = nI k) {x : Int32} : sw_Met l G yX8_cross cX8_cross 6 (some .int) (rmk 4 97) [.ref (G.2.1 58), .int x] μ (fun v μ2 => v = some (.int (mCross k x μ).1) ∧ μ2 = (mCross k x μ).2) := by
  refine sw_Met.ofY (by decide) (Nat.le_of_ble_eq_true rfl) rfl ?_
  refine y_iload_n dX8_cross_0 rfl rfl ?_
  refine y_i2l dX8_cross_1 ?_
  refine y_lconst dX8_cross_2 lc_0 ?_
  refine y_lconst dX8_cross_3 lc_1 ?_
  refine y_cS3 dX8_cross_4 meX8_in wm_ml_X8_77 (kX8_in (A := 0) (B := 1) rfl rfl) ⟨Nat.le_of_ble_eq_true rfl, Nat.le_of_ble_eq_true rfl⟩ ⟨rfl, rfl⟩ (Nat.le_of_ble_eq_true rfl) (fun v4 μ4 hp4 => ?_)
  obtain ⟨rfl, he4⟩ := hp4
  replace he4 := he4.symm
  subst he4
  refine y_ri ?_
  refine y_ifb_ne 13 dX8_cross_7 (by decide) (fun h7 => ?_) (fun h7 => ?_)
  · refine y_aload_n dX8_cross_13 rfl rfl ?_
    refine y_cV0 dX8_cross_14 meX8_findWorlds clX8 kd_58 wm_ml_X8_273 (kX8_findWorlds hk hs) ⟨Nat.le_of_ble_eq_true rfl, Nat.le_of_ble_eq_true rfl⟩ ⟨rfl, rfl⟩ (Nat.le_of_ble_eq_true rfl) (fun v14 μ14 hp14 => ?_)
    obtain ⟨rfl, he14⟩ := hp14
    replace he14 := he14.symm
    subst he14
    refine y_rv ?_
    refine y_bipush dX8_cross_17 ib_m6 ?_
    refine y_istore_n dX8_cross_19 rfl rfl (by decide) ?_
    refine y_iconst dX8_cross_20 ic_0 ?_
    refine y_istore_n dX8_cross_21 rfl rfl (by decide) ?_
    refine y_iconst (v := nI 0) dX8_cross_22 icn_0 ?_
    refine y_istore dX8_cross_23 rfl (by decide) ?_
    refine y_loop2 (fun (j : Nat) (f : Int32) (g : Int32) => [some (.ref (G.2.1 58)), some (.int x), some (.int f), some (.int g), some (.int (nI j)), none]) (fun (j : Nat) (f : Int32) (g : Int32) => mFind k μ) (fun (j : Nat) (f : Int32) (g : Int32) => itr (crP (mWs k μ).2.2 (mFind k μ)) (8 - j) j (f, g) = crR (mWs k μ).2.2 (mFind k μ)) 8 (fun f g hv25 => ?_) (fun j f g hj hv25 ih25 => ?_) 0 (-6) (0) (Nat.zero_le _) (rfl)
    · refine y_iload dX8_cross_25 rfl ?_
      refine y_bipush dX8_cross_27 ib_8 ?_
      refine y_icmp_ge 109 dX8_cross_29 (by decide) (fun _ => ?_) (fun hq => absurd (by decide) hq)
      refine y_iload_n dX8_cross_109 rfl rfl ?_
      refine y_if_lt 117 dX8_cross_110 (by decide) (fun h110 => ?_) (fun h110 => ?_)
      · refine y_iload_n dX8_cross_117 rfl rfl ?_
        refine y_goto 122 dX8_cross_118 (by decide) ?_
        refine y_iret dX8_cross_122 ?_
        have hz := (itr_ex hv25).symm
        clear hv25
        constructor <;> simp_all [-Int32.not_le, -Int32.not_lt, mCross]
      · refine y_iload_n dX8_cross_113 rfl rfl ?_
        refine y_if_ne 121 dX8_cross_114 (by decide) (fun h114 => ?_) (fun h114 => ?_)
        · refine y_iload_n dX8_cross_121 rfl rfl ?_
          refine y_iret dX8_cross_122 ?_
          have hz := (itr_ex hv25).symm
          clear hv25
          constructor <;> simp_all [-Int32.not_le, -Int32.not_lt, mCross]
        · refine y_iload_n dX8_cross_117 rfl rfl ?_
          refine y_goto 122 dX8_cross_118 (by decide) ?_
          refine y_iret dX8_cross_122 ?_
          have hz := (itr_ex hv25).symm
          clear hv25
          constructor <;> simp_all [-Int32.not_le, -Int32.not_lt, mCross]
    · refine y_iload dX8_cross_25 rfl ?_
      refine y_bipush dX8_cross_27 ib_8 ?_
      refine y_icmp_ge 109 dX8_cross_29 (by decide) (fun hq => absurd hq (nI_ge (b := 8) hj (by decide))) (fun _ => ?_)
      refine y_iload dX8_cross_32 rfl ?_
      refine y_iconst dX8_cross_34 ic_1 ?_
      refine y_iadd dX8_cross_35 ?_
      refine y_istore dX8_cross_36 rfl (by decide) ?_
      refine y_eq (lv2 := [some (.ref (G.2.1 58)), some (.int x), some (.int f), some (.int g), some (.int (nI j)), some (.int (nI (j + 1)))]) rfl (by rw [← nI_1]; rfl) rfl ?_
      refine y_loop2 (fun (jq : Nat) (a : Int32) (b : Int32) => [some (.ref (G.2.1 58)), some (.int x), some (.int a), some (.int b), some (.int (nI j)), some (.int (nI jq))]) (fun (jq : Nat) (a : Int32) (b : Int32) => mFind k μ) (fun (jq : Nat) (a : Int32) (b : Int32) => itr (crS (mWs k μ).2.2 (mFind k μ) j) (8 - jq) jq (a, b) = crP (mWs k μ).2.2 (mFind k μ) j (f, g)) 8 (fun a b hv38 => ?_) (fun jq a b hjq hv38 ih38 => ?_) (j + 1) (f) (g) (by omega) (rfl)
      · have hz := itr_ex hv38
        clear hv38
        refine y_iload dX8_cross_38 rfl ?_
        refine y_bipush dX8_cross_40 ib_8 ?_
        refine y_icmp_ge 103 dX8_cross_42 (by decide) (fun _ => ?_) (fun hq => absurd (by decide) hq)
        refine y_iinc (v := nI (j + 1)) dX8_cross_103 rfl (nI_i1 _) rfl (by decide) ?_
        refine y_goto 25 dX8_cross_106 (by decide) ?_
        exact y_drop 5 (ih25 _ _ (itr_nx hj hv25 hz))
      · refine y_iload dX8_cross_38 rfl ?_
        refine y_bipush dX8_cross_40 ib_8 ?_
        refine y_icmp_ge 103 dX8_cross_42 (by decide) (fun hq => absurd hq (nI_ge (b := 8) hjq (by decide))) (fun _ => ?_)
        refine y_aload_n dX8_cross_45 rfl rfl ?_
        refine y_geti dX8_cross_46 36 clX8 kd_58 (by decide) wm_fl_X8_263 rfl rfl ?_
        refine y_if_le 97 dX8_cross_49 (by decide) (fun h49 => ?_) (fun h49 => ?_)
        · refine y_iinc (v := nI (jq + 1)) dX8_cross_97 rfl (nI_i1 _) rfl (by decide) ?_
          refine y_goto 38 dX8_cross_100 (by decide) ?_
          exact ih38 _ _ (itr_nx hjq hv38 (by clear ih38 ih25 hv38 hv25; simp_all [-Int32.not_le, -Int32.not_lt, crS]))
        · refine y_aload_n dX8_cross_52 rfl rfl ?_
          refine y_iload dX8_cross_53 rfl ?_
          refine y_iload dX8_cross_55 rfl ?_
          refine y_cV2 dX8_cross_57 meX8_areTwo clX8 kd_58 wm_ml_X8_107 (kX8_areTwo) ⟨Nat.le_of_ble_eq_true rfl, Nat.le_of_ble_eq_true rfl⟩ ⟨rfl, rfl⟩ (Nat.le_of_ble_eq_true rfl) (fun v57 μ57 hp57 => ?_)
          obtain ⟨rfl, he57⟩ := hp57
          replace he57 := he57.symm
          subst he57
          refine y_ri ?_
          refine y_ifb_eq 97 dX8_cross_60 (by decide) (fun h60 => ?_) (fun h60 => ?_)
          · refine y_iinc (v := nI (jq + 1)) dX8_cross_97 rfl (nI_i1 _) rfl (by decide) ?_
            refine y_goto 38 dX8_cross_100 (by decide) ?_
            exact ih38 _ _ (itr_nx hjq hv38 (by clear ih38 ih25 hv38 hv25; simp_all [-Int32.not_le, -Int32.not_lt, crS]))
          · refine y_iload_n dX8_cross_63 rfl rfl ?_
            refine y_if_lt 79 dX8_cross_64 (by decide) (fun h64 => ?_) (fun h64 => ?_)
            · refine y_bipush dX8_cross_79 ib_10 ?_
              refine y_iload dX8_cross_81 rfl ?_
              refine y_imul dX8_cross_83 ?_
              refine y_iload dX8_cross_84 rfl ?_
              refine y_iadd dX8_cross_86 ?_
              refine y_istore_n dX8_cross_87 rfl rfl (by decide) ?_
              refine y_aload_n dX8_cross_88 rfl rfl ?_
              refine y_iload dX8_cross_89 rfl ?_
              refine y_iload dX8_cross_91 rfl ?_
              refine y_cV2 dX8_cross_93 meX8_mostLeft clX8 kd_58 wm_ml_X8_276 (kX8_mostLeft (mWs_le k μ) (mFind_36 k μ)) ⟨Nat.le_of_ble_eq_true rfl, Nat.le_of_ble_eq_true rfl⟩ ⟨rfl, rfl⟩ (Nat.le_of_ble_eq_true rfl) (fun v93 μ93 hp93 => ?_)
              obtain ⟨rfl, he93⟩ := hp93
              replace he93 := he93.symm
              subst he93
              refine y_ri ?_
              refine y_istore_n dX8_cross_96 rfl rfl (by decide) ?_
              refine y_iinc (v := nI (jq + 1)) dX8_cross_97 rfl (nI_i1 _) rfl (by decide) ?_
              refine y_goto 38 dX8_cross_100 (by decide) ?_
              exact ih38 _ _ (itr_nx hjq hv38 (by clear ih38 ih25 hv38 hv25; simp_all [-Int32.not_le, -Int32.not_lt, crS]))
            · refine y_aload_n dX8_cross_67 rfl rfl ?_
              refine y_iload dX8_cross_68 rfl ?_
              refine y_iload dX8_cross_70 rfl ?_
              refine y_cV2 dX8_cross_72 meX8_mostLeft clX8 kd_58 wm_ml_X8_276 (kX8_mostLeft (mWs_le k μ) (mFind_36 k μ)) ⟨Nat.le_of_ble_eq_true rfl, Nat.le_of_ble_eq_true rfl⟩ ⟨rfl, rfl⟩ (Nat.le_of_ble_eq_true rfl) (fun v72 μ72 hp72 => ?_)
              obtain ⟨rfl, he72⟩ := hp72
              replace he72 := he72.symm
              subst he72
              refine y_ri ?_
              refine y_iload_n dX8_cross_75 rfl rfl ?_
              refine y_icmp_ge 97 dX8_cross_76 (by decide) (fun h76 => ?_) (fun h76 => ?_)
              · refine y_iinc (v := nI (jq + 1)) dX8_cross_97 rfl (nI_i1 _) rfl (by decide) ?_
                refine y_goto 38 dX8_cross_100 (by decide) ?_
                exact ih38 _ _ (itr_nx hjq hv38 (by clear ih38 ih25 hv38 hv25; simp_all [-Int32.not_le, -Int32.not_lt, crS]))
              · refine y_bipush dX8_cross_79 ib_10 ?_
                refine y_iload dX8_cross_81 rfl ?_
                refine y_imul dX8_cross_83 ?_
                refine y_iload dX8_cross_84 rfl ?_
                refine y_iadd dX8_cross_86 ?_
                refine y_istore_n dX8_cross_87 rfl rfl (by decide) ?_
                refine y_aload_n dX8_cross_88 rfl rfl ?_
                refine y_iload dX8_cross_89 rfl ?_
                refine y_iload dX8_cross_91 rfl ?_
                refine y_cV2 dX8_cross_93 meX8_mostLeft clX8 kd_58 wm_ml_X8_276 (kX8_mostLeft (mWs_le k μ) (mFind_36 k μ)) ⟨Nat.le_of_ble_eq_true rfl, Nat.le_of_ble_eq_true rfl⟩ ⟨rfl, rfl⟩ (Nat.le_of_ble_eq_true rfl) (fun v93 μ93 hp93 => ?_)
                obtain ⟨rfl, he93⟩ := hp93
                replace he93 := he93.symm
                subst he93
                refine y_ri ?_
                refine y_istore_n dX8_cross_96 rfl rfl (by decide) ?_
                refine y_iinc (v := nI (jq + 1)) dX8_cross_97 rfl (nI_i1 _) rfl (by decide) ?_
                refine y_goto 38 dX8_cross_100 (by decide) ?_
                exact ih38 _ _ (itr_nx hjq hv38 (by clear ih38 ih25 hv38 hv25; simp_all [-Int32.not_le, -Int32.not_lt, crS]))
  · refine y_bipush dX8_cross_10 ib_m2 ?_
    refine y_iret dX8_cross_12 ?_
    constructor <;> simp_all [mCross]
